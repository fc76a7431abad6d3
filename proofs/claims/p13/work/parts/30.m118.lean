section
theorem rd_1 {X Y : fS} {c : Int32} (e : f_X11_see X = some (c, Y)) (hc : c ≠ -1) (hw : Y.1 145 14 = 0) : rdK 1 X = some (if (1 + 8 * Y.1 145 13 + 0 : Int32) = 0 then 1 else 0, pI (pI Y 145 14 (1 + 8 * Y.1 145 13 + 0)) 145 1 0) := by
  unfold rdK
  rw [if_neg (show ¬ (1 : Int32) = 0 by decide), e, bd_some]
  dsimp only
  rw [if_neg hc, mt_fails hw, bd_some]
  dsimp only
  rw [if_pos (show (0 : Int32) = 0 from rfl), bd_some, pI_ne (by omega), pI_eq]
  by_cases h : (1 + 8 * Y.1 145 13 + 0 : Int32) = 0
  · rw [if_pos h, if_pos h]
  · rw [if_neg h, if_neg h]
end
