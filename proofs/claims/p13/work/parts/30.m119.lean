section
theorem rd_2 {X Y : fS} (e : f_X11_see X = some (-1, Y)) (h16 : Y.1 145 16 = 6) (h7 : Y.1 145 7 ≠ 0) (hw : Y.1 145 14 = 0) : rdK 1 X = some (1, pI Y 145 1 0) := by
  unfold rdK
  rw [if_neg (show ¬ (1 : Int32) = 0 by decide), e, bd_some]
  dsimp only
  rw [if_pos (show (-1 : Int32) = -1 from rfl), if_neg (show ¬ (1 : Int32) = 0 by decide), if_pos h16, if_neg h7, bd_some, pI_ne (by omega), if_pos hw]
end
