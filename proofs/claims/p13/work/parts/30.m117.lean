section
theorem rd_0 {X : fS} : rdK 0 X = some (if X.1 145 14 = 0 then 1 else 0, pI X 145 1 0) := by
  unfold rdK
  rw [if_pos (show (0 : Int32) = 0 from rfl), if_pos (show (0 : Int32) = 0 from rfl), bd_some, pI_ne (by omega)]
  by_cases h : X.1 145 14 = 0
  · rw [if_pos h, if_pos h]
  · rw [if_neg h, if_neg h]
end
