section
theorem mS_mk {X : fS} {i w : Int32} : pI (pI X 145 13 i) 145 14 w = mS X i w (X.1 145 15) := by
  have e : X.1 145 15 = (pI (pI X 145 13 i) 145 14 w).1 145 15 := by rw [pI_get, if_neg (by omega), pI_get, if_neg (by omega)]
  unfold mS
  rw [e, pI_self]
end
