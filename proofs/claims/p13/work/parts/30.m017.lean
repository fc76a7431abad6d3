section
theorem mS_nx {S : fS} {i w u j : Int32} : pI (mS S i w u) 145 13 j = mS S j w u := by
  unfold mS
  rw [pI_sw (by decide), pI_sw (a := 145) (k := 14) (by decide), pI_pI]
end
