section
theorem mS_nu {S : fS} {i w u j : Int32} : pI (mS S i w u) 145 15 j = mS S i w j := by
  unfold mS
  rw [pI_pI]
end
