section
theorem mS_wr {S : fS} {i w u j : Int32} : pI (mS S i w u) 145 14 j = mS S i j u := by
  unfold mS
  rw [pI_sw (by decide), pI_pI]
end
