section
theorem mS_of {S : fS} : mS S (S.1 145 13) (S.1 145 14) (S.1 145 15) = S := by
  unfold mS
  rw [pI_self, pI_self, pI_self]
end
