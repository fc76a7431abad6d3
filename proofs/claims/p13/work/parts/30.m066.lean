section
theorem tS_ne {S : fS} {i s f : Int32} {a k : Nat} (h : a ≠ 1) : (tS S i s f).1 a k = S.1 a k := by
  unfold tS
  rw [pI_get, pI_get, pI_get, if_neg (fun q => h q.1), if_neg (fun q => h q.1), if_neg (fun q => h q.1)]
end
