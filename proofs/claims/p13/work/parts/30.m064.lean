section
theorem tS_pI {S : fS} {i s f x : Int32} {a k : Nat} (h : a ≠ 1) : pI (tS S i s f) a k x = tS (pI S a k x) i s f := by
  unfold tS
  rw [pI_sw (fun q => h q.1.symm), pI_sw (a := 1) (k := 3) (fun q => h q.1.symm), pI_sw (a := 1) (k := 2) (fun q => h q.1.symm)]
end
