section
theorem pI_ne {S : fS} {a k b j : Nat} {x : Int32} (h : ¬ (b = a ∧ j = k)) : (pI S a k x).1 b j = S.1 b j := by rw [pI_get, if_neg h]
end
