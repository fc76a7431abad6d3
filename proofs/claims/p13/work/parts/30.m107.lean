section
theorem pL_ne {S : fS} {a k b j : Nat} {x : Int64} (h : ¬ (b = a ∧ j = k)) : (pL S a k x).2 b j = S.2 b j := by rw [pL_get, if_neg h]
end
