section
theorem eD_pI {S : fS} {a k : Nat} {x : Int32} (h : wR a k) : eD S (pI S a k x) := ⟨fun b j n => by
  rw [pI_get]
  by_cases q : b = a ∧ j = k
  · exact absurd (q.1 ▸ q.2 ▸ h) n
  · rw [if_neg q], rfl⟩
end
