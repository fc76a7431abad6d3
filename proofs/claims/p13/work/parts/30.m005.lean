section
theorem ll_le {t : Nat → Int32} {n : Nat} : ∀ d i, n - i = d → i ≤ n → i + ll t n i ≤ n := by
  intro d
  induction d with
  | zero =>
    intro i h h2
    rw [ll_0 (fun q => by have := (ltr_iff.mp q).1; omega)]; omega
  | succ d ih =>
    intro i h h2
    by_cases hc : ltr t n i = true
    · rw [ll_1 hc]
      have := ih (i + 1) (by omega) (by omega)
      omega
    · rw [ll_0 hc]; omega
end
