section
theorem ll_lt {t : Nat → Int32} {n : Nat} : ∀ k i, k < ll t n i → ltr t n (i + k) = true := by
  intro k
  induction k with
  | zero =>
    intro i h
    by_cases hc : ltr t n i = true
    · exact hc
    · rw [ll_0 hc] at h; omega
  | succ k ih =>
    intro i h
    by_cases hc : ltr t n i = true
    · rw [ll_1 hc] at h
      rw [show i + (k + 1) = i + 1 + k by omega]
      exact ih (i + 1) (by omega)
    · rw [ll_0 hc] at h; omega
end
