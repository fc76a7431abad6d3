section
theorem ll_sub {t : Nat → Int32} {n j : Nat} : ∀ k, k ≤ ll t n j → ll t n (j + k) = ll t n j - k := by
  intro k
  induction k with
  | zero => intro _; rfl
  | succ k ih =>
    intro h
    have h1 := ih (by omega)
    have h3 := ll_1 (ll_lt (t := t) (n := n) k j (by omega))
    rw [show j + (k + 1) = j + k + 1 by omega]
    omega
end
