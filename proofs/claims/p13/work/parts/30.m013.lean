section
theorem pkk_lt {t : Nat → Int32} {i : Nat} : ∀ k, (∀ m, m < k → isL (t (i + m))) → pk t i k < 256 ^ k ∧ 2 * pk t i k < 256 ^ k ∨ k = 0 := by
  intro k
  induction k with
  | zero => intro _; exact Or.inr rfl
  | succ k ih =>
    intro h
    have g := h k (Nat.lt_succ_self _)
    have g1 := g.1
    have g2 := g.2
    refine Or.inl ?_
    show pk t i k * 256 + (t (i + k)).toInt.toNat < 256 ^ (k + 1) ∧ 2 * (pk t i k * 256 + (t (i + k)).toInt.toNat) < 256 ^ (k + 1)
    rw [Nat.pow_succ]
    rcases ih (fun m hm => h m (by omega)) with h1 | rfl
    · omega
    · have : pk t i 0 = 0 := rfl
      rw [this]
      omega
end
