section
theorem pk_inj {t t' : Nat → Int32} {i i' : Nat} : ∀ k k', (∀ m, m < k → isL (t (i + m))) → (∀ m, m < k' → isL (t' (i' + m))) → pk t i k = pk t' i' k' → k = k' ∧ ∀ m, m < k → t (i + m) = t' (i' + m) := by
  intro k
  induction k with
  | zero =>
    intro k' _ h2 e
    cases k' with
    | zero => exact ⟨rfl, fun m h => absurd h (Nat.not_lt_zero _)⟩
    | succ k' =>
      have h := h2 k' (Nat.lt_succ_self _)
      have e : 0 = pk t' i' k' * 256 + (t' (i' + k')).toInt.toNat := e
      have := h.1
      omega
  | succ k ih =>
    intro k' h1 h2 e
    have g := h1 k (Nat.lt_succ_self _)
    have g1 := g.1
    have g2 := g.2
    cases k' with
    | zero =>
      have e : pk t i k * 256 + (t (i + k)).toInt.toNat = 0 := e
      omega
    | succ k' =>
      have f := h2 k' (Nat.lt_succ_self _)
      have f1 := f.1
      have f2 := f.2
      have e : pk t i k * 256 + (t (i + k)).toInt.toNat = pk t' i' k' * 256 + (t' (i' + k')).toInt.toNat := e
      have e1 : pk t i k = pk t' i' k' := by omega
      have e2 : (t (i + k)).toInt = (t' (i' + k')).toInt := by omega
      obtain ⟨rfl, h⟩ := ih k' (fun m hm => h1 m (by omega)) (fun m hm => h2 m (by omega)) e1
      refine ⟨rfl, fun m hm => ?_⟩
      by_cases hk : m = k
      · subst hk; exact ni_eq.mpr e2
      · exact h m (by omega)
end
