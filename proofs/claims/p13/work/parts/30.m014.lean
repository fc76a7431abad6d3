section
theorem wat_ll {t : Nat → Int32} {n : Nat} : ∀ (w : List Int32) (j : Nat), (∀ c ∈ w, isL c) → (wat t n w j = true ↔ ll t n j = w.length ∧ ∀ m, m < w.length → t (j + m) = w.getD m 0) := by
  intro w
  induction w with
  | nil =>
    intro j _
    show (!ltr t n j) = true ↔ ll t n j = 0 ∧ _
    constructor
    · intro h
      refine ⟨ll_0 (fun q => ?_), fun m hm => absurd hm (Nat.not_lt_zero _)⟩
      rw [q] at h; exact absurd h (by decide)
    · intro h
      cases hq : ltr t n j
      · rfl
      · have := ll_1 hq; omega
  | cons c w ih =>
    intro j hc
    have hcl := hc c List.mem_cons_self
    have hi := ih (j + 1) (fun x hx => hc x (List.mem_cons_of_mem _ hx))
    show (decide (j < n ∧ t j = c) && wat t n w (j + 1)) = true ↔ ll t n j = w.length + 1 ∧ _
    rw [Bool.and_eq_true, decide_eq_true_iff, hi]
    constructor
    · rintro ⟨⟨h1, h2⟩, h3, h4⟩
      have hl : ltr t n j = true := ltr_iff.mpr ⟨h1, by rw [h2]; exact hcl⟩
      refine ⟨by rw [ll_1 hl, h3], fun m hm => ?_⟩
      cases m with
      | zero => exact h2
      | succ m =>
        have hm : m + 1 < w.length + 1 := hm
        rw [show j + (m + 1) = j + 1 + m by omega]
        exact h4 m (by omega)
    · rintro ⟨h1, h2⟩
      have hl : ltr t n j = true := by
        cases hq : ltr t n j
        · rw [ll_0 (by rw [hq]; decide)] at h1; omega
        · rfl
      rw [ll_1 hl] at h1
      refine ⟨⟨(ltr_iff.mp hl).1, h2 0 (Nat.succ_pos _)⟩, by omega, fun m hm => ?_⟩
      have := h2 (m + 1) (Nat.succ_lt_succ hm)
      rw [show j + 1 + m = j + (m + 1) by omega]
      exact this
end
