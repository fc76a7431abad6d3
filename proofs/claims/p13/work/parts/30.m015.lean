section
theorem wat_pk {t : Nat → Int32} {n j : Nat} {w : List Int32} (hw : ∀ c ∈ w, isL c) : wat t n w j = true ↔ pk t j (ll t n j) = pkW w := by
  have hw2 : ∀ m, m < w.length → isL (w.getD (0 + m) 0) := fun m hm => by
    rw [show 0 + m = m by omega, List.getD_eq_getElem?_getD, List.getElem?_eq_getElem hm]
    exact hw _ (List.getElem_mem hm)
  rw [wat_ll w j hw]
  constructor
  · rintro ⟨h1, h2⟩
    rw [h1]
    exact pk_cg _ (fun m hm => by rw [show 0 + m = m by omega]; exact h2 m hm)
  · intro h
    obtain ⟨h1, h2⟩ := pk_inj _ _ (fun m hm => (ltr_iff.mp (ll_lt m j hm)).2) hw2 h
    exact ⟨h1, fun m hm => by have := h2 m (by omega); rw [show 0 + m = m by omega] at this; exact this⟩
end
