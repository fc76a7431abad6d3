section
/-! a sign held, or written at once: the same to what stands behind a value -/
theorem brk_c {s : Nat} {H : List Nat} (h : s ≠ 16) : brk (s :: H) = brk H := by
  show brk H + _ = _
  rw [if_neg h]
  rfl
theorem stO_c {b s : Nat} {H : List Nat} (h : b ≤ bnd s) : stO b (s :: H) = (s, 0) :: stO b H := by
  show (if b ≤ bnd s then _ else _) = _
  rw [if_pos h]
theorem stR_c {b s : Nat} {H : List Nat} (h : b ≤ bnd s) : stR b (s :: H) = stR b H := by
  show (if b ≤ bnd s then _ else _) = _
  rw [if_pos h]
theorem clo_c {t : Nat → Int32} {n f i s : Nat} {H : List Nat} (h : s ≠ 16) (h1 : 1 ≤ bnd s) : (clo t n f i (s :: H)).2.1 = (clo t n f i H).2.1 ∧ (((clo t n f i (s :: H)).1 = (s, 0) :: (clo t n f i H).1 ∧ (clo t n f i (s :: H)).2.2 = (clo t n f i H).2.2) ∨ ((clo t n f i (s :: H)).1 = [] ∧ (clo t n f i H).1 = [] ∧ (clo t n f i (s :: H)).2.2 = s :: (clo t n f i H).2.2)) := by
  cases f with
  | zero => exact ⟨rfl, Or.inr ⟨rfl, rfl, rfl⟩⟩
  | succ f =>
    rw [clo_s, clo_s, brk_c h]
    by_cases hb : 0 < brk H
    · rw [if_pos hb, if_pos hb]
      by_cases hc : sk t n i < n ∧ t (sk t n i) = 93
      · rw [if_pos hc, if_pos hc, stO_c h1, stR_c h1]
        exact ⟨rfl, Or.inl ⟨rfl, rfl⟩⟩
      · rw [if_neg hc, if_neg hc]
        exact ⟨rfl, Or.inr ⟨rfl, rfl, rfl⟩⟩
    · rw [if_neg hb, if_neg hb]
      exact ⟨rfl, Or.inr ⟨rfl, rfl, rfl⟩⟩
theorem bnd_jn : ∀ x, x = 5 ∨ x = 6 ∨ x = 0 → bnd x ≤ 2 := by
  intro x h
  rcases h with rfl | rfl | rfl <;> decide
theorem jn_or (t : Nat → Int32) (n j : Nat) : jn t n j = 5 ∨ jn t n j = 6 ∨ jn t n j = 0 := by
  unfold jn
  split
  · exact Or.inl rfl
  · split
    · exact Or.inr (Or.inl rfl)
    · exact Or.inr (Or.inr rfl)
theorem aft_hold {t : Nat → Int32} {n m i s : Nat} {cp : Bool} {c : List (Nat × Nat)} {H : List Nat} (h : s ≠ 16) (h4 : 4 ≤ bnd s) (hr : rk t n (sk t n i) = 0 ∨ bnd (rk t n (sk t n i)) ≤ bnd s) : aft t n cp m c (s :: H) i = aft t n cp m (c ++ [(s, 0)]) H i := by
  unfold aft
  by_cases k1 : rk t n (sk t n i) = 0
  · rw [if_pos k1, if_pos k1]
    by_cases k2 : cp = true
    · rw [if_pos k2, if_pos k2, brk_c h]
      obtain ⟨e1, e2⟩ := clo_c (t := t) (n := n) (f := brk H + 1) (i := sk t n i) (H := H) h (by omega)
      generalize clo t n (brk H + 1) (sk t n i) (s :: H) = Q at e1 e2
      generalize clo t n (brk H + 1) (sk t n i) H = P at e1 e2
      rw [e1]
      have hj : bnd (jn t n (sk t n P.2.1)) ≤ 2 := bnd_jn _ (jn_or t n _)
      have hk : brk Q.2.2 = brk P.2.2 := by
        rcases e2 with ⟨_, q⟩ | ⟨_, _, q⟩
        · rw [q]
        · rw [q, brk_c h]
      have hO : ∀ b, b ≤ 2 → 0 < b ∨ True → c ++ Q.1 ++ stO b Q.2.2 = c ++ [(s, 0)] ++ P.1 ++ stO b P.2.2 ∧ stR b Q.2.2 = stR b P.2.2 := by
        intro b hb _
        rcases e2 with ⟨p, q⟩ | ⟨p, p', q⟩
        · rw [p, q]
          refine ⟨?_, rfl⟩
          rw [List.append_assoc c [(s, 0)] P.1]
          rfl
        · rw [p, p', q, stO_c (by omega), stR_c (by omega), List.append_nil, List.append_nil, List.append_assoc]
          exact ⟨rfl, rfl⟩
      rw [hk, (hO 1 (by omega) (Or.inr trivial)).1, (hO _ hj (Or.inr trivial)).1, (hO _ hj (Or.inr trivial)).2]
    · rw [if_neg k2, if_neg k2, stO_c h4, stR_c h4, List.append_assoc]
      rfl
  · rw [if_neg k1, if_neg k1]
    have hb : bnd (rk t n (sk t n i)) ≤ bnd s := by
      rcases hr with q | q
      · exact absurd q k1
      · exact q
    rw [stO_c hb, stR_c hb, List.append_assoc]
    rfl
end
