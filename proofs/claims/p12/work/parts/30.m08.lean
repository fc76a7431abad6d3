section
/-! the fewest hours between floors: phases over a matrix of numbers, 99999 where there is no way -/
abbrev Mx : Type := Nat → Nat → Nat
def wI : Mx := fun a b => if a = b then 0 else 99999
def wS1 (w : Mx) (q : Nat × Nat × Nat × Nat × Nat) : Mx := fun x y => if (x = q.1 ∧ y = q.2.1) ∨ (x = q.2.1 ∧ y = q.1) then min (w x y) q.2.2.1 else w x y
def wSt (E : List (Nat × Nat × Nat × Nat × Nat)) : Mx := E.foldl wS1 wI
def ph (p : Nat) (w : Mx) : Mx := fun a b => min (w a b) (w a p + w p b)
def phs (w : Mx) : Nat → Mx
  | 0 => w
  | k + 1 => ph k (phs w k)
/-- the fewest hours -/
def dst (E : List (Nat × Nat × Nat × Nat × Nat)) : Mx := phs (wSt E) 10
def z0 (w : Mx) : Prop := ∀ a, w a a = 0
def le9 (w : Mx) : Prop := ∀ a b, w a b ≤ 99999
theorem wS1_z {w : Mx} {q : Nat × Nat × Nat × Nat × Nat} (h : z0 w) : z0 (wS1 w q) := by
  intro a
  have := h a
  unfold wS1
  split
  · omega
  · exact this
theorem wS1_9 {w : Mx} {q : Nat × Nat × Nat × Nat × Nat} (h : le9 w) : le9 (wS1 w q) := by
  intro a b
  have := h a b
  unfold wS1
  split
  · omega
  · exact this
theorem wS1_le {w : Mx} {q : Nat × Nat × Nat × Nat × Nat} (a b : Nat) : wS1 w q a b ≤ w a b := by
  unfold wS1
  split
  · omega
  · exact Nat.le_refl _
theorem wI_z : z0 wI := fun a => if_pos rfl
theorem wI_9 : le9 wI := by
  intro a b
  unfold wI
  split <;> omega
theorem fold_z : ∀ (E : List (Nat × Nat × Nat × Nat × Nat)) (w : Mx), z0 w → z0 (E.foldl wS1 w) := by
  intro E
  induction E with
  | nil => intro w h; exact h
  | cons q E ih => intro w h; exact ih _ (wS1_z h)
theorem fold_9 : ∀ (E : List (Nat × Nat × Nat × Nat × Nat)) (w : Mx), le9 w → le9 (E.foldl wS1 w) := by
  intro E
  induction E with
  | nil => intro w h; exact h
  | cons q E ih => intro w h; exact ih _ (wS1_9 h)
theorem fold_le : ∀ (E : List (Nat × Nat × Nat × Nat × Nat)) (w : Mx) (a b : Nat), E.foldl wS1 w a b ≤ w a b := by
  intro E
  induction E with
  | nil => intro w a b; exact Nat.le_refl _
  | cons q E ih => intro w a b; exact Nat.le_trans (ih _ a b) (wS1_le a b)
theorem wSt_le : ∀ (E : List (Nat × Nat × Nat × Nat × Nat)) (w : Mx), ∀ q ∈ E, E.foldl wS1 w q.1 q.2.1 ≤ q.2.2.1 ∧ E.foldl wS1 w q.2.1 q.1 ≤ q.2.2.1 := by
  intro E
  induction E with
  | nil => intro w q hq; exact absurd hq (List.not_mem_nil)
  | cons r E ih =>
    intro w q hq
    rcases List.mem_cons.mp hq with rfl | hq
    · have h1 := fold_le E (wS1 w q) q.1 q.2.1
      have h2 := fold_le E (wS1 w q) q.2.1 q.1
      have e1 : wS1 w q q.1 q.2.1 = min (w q.1 q.2.1) q.2.2.1 := if_pos (Or.inl ⟨rfl, rfl⟩)
      have e2 : wS1 w q q.2.1 q.1 = min (w q.2.1 q.1) q.2.2.1 := if_pos (Or.inr ⟨rfl, rfl⟩)
      show E.foldl wS1 (wS1 w q) _ _ ≤ _ ∧ E.foldl wS1 (wS1 w q) _ _ ≤ _
      omega
    · exact ih _ q hq
/-- each number below 99999 between two floors came of a stair -/
theorem wSt_of : ∀ (E : List (Nat × Nat × Nat × Nat × Nat)) (w : Mx) (a b : Nat), a ≠ b → E.foldl wS1 w a b = w a b ∨ ∃ q ∈ E, E.foldl wS1 w a b = q.2.2.1 ∧ ((q.1 = a ∧ q.2.1 = b) ∨ (q.2.1 = a ∧ q.1 = b)) := by
  intro E
  induction E with
  | nil => intro w a b _; exact Or.inl rfl
  | cons r E ih =>
    intro w a b hab
    rcases ih (wS1 w r) a b hab with h | ⟨q, hq, h⟩
    · have h : (r :: E).foldl wS1 w a b = wS1 w r a b := h
      rw [h]
      by_cases hc : (a = r.1 ∧ b = r.2.1) ∨ (a = r.2.1 ∧ b = r.1)
      · have e : wS1 w r a b = min (w a b) r.2.2.1 := if_pos hc
        by_cases hm : w a b ≤ r.2.2.1
        · exact Or.inl (by rw [e]; omega)
        · refine Or.inr ⟨r, List.mem_cons_self, by rw [e]; omega, ?_⟩
          rcases hc with ⟨h1, h2⟩ | ⟨h1, h2⟩
          · exact Or.inl ⟨h1.symm, h2.symm⟩
          · exact Or.inr ⟨h1.symm, h2.symm⟩
      · exact Or.inl (if_neg hc)
    · exact Or.inr ⟨q, List.mem_cons_of_mem _ hq, h⟩
theorem ph_z {p : Nat} {w : Mx} (h : z0 w) : z0 (ph p w) := by
  intro a
  have := h a
  unfold ph
  omega
theorem ph_9 {p : Nat} {w : Mx} (h : le9 w) : le9 (ph p w) := by
  intro a b
  have := h a b
  unfold ph
  omega
theorem ph_le {p : Nat} {w : Mx} (a b : Nat) : ph p w a b ≤ w a b := Nat.min_le_left _ _
theorem phs_z {w : Mx} (h : z0 w) : ∀ k, z0 (phs w k) := by
  intro k
  induction k with
  | zero => exact h
  | succ k ih => exact ph_z ih
theorem phs_9 {w : Mx} (h : le9 w) : ∀ k, le9 (phs w k) := by
  intro k
  induction k with
  | zero => exact h
  | succ k ih => exact ph_9 ih
theorem phs_le {w : Mx} {a b : Nat} : ∀ k d, phs w (k + d) a b ≤ phs w k a b := by
  intro k d
  induction d with
  | zero => exact Nat.le_refl _
  | succ d ih => exact Nat.le_trans (ph_le a b) ih
/-- behind phase k: ways over the floors below k make nothing shorter -/
theorem phs_tri {w : Mx} (h : z0 w) : ∀ k p, p < k → ∀ a b, phs w k a b ≤ phs w k a p + phs w k p b := by
  intro k
  induction k with
  | zero => intro p hp; exact absurd hp (Nat.not_lt_zero _)
  | succ k ih =>
    intro p hp a b
    have hz := phs_z h k
    show ph k (phs w k) a b ≤ ph k (phs w k) a p + ph k (phs w k) p b
    generalize hw : phs w k = v at ih hz
    unfold ph
    have zk := hz k
    by_cases hpk : p = k
    · subst hpk
      omega
    · have t1 := ih p (by omega) a b
      have t2 := ih p (by omega) k b
      have t3 := ih p (by omega) a k
      omega
theorem dst_z {E : List (Nat × Nat × Nat × Nat × Nat)} : z0 (dst E) := phs_z (fold_z E wI wI_z) 10
theorem dst_9 {E : List (Nat × Nat × Nat × Nat × Nat)} : le9 (dst E) := phs_9 (fold_9 E wI wI_9) 10
theorem dst_tri {E : List (Nat × Nat × Nat × Nat × Nat)} {p : Nat} (hp : p < 10) (a b : Nat) : dst E a b ≤ dst E a p + dst E p b := phs_tri (fold_z E wI wI_z) 10 p hp a b
theorem dst_st {E : List (Nat × Nat × Nat × Nat × Nat)} {q : Nat × Nat × Nat × Nat × Nat} (hq : q ∈ E) : dst E q.1 q.2.1 ≤ q.2.2.1 ∧ dst E q.2.1 q.1 ≤ q.2.2.1 := by
  have h1 := phs_le (w := wSt E) (a := q.1) (b := q.2.1) 0 10
  have h2 := phs_le (w := wSt E) (a := q.2.1) (b := q.1) 0 10
  have h3 := wSt_le E wI q hq
  exact ⟨Nat.le_trans h1 h3.1, Nat.le_trans h2 h3.2⟩
/-- a first stair of a shortest way -/
def fst1 (E : List (Nat × Nat × Nat × Nat × Nat)) (D : Mx) (a b x : Nat) : Prop := ∃ q ∈ E, (q.1 = a ∧ q.2.2.1 + D q.2.1 b ≤ x) ∨ (q.2.1 = a ∧ q.2.2.1 + D q.1 b ≤ x)
theorem phs_fst {E : List (Nat × Nat × Nat × Nat × Nat)} : ∀ k, k ≤ 10 → ∀ a b, a ≠ b → phs (wSt E) k a b < 99999 → fst1 E (dst E) a b (phs (wSt E) k a b) := by
  intro k
  induction k with
  | zero =>
    intro _ a b hab h
    have h : wSt E a b < 99999 := h
    rcases wSt_of E wI a b hab with h1 | ⟨q, hq, h1, h2⟩
    · have e : wI a b = 99999 := if_neg hab
      have h1 : wSt E a b = wI a b := h1
      omega
    · have h1 : wSt E a b = q.2.2.1 := h1
      have zb := dst_z (E := E) b
      refine ⟨q, hq, ?_⟩
      rcases h2 with ⟨e1, e2⟩ | ⟨e1, e2⟩
      · exact Or.inl ⟨e1, by rw [e2, zb]; show _ ≤ wSt E a b; omega⟩
      · exact Or.inr ⟨e1, by rw [e2, zb]; show _ ≤ wSt E a b; omega⟩
  | succ k ih =>
    intro hk a b hab h
    have zk := phs_z (fold_z E wI wI_z) k k
    have hd : dst E k b ≤ phs (wSt E) k k b := by
      have := phs_le (w := wSt E) (a := k) (b := b) k (10 - k)
      rw [show k + (10 - k) = 10 by omega] at this
      exact this
    show fst1 E (dst E) a b (ph k (phs (wSt E) k) a b)
    have h : ph k (phs (wSt E) k) a b < 99999 := h
    have ihab := ih (by omega) a b hab
    unfold ph at h ⊢
    by_cases hm : phs (wSt E) k a b ≤ phs (wSt E) k a k + phs (wSt E) k k b
    · rw [Nat.min_eq_left hm] at h ⊢
      exact ihab h
    · rw [Nat.min_eq_right (by omega)] at h ⊢
      by_cases hak : a = k
      · subst hak
        have zk : phs (wSt E) a a a = 0 := zk
        omega
      · obtain ⟨q, hq, h1⟩ := ih (by omega) a k hak (by omega)
        refine ⟨q, hq, ?_⟩
        rcases h1 with ⟨e1, e2⟩ | ⟨e1, e2⟩
        · have := dst_tri (E := E) (p := k) (by omega) q.2.1 b
          exact Or.inl ⟨e1, by omega⟩
        · have := dst_tri (E := E) (p := k) (by omega) q.1 b
          exact Or.inr ⟨e1, by omega⟩
theorem dst_fst {E : List (Nat × Nat × Nat × Nat × Nat)} {a b : Nat} (hab : a ≠ b) (h : dst E a b < 99999) : fst1 E (dst E) a b (dst E a b) := phs_fst 10 (Nat.le_refl _) a b hab h
/-- bounds: no number between 18432 and 99999 -/
def bd9 (m : Nat) (w : Mx) : Prop := ∀ a b, w a b < 99999 → w a b ≤ m
theorem ph_bd {p m : Nat} {w : Mx} (h : bd9 m w) : bd9 (2 * m) (ph p w) := by
  intro a b hlt
  have h1 := h a b
  have h2 := h a p
  have h3 := h p b
  unfold ph at hlt ⊢
  omega
theorem fold_bd {m : Nat} : ∀ (E : List (Nat × Nat × Nat × Nat × Nat)) (w : Mx), (∀ q ∈ E, q.2.2.1 ≤ m) → bd9 m w → bd9 m (E.foldl wS1 w) := by
  intro E
  induction E with
  | nil => intro w _ h; exact h
  | cons r E ih =>
    intro w hE h
    refine ih _ (fun q hq => hE q (List.mem_cons_of_mem _ hq)) ?_
    intro a b hlt
    have h1 := h a b
    have h2 := hE r List.mem_cons_self
    unfold wS1 at hlt ⊢
    split at hlt
    · rename_i hc; rw [if_pos hc]; omega
    · rename_i hc; rw [if_neg hc]; exact h1 hlt
theorem wI_bd {m : Nat} : bd9 m wI := by
  intro a b h
  unfold wI at h ⊢
  split at h
  · rename_i hc; rw [if_pos hc]; omega
  · omega
theorem phs_bd {w : Mx} {m : Nat} (h : bd9 m w) : ∀ k, bd9 (2 ^ k * m) (phs w k) := by
  intro k
  induction k with
  | zero => rw [Nat.pow_zero, Nat.one_mul]; exact h
  | succ k ih =>
    have := ph_bd (p := k) ih
    rw [show 2 ^ (k + 1) * m = 2 * (2 ^ k * m) by rw [Nat.pow_succ]; rw [Nat.mul_comm (2 ^ k) 2, Nat.mul_assoc]]
    exact this
/-- floors that no stair reaches -/
def iso (m : Nat) (w : Mx) : Prop := ∀ a b, a ≠ b → (m ≤ a ∨ m ≤ b) → w a b = 99999
theorem iso_I {m : Nat} : iso m wI := fun _ _ h _ => if_neg h
theorem iso_S {m : Nat} : ∀ (E : List (Nat × Nat × Nat × Nat × Nat)) (w : Mx), (∀ q ∈ E, q.1 < m ∧ q.2.1 < m) → iso m w → iso m (E.foldl wS1 w) := by
  intro E
  induction E with
  | nil => intro w _ h; exact h
  | cons r E ih =>
    intro w hE h
    refine ih _ (fun q hq => hE q (List.mem_cons_of_mem _ hq)) ?_
    intro a b hab hm
    have h2 := hE r List.mem_cons_self
    have e : wS1 w r a b = w a b := if_neg (by omega)
    rw [e]
    exact h a b hab hm
theorem iso_p {m p : Nat} {w : Mx} (h9 : le9 w) (hz : z0 w) (h : iso m w) : iso m (ph p w) := by
  intro a b hab hm
  have h1 := h a b hab hm
  have za := hz a
  unfold ph
  by_cases hap : a = p
  · subst hap; omega
  · by_cases hpb : p = b
    · subst hpb; omega
    · rcases hm with hm | hm
      · have := h a p hap (Or.inl hm); omega
      · have := h p b hpb (Or.inr hm); omega
theorem ph_id {m p : Nat} {w : Mx} (h9 : le9 w) (hz : z0 w) (h : iso m w) (hp : m ≤ p) : ph p w = w := by
  funext a b
  have hab := h9 a b
  have zp := hz p
  unfold ph
  by_cases hap : a = p
  · subst hap; omega
  · have := h a p hap (Or.inr hp); omega
end
