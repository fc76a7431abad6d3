section
/-! the class's turn is the automaton's -/
def okHs : Nat → List Nat → Prop
  | _, [] => True
  | b, x :: H => (x = 16 ∧ okHs 4 H) ∨ (x = 4 ∧ 3 < b ∧ okHs 4 H) ∨ (x ≠ 16 ∧ x ≠ 4 ∧ bnd x < b ∧ 1 ≤ bnd x ∧ bnd x ≠ 3 ∧ okHs (bnd x) H)
theorem okHs_mo : ∀ (H : List Nat) (b b' : Nat), b ≤ b' → okHs b H → okHs b' H := by
  intro H
  cases H with
  | nil => intro _ _ _ _; trivial
  | cons x H =>
    intro b b' hb h
    rcases h with h | ⟨h1, h2, h3⟩ | ⟨h1, h2, h3, h4, h5, h6⟩
    · exact Or.inl h
    · exact Or.inr (Or.inl ⟨h1, by omega, h3⟩)
    · exact Or.inr (Or.inr ⟨h1, h2, by omega, h4, h5, h6⟩)
def gg (b : Nat) : Nat := (if 1 < b then 1 else 0) + (if 2 < b then 1 else 0) + (if 4 < b then 1 else 0) + (if 5 < b then 1 else 0) + (if 6 < b then 1 else 0)
theorem bnd_6 (x : Nat) : bnd x ≤ 6 := by
  unfold bnd
  split <;> omega
theorem okHs_len : ∀ (H : List Nat) (b : Nat), okHs b H → H.length ≤ dep H + 2 * brk H + gg b := by
  intro H
  induction H with
  | nil => intro b _; exact Nat.zero_le _
  | cons x H ih =>
    intro b h
    show H.length + 1 ≤ dep (x :: H) + 2 * brk (x :: H) + gg b
    rcases h with ⟨rfl, h⟩ | ⟨rfl, h2, h3⟩ | ⟨h1, h2, h3, h4, h5, h6⟩
    · have := ih 4 h
      have g4 : gg 4 = 2 := by decide
      rw [dep_16, brk_16]
      omega
    · have := ih 4 h3
      have g4 : gg 4 = 2 := by decide
      have gb : 2 ≤ gg b := by unfold gg; rw [if_pos (by omega), if_pos (by omega)]; omega
      rw [dep_4, brk_4]
      omega
    · have := ih (bnd x) h6
      have hd : dep (x :: H) = dep H := by show dep H + (if x = 16 ∨ x = 4 then 1 else 0) = _; rw [if_neg (by omega)]; rfl
      have hk : brk (x :: H) = brk H := by show brk H + (if x = 16 then 1 else 0) = _; rw [if_neg h1]; rfl
      have h7 := bnd_6 x
      have gx : gg (bnd x) + 1 ≤ gg b := by
        generalize bnd x = y at h3 h4 h5 h7
        have : y = 1 ∨ y = 2 ∨ y = 4 ∨ y = 5 ∨ y = 6 := by omega
        unfold gg
        rcases this with rfl | rfl | rfl | rfl | rfl
        · rw [if_pos (show 1 < b by omega)]; simp; omega
        · rw [if_pos (show 1 < b by omega), if_pos (show 2 < b by omega)]; simp; omega
        · rw [if_pos (show 1 < b by omega), if_pos (show 2 < b by omega), if_pos (show 4 < b by omega)]; simp; omega
        · rw [if_pos (show 1 < b by omega), if_pos (show 2 < b by omega), if_pos (show 4 < b by omega), if_pos (show 5 < b by omega)]; simp
        · rw [if_pos (show 1 < b by omega), if_pos (show 2 < b by omega), if_pos (show 4 < b by omega), if_pos (show 5 < b by omega), if_pos (show 6 < b by omega)]; simp
      rw [hd, hk]
      omega
theorem okHs_st {b : Nat} : ∀ (H : List Nat) (k : Nat), okHs k H → okHs b (stR b H) := by
  intro H
  induction H with
  | nil => intro _ _; trivial
  | cons x H ih =>
    intro k h
    unfold stR
    by_cases hle : b ≤ bnd x
    · rw [if_pos hle]
      rcases h with ⟨h1, h⟩ | ⟨h1, h2, h3⟩ | ⟨h1, h2, h3, h4, h5, h6⟩
      · exact ih 4 h
      · exact ih 4 h3
      · exact ih _ h6
    · rw [if_neg hle]
      rcases h with h | ⟨h1, h2, h3⟩ | ⟨h1, h2, h3, h4, h5, h6⟩
      · exact Or.inl h
      · refine Or.inr (Or.inl ⟨h1, ?_, h3⟩)
        rw [h1] at hle
        have : bnd 4 = 3 := rfl
        omega
      · exact Or.inr (Or.inr ⟨h1, h2, by omega, h4, h5, h6⟩)
theorem okHs_el : ∀ (H : List Nat) (k : Nat), okHs k H → (∀ x ∈ H, x < 17) → elH H := by
  intro H
  induction H with
  | nil => intro _ _ _ x hx; exact absurd hx List.not_mem_nil
  | cons y H ih =>
    intro k h hl x hx
    have hl' : ∀ x ∈ H, x < 17 := fun z hz => hl z (List.mem_cons_of_mem _ hz)
    rcases h with ⟨h1, h⟩ | ⟨h1, h2, h3⟩ | ⟨h1, h2, h3, h4, h5, h6⟩
    · rcases List.mem_cons.mp hx with rfl | hx
      · omega
      · exact ih 4 h hl' x hx
    · rcases List.mem_cons.mp hx with rfl | hx
      · omega
      · exact ih 4 h3 hl' x hx
    · rcases List.mem_cons.mp hx with rfl | hx
      · refine ⟨?_, hl x List.mem_cons_self⟩
        refine Nat.not_lt.mp (fun hq => ?_)
        have : ∀ z, z < 4 → bnd z = 0 := by decide
        have := this x hq
        omega
      · exact ih _ h6 hl' x hx
theorem okHs_op : ∀ (P H : List Nat), (∀ x ∈ P, x = 4 ∨ x = 16) → okHs 4 H → okHs 4 (P ++ H) := by
  intro P
  induction P with
  | nil => intro H _ h; exact h
  | cons x P ih =>
    intro H hP h
    have := ih H (fun y hy => hP y (List.mem_cons_of_mem _ hy)) h
    rcases hP x List.mem_cons_self with rfl | rfl
    · exact Or.inr (Or.inl ⟨rfl, by omega, this⟩)
    · exact Or.inl ⟨rfl, this⟩
theorem okHs_pu {a b : Nat} {H : List Nat} (h : okHs b H) (ha : a ≠ 16 ∧ a ≠ 4) (hb : bnd a = b) (h1 : 1 ≤ b) (h3 : b ≠ 3) : okHs (b + 1) (a :: H) := Or.inr (Or.inr ⟨ha.1, ha.2, by omega, by omega, by omega, by rw [hb]; exact h⟩)
theorem okHs_cl {t : Nat → Int32} {n : Nat} : ∀ d (H : List Nat) (i : Nat), okHs 7 H → elH H → okHs 7 (clo t n d i H).2.2 := by
  intro d
  induction d with
  | zero => intro H i h _; exact h
  | succ d ih =>
    intro H i h he
    rw [clo_s]
    by_cases h0 : 0 < brk H
    · rw [if_pos h0]
      by_cases hc : sk t n i < n ∧ t (sk t n i) = 93
      · rw [if_pos hc]
        obtain ⟨H', p1, p2, p3, p4, p5⟩ := st1_16 H he h0
        have hs := okHs_st (b := 1) H 7 h
        rw [p1] at hs
        have h4 : okHs 4 H' := by
          rcases hs with ⟨-, h⟩ | ⟨h1, -⟩ | ⟨h1, -⟩
          · exact h
          · exact absurd h1 (by decide)
          · exact absurd rfl h1
        rw [p1]
        exact ih H' _ (okHs_mo _ 4 7 (by omega) h4) p4
      · rw [if_neg hc]; exact h
    · rw [if_neg h0]; exact h
end
