theorem rel0 : Rel S00 := by
  refine ⟨0, sn0 ([], [], []), [], fun _ => none, ⟨Nat.zero_le _, rfl, rfl, rfl, fun k => ?_⟩, ⟨okN_0 ⟨Nat.zero_le _, Nat.zero_le _, Nat.zero_le _, fun q h => (List.not_mem_nil (a := q) h).elim, fun q h => (List.not_mem_nil (a := q) h).elim, fun q h => (List.not_mem_nil (a := q) h).elim⟩, ⟨⟨rfl, rfl, fun k hk => (Nat.not_lt_zero _ hk).elim, fun k hk => (Nat.not_lt_zero _ hk).elim⟩, fun a b ha => (Nat.not_lt_zero _ ha).elim, ⟨rfl, rfl, fun k hk => (Nat.not_lt_zero _ hk).elim⟩, ⟨rfl, fun k hk => (Nat.not_lt_zero _ hk).elim⟩, ?_⟩, ⟨⟨rfl, rfl, fun k hk => (Nat.not_lt_zero _ hk).elim, fun k hk => (Nat.not_lt_zero _ hk).elim⟩, ⟨rfl, rfl, fun k hk => (Nat.not_lt_zero _ hk).elim⟩, ⟨rfl, fun k hk => (Nat.not_lt_zero _ hk).elim⟩, ?_⟩, fun a b ha => (Nat.not_lt_zero _ ha).elim⟩, ⟨Nat.zero_le _, rfl, rfl, fun k hk => (Nat.not_lt_zero _ hk).elim⟩, fun i hi => Or.inl ⟨rfl, rfl, rfl⟩⟩
  · show byt 0
    unfold byt
    decide
  · show 0 ≤ (0 : Int32).toInt
    decide
  · show 0 ≤ (0 : Int32).toInt
    decide
theorem hh_0 : H_0 Rel Rel := fun a1 a2 a3 a4 a5 S hR => by
  obtain ⟨r, S1, S2, h1, h2, h3⟩ := t_0 a1 a2 a3 a4 a5 S hR
  exact ⟨r, r, S1, S2, h1, h2, h3⟩
theorem hh_1 : H_1 Rel Rel := fun a1 S hR => by
  obtain ⟨r, S1, S2, h1, h2, h3⟩ := t_1 a1 S hR
  exact ⟨r, r, S1, S2, h1, h2, h3⟩
theorem hh_2 : H_2 Rel Rel := fun  S hR => by
  obtain ⟨r, S1, S2, h1, h2, h3⟩ := t_2 S hR
  exact ⟨r, r, S1, S2, h1, h2, h3⟩
theorem hh_3 : H_3 Rel Rel := fun  S hR => by
  obtain ⟨r, S1, S2, h1, h2, h3⟩ := t_3 S hR
  exact ⟨r, r, S1, S2, h1, h2, h3⟩
theorem hh_4 : H_4 Rel Rel := fun a1 a2 S hR => by
  obtain ⟨r, h1, h2, h3⟩ := t_4 a1 a2 S hR
  exact ⟨r, r, h1, h2, h3⟩
theorem hh_5 : H_5 Rel Rel := fun a1 a2 S hR => by
  obtain ⟨r, h1, h2, h3⟩ := t_5 a1 a2 S hR
  exact ⟨r, r, h1, h2, h3⟩
theorem hh_6 : H_6 Rel Rel := fun a1 a2 S hR => by
  obtain ⟨r, h1, h2, h3⟩ := t_6 a1 a2 S hR
  exact ⟨r, r, h1, h2, h3⟩
theorem hh_7 : H_7 Rel Rel := fun a1 a2 S hR => by
  obtain ⟨r, h1, h2, h3⟩ := t_7 a1 a2 S hR
  exact ⟨r, r, h1, h2, h3⟩
theorem hh_8 : H_8 Rel Rel := fun a1 a2 S hR => by
  obtain ⟨r, h1, h2, h3⟩ := t_8 a1 a2 S hR
  exact ⟨r, r, h1, h2, h3⟩
theorem hh_9 : H_9 Rel Rel := fun a1 a2 S hR => by
  obtain ⟨r, S1, S2, h1, h2, h3⟩ := t_9 a1 a2 S hR
  exact ⟨r, r, S1, S2, h1, h2, h3⟩
theorem hh_10 : H_10 Rel Rel := fun a1 a2 S hR => by
  obtain ⟨r, S1, S2, h1, h2, h3⟩ := t_10 a1 a2 S hR
  exact ⟨r, r, S1, S2, h1, h2, h3⟩
theorem hh_11 : H_11 Rel Rel := fun a1 a2 a3 a4 S hR => by
  obtain ⟨r, S1, S2, h1, h2, h3⟩ := t_11 a1 a2 a3 a4 S hR
  exact ⟨r, r, S1, S2, h1, h2, h3⟩
theorem hh_12 : H_12 Rel Rel := fun a1 a2 S hR => by
  obtain ⟨r, h1, h2, h3⟩ := t_12 a1 a2 S hR
  exact ⟨r, r, h1, h2, h3⟩
theorem hh_13 : H_13 Rel Rel := fun a1 a2 S hR => by
  obtain ⟨r, h1, h2, h3⟩ := t_13 a1 a2 S hR
  exact ⟨r, r, h1, h2, h3⟩
theorem hh_14 : H_14 Rel Rel := fun a1 a2 a3 S hR => by
  obtain ⟨r, h1, h2, h3⟩ := t_14 a1 a2 a3 S hR
  exact ⟨r, r, h1, h2, h3⟩
theorem hh_15 : H_15 Rel Rel := fun a1 a2 a3 S hR => by
  obtain ⟨r, h1, h2, h3⟩ := t_15 a1 a2 a3 S hR
  exact ⟨r, r, h1, h2, h3⟩
theorem hh_16 : H_16 Rel Rel := fun a1 a2 a3 a4 a5 S hR _ => by
  obtain ⟨r, S1, S2, h1, h2, h3⟩ := t_16 a1 a2 a3 a4 a5 S hR
  exact ⟨r, r, S1, S2, h1, h2, h3⟩
theorem hh_17 : H_17 Rel Rel := fun a1 a2 a3 a4 a5 S hR => by
  obtain ⟨r, h1, h2, h3⟩ := t_17 a1 a2 a3 a4 a5 S hR
  exact ⟨r, r, h1, h2, h3⟩
theorem hh_18 : H_18 Rel Rel := fun a1 a2 a3 a4 a5 S hR => by
  obtain ⟨r, r', S1, S2, h1, h2, h3⟩ := t_18 a1 a2 a3 a4 a5 S hR
  exact ⟨r, r', S1, S2, h1, h2, h3⟩
theorem hh_19 : H_19 Rel Rel := fun a1 a2 a3 a4 a5 S hR => by
  obtain ⟨r, h1, h2, h3⟩ := t_19 a1 a2 a3 a4 a5 S hR
  exact ⟨r, r, h1, h2, h3⟩
theorem hh_20 : H_20 Rel Rel := fun a1 a2 a3 a4 S hR => by
  obtain ⟨r, h1, h2, h3⟩ := t_20 a1 a2 a3 a4 S hR
  exact ⟨r, r, h1, h2, h3⟩
theorem hh_21 : H_21 Rel Rel := fun a1 a2 a3 S hR _ => by
  obtain ⟨r, r', S1, S2, h1, h2, h3, _⟩ := t_21 a1 a2 a3 S hR
  exact ⟨r, r', S1, S2, h1, h2, h3⟩
theorem hh_22 : H_22 Rel Rel := fun a1 a2 a3 a4 S hR => by
  obtain ⟨r, h1, h2, h3⟩ := t_22 a1 a2 a3 a4 S hR
  exact ⟨r, r, h1, h2, h3⟩
theorem hh_23 : H_23 Rel Rel := fun a1 a2 a3 S hR => by
  obtain ⟨r, h1, h2, h3⟩ := t_23 a1 a2 a3 S hR
  exact ⟨r, r, h1, h2, h3⟩
theorem hh_24 : H_24 Rel Rel := fun a1 a2 a3 S hR => by
  obtain ⟨r, h1, h2, h3⟩ := t_24 a1 a2 a3 S hR
  exact ⟨r, r, h1, h2, h3⟩
theorem hh_25 : H_25 Rel Rel := fun a1 a2 S hR => by
  obtain ⟨r, h1, h2, h3⟩ := t_25 a1 a2 S hR
  exact ⟨r, r, h1, h2, h3⟩
theorem hh_26 : H_26 Rel Rel := fun  S hR => by
  obtain ⟨r, S2, h1, h2, h3⟩ := t_26 S hR
  exact ⟨r, r, S2, h1, h2, h3⟩
theorem hh_27 : H_27 Rel Rel := fun a1 a2 a3 S hR => by
  obtain ⟨r, S1, S2, h1, h2, h3⟩ := t_27 a1 a2 a3 S hR
  exact ⟨r, r, S1, S2, h1, h2, h3⟩
theorem hh_28 : H_28 Rel Rel := fun a1 a2 a3 S hR => by
  obtain ⟨r, S1, S2, h1, h2, h3⟩ := t_28 a1 a2 a3 S hR
  exact ⟨r, r, S1, S2, h1, h2, h3⟩
theorem hh_29 : H_29 Rel Rel := fun a1 a2 S hR => by
  obtain ⟨r, h1, h2, h3⟩ := t_29 a1 a2 S hR
  exact ⟨r, r, h1, h2, h3⟩
theorem hh_30 : H_30 Rel Rel := fun  S hR => by
  obtain ⟨r, h1, h2, h3⟩ := t_30 S hR
  exact ⟨r, r, h1, h2, h3⟩
theorem hh_31 : H_31 Rel Rel := fun a1 S hR => by
  obtain ⟨r, h1, h2, h3⟩ := t_31 a1 S hR
  exact ⟨r, r, h1, h2, h3⟩
theorem hh_32 : H_32 Rel Rel := fun a1 S hR => by
  obtain ⟨r, r', S1, S2, h1, h2, h3⟩ := t_32 a1 S hR
  exact ⟨r, r', S1, S2, h1, h2, h3⟩
theorem hh_33 : H_33 Rel Rel := fun a1 a2 a3 a4 a5 S hR => by
  obtain ⟨r, r', S1, S2, h1, h2, h3⟩ := t_33 a1 a2 a3 a4 a5 S hR
  exact ⟨r, r', S1, S2, h1, h2, h3⟩
theorem hh_34 : H_34 Rel Rel := fun a1 S hR => by
  obtain ⟨r, r', h1, h2, h3⟩ := t_34 a1 S hR
  exact ⟨r, r', h1, h2, h3⟩
theorem hh_35 : H_35 Rel Rel := fun a1 S hR => by
  obtain ⟨r, S1, S2, h1, h2, h3⟩ := t_35 a1 S hR
  exact ⟨r, r, S1, S2, h1, h2, h3⟩
theorem hh_36 : H_36 Rel Rel := fun a1 S hR => t_36 a1 S hR
theorem hh_all : HH Rel Rel := ⟨hh_0, hh_1, hh_2, hh_3, hh_4, hh_5, hh_6, hh_7, hh_8, hh_9, hh_10, hh_11, hh_12, hh_13, hh_14, hh_15, hh_16, hh_17, hh_18, hh_19, hh_20, hh_21, hh_22, hh_23, hh_24, hh_25, hh_26, hh_27, hh_28, hh_29, hh_30, hh_31, hh_32, hh_33, hh_34, hh_35, hh_36⟩
theorem px_law {X : mm_C} (h : X.1 ≤ 3072) : mm_Law X := by
  obtain ⟨S', -, e⟩ := law_all (X := X) (K := fun S => some (1, S)) hh_all (by omega) FU 0 S00 rel0 (by decide) (by show (0 : Int) ≤ X.1 + 6; omega) (by show (X.1 : Int) + 6 < 0 + 6 * ((100000 : Nat) : Int); omega)
  exact mm_law_of (S := S') (by omega) e
