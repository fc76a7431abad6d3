/-! more steps, more depth, more locals: the same run -/
def mm_uq (lv : mm_L) : Prop := ∀ (k : Nat) (v w : Value), (k, v) ∈ lv → (k, w) ∈ lv → v = w
def mm_le (lv lv' : mm_L) : Prop := ∀ q ∈ lv, q ∈ lv'
theorem mm_ix_some {α : Type} {lv : List (Nat × α)} {k : Nat} {v : α} (h : (k, v) ∈ lv) : ∃ w, mm_ix lv k = some w := by
  induction lv with
  | nil => exact absurd h List.not_mem_nil
  | cons q l ih =>
    obtain ⟨a, b⟩ := q
    unfold mm_ix
    cases hb : Nat.beq a k with
    | true => exact ⟨b, rfl⟩
    | false =>
      rcases List.mem_cons.mp h with e | e
      · cases e
        rw [Nat.beq_refl] at hb
        cases hb
      · exact ih e
theorem mm_uq_ix {lv : mm_L} (hu : mm_uq lv) {k : Nat} {v : Value} (h : (k, v) ∈ lv) : mm_ix lv k = some v := by
  obtain ⟨w, hw⟩ := mm_ix_some h
  rw [hw, hu k w v (mm_ix_mem hw) h]
theorem mm_le_ix {lv lv' : mm_L} (hu : mm_uq lv') (hl : mm_le lv lv') {k : Nat} {v : Value} (h : mm_ix lv k = some v) : mm_ix lv' k = some v := mm_uq_ix hu (hl _ (mm_ix_mem h))
theorem mm_set1_le {lv lv' : mm_L} (hl : mm_le lv lv') (i : Nat) (v : Value) : mm_le (mm_set1 lv i v) (mm_set1 lv' i v) := by
  intro q hq
  rcases List.mem_cons.mp hq with h | h
  · exact List.mem_cons.mpr (Or.inl h)
  · obtain ⟨h1, h2⟩ := List.mem_filter.mp h
    exact List.mem_cons.mpr (Or.inr (List.mem_filter.mpr ⟨hl q h1, h2⟩))
theorem mm_set2_le {lv lv' : mm_L} (hl : mm_le lv lv') (i : Nat) (v : Value) : mm_le (mm_set2 lv i v) (mm_set2 lv' i v) := by
  intro q hq
  rcases List.mem_cons.mp hq with h | h
  · exact List.mem_cons.mpr (Or.inl h)
  · obtain ⟨h1, h2⟩ := List.mem_filter.mp h
    exact List.mem_cons.mpr (Or.inr (List.mem_filter.mpr ⟨hl q h1, h2⟩))
theorem mm_cons_uq {lv : mm_L} (hu : mm_uq lv) (i : Nat) (v : Value) (p : Nat × Value → Bool) (hp : ∀ q : Nat × Value, p q = true → q.1 ≠ i) : mm_uq ((i, v) :: lv.filter p) := by
  intro k a b ha hb
  rcases List.mem_cons.mp ha with h | h <;> rcases List.mem_cons.mp hb with g | g
  · cases h; cases g; rfl
  · cases h
    exact absurd rfl (hp _ (List.mem_filter.mp g).2)
  · cases g
    exact absurd rfl (hp _ (List.mem_filter.mp h).2)
  · exact hu k a b (List.mem_filter.mp h).1 (List.mem_filter.mp g).1
theorem mm_set1_uq {lv : mm_L} (hu : mm_uq lv) (i : Nat) (v : Value) : mm_uq (mm_set1 lv i v) := mm_cons_uq hu i v _ (fun q h e => by
  rw [Bool.and_eq_true] at h
  have h1 := h.1
  rw [e] at h1
  simp at h1)
theorem mm_set2_uq {lv : mm_L} (hu : mm_uq lv) (i : Nat) (v : Value) : mm_uq (mm_set2 lv i v) := mm_cons_uq hu i v _ (fun q h e => by
  rw [Bool.and_eq_true] at h
  have h1 := h.1
  rw [e] at h1
  simp at h1)
theorem mm_args_ge : ∀ (as : List Value) (i k : Nat) (v : Value), (k, v) ∈ lv_args i as → i ≤ k
  | [], _, _, _, h => absurd h List.not_mem_nil
  | a :: as, i, k, v, h => by
    rcases List.mem_cons.mp (show (k, v) ∈ (i, a) :: lv_args (if a.category = 2 then i + 2 else i + 1) as from h) with e | e
    · cases e; exact Nat.le_refl _
    · have := mm_args_ge as _ k v e
      split at this <;> omega
theorem mm_args_uq : ∀ (as : List Value) (i : Nat), mm_uq (lv_args i as)
  | [], _, _, _, _, h, _ => absurd h List.not_mem_nil
  | a :: as, i, k, v, w, h, g => by
    have big : ∀ k v, (k, v) ∈ lv_args (if a.category = 2 then i + 2 else i + 1) as → i < k := by
      intro k v e
      have := mm_args_ge as _ k v e
      split at this <;> omega
    rcases List.mem_cons.mp (show (k, v) ∈ (i, a) :: lv_args (if a.category = 2 then i + 2 else i + 1) as from h) with e | e <;> rcases List.mem_cons.mp (show (k, w) ∈ (i, a) :: lv_args (if a.category = 2 then i + 2 else i + 1) as from g) with f | f
    · cases e; cases f; rfl
    · cases e; exact absurd (big _ _ f) (Nat.lt_irrefl _)
    · cases f; exact absurd (big _ _ e) (Nat.lt_irrefl _)
    · exact mm_args_uq as _ k v w e f
theorem mm_ld_le {i : Instr} {lv lv' : mm_L} {q : Nat × Value} (hu : mm_uq lv') (hl : mm_le lv lv') (h : mm_ld i lv = some q) : mm_ld i lv' = some q := by
  have gi : ∀ {k : Nat} {v : Value}, mm_geti lv k = some v → mm_geti lv' k = some v := fun h => by
    obtain ⟨x, h1, rfl⟩ := mm_geti_inv h
    unfold mm_geti
    rw [mm_le_ix hu hl h1]
  have gl : ∀ {k : Nat} {v : Value}, mm_getl lv k = some v → mm_getl lv' k = some v := fun h => by
    obtain ⟨x, h1, rfl⟩ := mm_getl_inv h
    unfold mm_getl
    rw [mm_le_ix hu hl h1]
  have ga : ∀ {k : Nat} {v : Value}, mm_geta lv k = some v → mm_geta lv' k = some v := fun h => by
    rcases mm_geta_inv h with ⟨x, h1, rfl⟩ | ⟨h1, rfl⟩ <;> (unfold mm_geta; rw [mm_le_ix hu hl h1])
  cases i with
  | iload_n j =>
    obtain ⟨v, h1, rfl⟩ := Option.map_eq_some_iff.mp (show (mm_geti lv j).map (1, ·) = some q from h)
    show (mm_geti lv' j).map (1, ·) = _
    rw [gi h1]; rfl
  | iload j =>
    obtain ⟨v, h1, rfl⟩ := Option.map_eq_some_iff.mp (show (mm_geti lv j).map (2, ·) = some q from h)
    show (mm_geti lv' j).map (2, ·) = _
    rw [gi h1]; rfl
  | lload_n j =>
    obtain ⟨v, h1, rfl⟩ := Option.map_eq_some_iff.mp (show (mm_getl lv j).map (1, ·) = some q from h)
    show (mm_getl lv' j).map (1, ·) = _
    rw [gl h1]; rfl
  | lload j =>
    obtain ⟨v, h1, rfl⟩ := Option.map_eq_some_iff.mp (show (mm_getl lv j).map (2, ·) = some q from h)
    show (mm_getl lv' j).map (2, ·) = _
    rw [gl h1]; rfl
  | aload_n j =>
    obtain ⟨v, h1, rfl⟩ := Option.map_eq_some_iff.mp (show (mm_geta lv j).map (1, ·) = some q from h)
    show (mm_geta lv' j).map (1, ·) = _
    rw [ga h1]; rfl
  | aload j =>
    obtain ⟨v, h1, rfl⟩ := Option.map_eq_some_iff.mp (show (mm_geta lv j).map (2, ·) = some q from h)
    show (mm_geta lv' j).map (2, ·) = _
    rw [ga h1]; rfl
  | bipush n => exact h
  | sipush n => exact h
  | _ => exact mm_no h
theorem mm_sv_le {i : Instr} {nL : Nat} {lv lv' : mm_L} {st : List Value} {q : Nat × mm_L × List Value} (hu : mm_uq lv') (hl : mm_le lv lv') (h : mm_sv i nL lv st = some q) : ∃ l2, mm_sv i nL lv' st = some (q.1, l2, q.2.2) ∧ mm_le q.2.1 l2 ∧ mm_uq l2 := by
  cases i with
  | istore_n j =>
    obtain ⟨⟨a, b⟩, h1, rfl⟩ := Option.map_eq_some_iff.mp (show (mm_sti nL lv j st).map (1, ·) = some q from h)
    obtain ⟨x, rfl, hk, rfl⟩ := mm_sti_inv h1
    refine ⟨mm_set1 lv' j (.int x), ?_, mm_set1_le hl _ _, mm_set1_uq hu _ _⟩
    show (if (j : Nat) < nL then some (mm_set1 lv' j (.int x), b) else none).map (1, ·) = _
    rw [if_pos hk]; rfl
  | istore j =>
    obtain ⟨⟨a, b⟩, h1, rfl⟩ := Option.map_eq_some_iff.mp (show (mm_sti nL lv j st).map (2, ·) = some q from h)
    obtain ⟨x, rfl, hk, rfl⟩ := mm_sti_inv h1
    refine ⟨mm_set1 lv' j (.int x), ?_, mm_set1_le hl _ _, mm_set1_uq hu _ _⟩
    show (if (j : Nat) < nL then some (mm_set1 lv' j (.int x), b) else none).map (2, ·) = _
    rw [if_pos hk]; rfl
  | lstore_n j =>
    obtain ⟨⟨a, b⟩, h1, rfl⟩ := Option.map_eq_some_iff.mp (show (mm_stl nL lv j st).map (1, ·) = some q from h)
    obtain ⟨x, rfl, hk, rfl⟩ := mm_stl_inv h1
    refine ⟨mm_set2 lv' j (.long x), ?_, mm_set2_le hl _ _, mm_set2_uq hu _ _⟩
    show (if (j : Nat) + 1 < nL then some (mm_set2 lv' j (.long x), b) else none).map (1, ·) = _
    rw [if_pos hk]; rfl
  | lstore j =>
    obtain ⟨⟨a, b⟩, h1, rfl⟩ := Option.map_eq_some_iff.mp (show (mm_stl nL lv j st).map (2, ·) = some q from h)
    obtain ⟨x, rfl, hk, rfl⟩ := mm_stl_inv h1
    refine ⟨mm_set2 lv' j (.long x), ?_, mm_set2_le hl _ _, mm_set2_uq hu _ _⟩
    show (if (j : Nat) + 1 < nL then some (mm_set2 lv' j (.long x), b) else none).map (2, ·) = _
    rw [if_pos hk]; rfl
  | astore_n j =>
    obtain ⟨⟨a, b⟩, h1, rfl⟩ := Option.map_eq_some_iff.mp (show (mm_sta nL lv j st).map (1, ·) = some q from h)
    rcases mm_sta_inv h1 with ⟨x, rfl, hk, rfl⟩ | ⟨rfl, hk, rfl⟩
    · refine ⟨mm_set1 lv' j (.ref x), ?_, mm_set1_le hl _ _, mm_set1_uq hu _ _⟩
      show (if (j : Nat) < nL then some (mm_set1 lv' j (.ref x), b) else none).map (1, ·) = _
      rw [if_pos hk]; rfl
    · refine ⟨mm_set1 lv' j .null, ?_, mm_set1_le hl _ _, mm_set1_uq hu _ _⟩
      show (if (j : Nat) < nL then some (mm_set1 lv' j .null, b) else none).map (1, ·) = _
      rw [if_pos hk]; rfl
  | astore j =>
    obtain ⟨⟨a, b⟩, h1, rfl⟩ := Option.map_eq_some_iff.mp (show (mm_sta nL lv j st).map (2, ·) = some q from h)
    rcases mm_sta_inv h1 with ⟨x, rfl, hk, rfl⟩ | ⟨rfl, hk, rfl⟩
    · refine ⟨mm_set1 lv' j (.ref x), ?_, mm_set1_le hl _ _, mm_set1_uq hu _ _⟩
      show (if (j : Nat) < nL then some (mm_set1 lv' j (.ref x), b) else none).map (2, ·) = _
      rw [if_pos hk]; rfl
    · refine ⟨mm_set1 lv' j .null, ?_, mm_set1_le hl _ _, mm_set1_uq hu _ _⟩
      show (if (j : Nat) < nL then some (mm_set1 lv' j .null, b) else none).map (2, ·) = _
      rw [if_pos hk]; rfl
  | iinc j n =>
    obtain ⟨⟨a, b⟩, h1, rfl⟩ := Option.map_eq_some_iff.mp (show (mm_inc nL lv j n st).map (3, ·) = some q from h)
    obtain ⟨x, hix, rfl, hk, rfl⟩ := mm_inc_inv h1
    refine ⟨mm_set1 lv' j (.int (x + Int32.ofInt n)), ?_, mm_set1_le hl _ _, mm_set1_uq hu _ _⟩
    show (mm_inc nL lv' j n b).map (3, ·) = _
    unfold mm_inc
    rw [mm_le_ix hu hl hix]
    show (if (j : Nat) < nL then some (mm_set1 lv' j (.int (x + Int32.ofInt n)), b) else none).map (3, ·) = _
    rw [if_pos hk]; rfl
  | _ => exact mm_no h
theorem mm_sv_nold {i : Instr} {nL : Nat} {lv lv' : mm_L} {st : List Value} {q : Nat × mm_L × List Value} (h : mm_sv i nL lv st = some q) : mm_ld i lv' = none := by
  cases i <;> first | rfl | exact mm_no h
theorem mm_br_nold {i : Instr} {pc nL : Nat} {lv' : mm_L} {st : List Value} {q : Nat × List Value} (h : mm_br i pc st = some q) : mm_ld i lv' = none ∧ mm_sv i nL lv' st = none := by
  cases i <;> first | exact ⟨rfl, rfl⟩ | exact mm_no h
theorem mm_hp_nold {X : mm_C} {Y : mm_Y} {M : mm_M} {i : Instr} {nL : Nat} {lv' : mm_L} {st : List Value} {q : Nat × List Value × mm_M} (h : mm_hp X Y i st M = some q) : mm_ld i lv' = none ∧ mm_sv i nL lv' st = none := by
  cases i <;> first | exact ⟨rfl, rfl⟩ | exact mm_no h
theorem mm_hp_X {X X' : mm_C} (hX : X = X' ∨ 100000 ≤ X.1) {Y : mm_Y} {M : mm_M} {i : Instr} {st : List Value} {q : Nat × List Value × mm_M} (h : mm_hp X Y i st M = some q) : mm_hp X' Y i st M = some q := by
  rcases hX with rfl | hX
  · exact h
  · cases i with
    | iaload =>
      match st, h with
      | .int i :: .ref a :: r, h =>
        have h : (if a < mm_ext then (if mm_tag M a = 100 ∧ ¬ (i < 0 ∨ mm_len M a ≤ i.toNatClampNeg) then some (1, .int (M.2.1 a i.toNatClampNeg) :: r, M) else none)
          else if a = mm_ext then (if X.1 < 100000 ∧ ¬ (i < 0 ∨ X.1 ≤ i.toNatClampNeg) then some (1, .int (X.2 i.toNatClampNeg) :: r, M) else none)
          else if a = mm_ext + 1 ∧ ¬ (i < 0 ∨ 17 ≤ i.toNatClampNeg) then some (1, .int (mm_bd.getD i.toNatClampNeg 0) :: r, M) else none) = some q := h
        show (if a < mm_ext then (if mm_tag M a = 100 ∧ ¬ (i < 0 ∨ mm_len M a ≤ i.toNatClampNeg) then some (1, .int (M.2.1 a i.toNatClampNeg) :: r, M) else none)
          else if a = mm_ext then (if X'.1 < 100000 ∧ ¬ (i < 0 ∨ X'.1 ≤ i.toNatClampNeg) then some (1, .int (X'.2 i.toNatClampNeg) :: r, M) else none)
          else if a = mm_ext + 1 ∧ ¬ (i < 0 ∨ 17 ≤ i.toNatClampNeg) then some (1, .int (mm_bd.getD i.toNatClampNeg 0) :: r, M) else none) = some q
        by_cases ha : a < mm_ext
        · rw [if_pos ha] at h ⊢
          exact h
        · rw [if_neg ha] at h ⊢
          by_cases hs : a = mm_ext
          · rw [if_pos hs] at h
            obtain ⟨h1, -⟩ := mm_ifs h
            exact absurd h1.1 (by omega)
          · rw [if_neg hs] at h ⊢
            exact h
    | arraylength =>
      match st, h with
      | .ref a :: r, h =>
        have h : (if a < mm_ext then (if 100 ≤ mm_tag M a ∧ mm_tag M a ≤ 103 then some (1, .int (Int32.ofNat (mm_len M a)) :: r, M) else none)
          else if a = mm_ext then (if X.1 < 100000 then some (1, .int (Int32.ofNat X.1) :: r, M) else none)
          else if 50 ≤ a - mm_ext ∧ a - mm_ext < 66 then some (1, .int (Int32.ofNat (mm_sb.getD (a - mm_ext - 50) []).length) :: r, M) else none) = some q := h
        show (if a < mm_ext then (if 100 ≤ mm_tag M a ∧ mm_tag M a ≤ 103 then some (1, .int (Int32.ofNat (mm_len M a)) :: r, M) else none)
          else if a = mm_ext then (if X'.1 < 100000 then some (1, .int (Int32.ofNat X'.1) :: r, M) else none)
          else if 50 ≤ a - mm_ext ∧ a - mm_ext < 66 then some (1, .int (Int32.ofNat (mm_sb.getD (a - mm_ext - 50) []).length) :: r, M) else none) = some q
        by_cases ha : a < mm_ext
        · rw [if_pos ha] at h ⊢
          exact h
        · rw [if_neg ha] at h ⊢
          by_cases hs : a = mm_ext
          · rw [if_pos hs] at h
            obtain ⟨h1, -⟩ := mm_ifs h
            exact absurd h1 (by omega)
          · rw [if_neg hs] at h ⊢
            exact h
    | _ => exact h
theorem mm_next_le {X X' : mm_C} (hX : X = X' ∨ 100000 ≤ X.1) {Y : mm_Y} {i : Instr} {len pc : Nat} {lv lv' : mm_L} {st : List Value} {M : mm_M} {o : mm_O} (hu : mm_uq lv') (hl : mm_le lv lv') (h : mm_next X Y i len pc lv st M = some o) : ∃ l2, mm_next X' Y i len pc lv' st M = some (o.1, l2, o.2.2) ∧ mm_le o.2.1 l2 ∧ mm_uq l2 := by
  unfold mm_next at h ⊢
  cases h1 : mm_ar i st with
  | some st' =>
    rw [h1] at h
    obtain ⟨hlen, h⟩ := mm_ifs h
    cases h
    exact ⟨lv', by dsimp only; rw [if_pos hlen], hl, hu⟩
  | none =>
    rw [h1] at h
    dsimp only at h ⊢
    cases h2 : mm_ld i lv with
    | some q =>
      rw [h2] at h
      rw [mm_ld_le hu hl h2]
      obtain ⟨hlen, h⟩ := mm_ifs h
      cases h
      exact ⟨lv', by dsimp only; rw [if_pos hlen], hl, hu⟩
    | none =>
      rw [h2] at h
      dsimp only at h
      cases h3 : mm_sv i Y.2.2.2.1 lv st with
      | some q =>
        rw [h3] at h
        obtain ⟨l2, g1, g2, g3⟩ := mm_sv_le hu hl h3
        rw [mm_sv_nold (lv' := lv') h3, g1]
        obtain ⟨hlen, h⟩ := mm_ifs h
        cases h
        exact ⟨l2, by dsimp only; rw [if_pos hlen], g2, g3⟩
      | none =>
        rw [h3] at h
        dsimp only at h
        cases h4 : mm_br i pc st with
        | some q =>
          rw [h4] at h
          obtain ⟨n1, n2⟩ := mm_br_nold (nL := Y.2.2.2.1) (lv' := lv') h4
          rw [n1, n2]
          obtain ⟨hlen, h⟩ := mm_ifs h
          cases h
          exact ⟨lv', by dsimp only; rw [if_pos hlen], hl, hu⟩
        | none =>
          rw [h4] at h
          dsimp only at h
          cases h5 : mm_hp X Y i st M with
          | some q =>
            rw [h5] at h
            obtain ⟨n1, n2⟩ := mm_hp_nold (nL := Y.2.2.2.1) (lv' := lv') h5
            rw [n1, n2, mm_hp_X hX h5]
            obtain ⟨hlen, h⟩ := mm_ifs h
            cases h
            exact ⟨lv', by dsimp only; rw [if_pos hlen], hl, hu⟩
          | none =>
            rw [h5] at h
            exact mm_no h
/-- at a call or an end the step doesn't look at locals or the script -/
theorem mm_next_ct {X X' : mm_C} {Y : mm_Y} {i : Instr} {len pc : Nat} {lv lv' : mm_L} {st : List Value} {M : mm_M} (hi : (mm_call Y i st M).isSome = true ∨ (mm_ret Y.2.2.2.2 i st).isSome = true) (h : mm_next X Y i len pc lv st M = none) : mm_next X' Y i len pc lv' st M = none := by
  have key : ∀ (t : Option (Nat × List Value × mm_M)), (match t with | some q => if len = q.1 then some (pc + q.1, lv, q.2.1, q.2.2) else none | none => none) = (none : Option mm_O) → (match t with | some q => if len = q.1 then some (pc + q.1, lv', q.2.1, q.2.2) else none | none => none) = (none : Option mm_O) := by
    intro t ht
    cases t with
    | none => rfl
    | some q =>
      dsimp only at ht ⊢
      by_cases hl : len = q.1
      · rw [if_pos hl] at ht
        cases ht
      · rw [if_neg hl]
  cases i with
  | invokespecial k => exact key (mm_obi Y k st M) h
  | invokestatic k => exact key (mm_cpy Y k st M) h
  | _ => first | exact h | (rcases hi with hi | hi <;> exact absurd hi (by simp [mm_call, mm_ret]))
theorem mm_run_le {X X' : mm_C} (hX : X = X' ∨ 100000 ≤ X.1) : ∀ (n d : Nat) (Y : mm_Y) (pc : Nat) (lv : mm_L) (st : List Value) (M : mm_M) (r : Option Value × mm_M), mm_run X n d Y pc lv st M = some r → ∀ (n' d' : Nat) (lv' : mm_L), n ≤ n' → d ≤ d' → mm_le lv lv' → mm_uq lv' → mm_run X' n' d' Y pc lv' st M = some r := by
  intro n
  induction n with
  | zero => intro d Y pc lv st M r h; exact mm_no h
  | succ n ih =>
    intro d Y pc lv st M r h n' d' lv' hn hd hl hu
    obtain ⟨n', rfl⟩ : ∃ k, n' = k + 1 := ⟨n' - 1, by omega⟩
    unfold mm_run at h ⊢
    cases hdc : decode Y.2.2.1 pc with
    | error er => rw [hdc] at h; exact mm_no h
    | ok q =>
      obtain ⟨i, len⟩ := q
      rw [hdc] at h
      dsimp only at h ⊢
      cases hnx : mm_next X Y i len pc lv st M with
      | some o =>
        rw [hnx] at h
        obtain ⟨l2, g1, g2, g3⟩ := mm_next_le hX hu hl hnx
        rw [g1]
        exact ih _ _ _ _ _ _ _ h n' d' l2 (by omega) hd g2 g3
      | none =>
        rw [hnx] at h
        dsimp only at h
        cases hcl : mm_call Y i st M with
        | some g =>
          rw [hcl] at h
          rw [mm_next_ct (X' := X') (lv' := lv') (Or.inl (by rw [hcl]; rfl)) hnx]
          dsimp only at h ⊢
          cases d with
          | zero => exact mm_no h
          | succ d =>
            obtain ⟨d', rfl⟩ : ∃ k, d' = k + 1 := ⟨d' - 1, by omega⟩
            dsimp only at h ⊢
            obtain ⟨hlen, h2⟩ := mm_ifs h
            rw [if_pos hlen]
            cases hr1 : mm_run X n d g.1 0 (lv_args 0 g.2.1) [] M with
            | none => rw [hr1] at h2; exact mm_no h2
            | some q1 =>
              rw [hr1] at h2
              rw [ih _ _ _ _ _ _ _ hr1 n' d' (lv_args 0 g.2.1) (by omega) (by omega) (fun q h => h) (mm_args_uq _ _)]
              exact ih _ _ _ _ _ _ _ h2 n' (d' + 1) lv' (by omega) (by omega) hl hu
        | none =>
          rw [hcl] at h
          dsimp only at h
          cases hrt : mm_ret Y.2.2.2.2 i st with
          | none => rw [hrt] at h; exact mm_no h
          | some r1 =>
            rw [hrt] at h
            rw [mm_next_ct (X' := X') (lv' := lv') (Or.inr (by rw [hrt]; rfl)) hnx]
            exact h
