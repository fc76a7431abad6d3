/-! the abstract machine's steps are the machine's: values, stack, locals, branches -/
def mm_ad (z : Nat) (ex : Nat → Nat) (a : Nat) : Nat := if a < mm_ext then z + a else ex (a - mm_ext)
def mm_v (ad : Nat → Nat) (fz : Value) : Value → Value
  | .ref a => .ref (ad a)
  | .retAddr _ => fz
  | .int x => .int x
  | .long x => .long x
  | .float x => .float x
  | .double x => .double x
  | .null => .null
def mm_ms (ad : Nat → Nat) (fz : Value) (st : List Value) : List Value := st.map (mm_v ad fz)
def mm_ml' (ad : Nat → Nat) (fz : Value) (lv : mm_L) : mm_L := lv.map (fun q => (q.1, mm_v ad fz q.2))
theorem mm_no {α : Type} {C : Prop} {b : α} (h : (none : Option α) = some b) : C := nomatch h
theorem mm_vcat {ad : Nat → Nat} {fz : Value} (hfz : fz.category = 1) (v : Value) : (mm_v ad fz v).category = v.category := by
  cases v <;> first | rfl | exact hfz
theorem mm_ix_mem {α : Type} {l : List (Nat × α)} {k : Nat} {v : α} (h : mm_ix l k = some v) : (k, v) ∈ l := by
  induction l with
  | nil => exact mm_no h
  | cons q l ih =>
    obtain ⟨a, b⟩ := q
    unfold mm_ix at h
    by_cases hak : Nat.beq a k = true
    · rw [hak] at h
      have e1 : a = k := Nat.eq_of_beq_eq_true hak
      have e2 : b = v := Option.some.inj h
      rw [e1, e2]
      exact List.mem_cons_self
    · have hf : Nat.beq a k = false := by cases hb : Nat.beq a k; rfl; exact absurd hb hak
      rw [hf] at h
      exact List.mem_cons_of_mem _ (ih h)
theorem mm_lat {ad : Nat → Nat} {fz : Value} {ls : Array Slot} {nL : Nat} {lv : mm_L} (hl : lv_has ls nL (mm_ml' ad fz lv)) {k : Nat} {v : Value} (h : mm_ix lv k = some v) : ls[k]? = some (.val (mm_v ad fz v)) :=
  hl.2.2 (k, mm_v ad fz v) (List.mem_map.mpr ⟨(k, v), mm_ix_mem h, rfl⟩)
theorem mm_ii_inv {st st' : List Value} {f : Int32 → Int32 → Option Value} (h : mm_ii st f = some st') : ∃ (x y : Int32) (r : List Value) (v : Value), st = .int y :: .int x :: r ∧ f x y = some v ∧ st' = v :: r := by
  unfold mm_ii at h
  split at h
  · obtain ⟨v, h1, h2⟩ := Option.map_eq_some_iff.mp h
    exact ⟨_, _, _, v, rfl, h1, h2.symm⟩
  · exact mm_no h
theorem mm_jj_inv {st st' : List Value} {f : Int64 → Int64 → Option Value} (h : mm_jj st f = some st') : ∃ (x y : Int64) (r : List Value) (v : Value), st = .long y :: .long x :: r ∧ f x y = some v ∧ st' = v :: r := by
  unfold mm_jj at h
  split at h
  · obtain ⟨v, h1, h2⟩ := Option.map_eq_some_iff.mp h
    exact ⟨_, _, _, v, rfl, h1, h2.symm⟩
  · exact mm_no h
theorem mm_ji_inv {st st' : List Value} {f : Int64 → Int32 → Value} (h : mm_ji st f = some st') : ∃ (x : Int64) (y : Int32) (r : List Value), st = .int y :: .long x :: r ∧ st' = f x y :: r := by
  unfold mm_ji at h
  split at h
  · exact ⟨_, _, _, rfl, (Option.some.inj h).symm⟩
  · exact mm_no h
theorem mm_i1_inv {st st' : List Value} {f : Int32 → Value} (h : mm_i1 st f = some st') : ∃ (x : Int32) (r : List Value), st = .int x :: r ∧ st' = f x :: r := by
  unfold mm_i1 at h
  split at h
  · exact ⟨_, _, rfl, (Option.some.inj h).symm⟩
  · exact mm_no h
theorem mm_j1_inv {st st' : List Value} {f : Int64 → Value} (h : mm_j1 st f = some st') : ∃ (x : Int64) (r : List Value), st = .long x :: r ∧ st' = f x :: r := by
  unfold mm_j1 at h
  split at h
  · exact ⟨_, _, rfl, (Option.some.inj h).symm⟩
  · exact mm_no h
theorem mm_dup_inv {st st' : List Value} (h : mm_dup st = some st') : ∃ (v : Value) (r : List Value), st = v :: r ∧ v.category = 1 ∧ st' = v :: v :: r := by
  cases st with
  | nil => exact mm_no h
  | cons v r =>
    have h : (if v.category = 1 then some (v :: v :: r) else none) = some st' := h
    by_cases hv : v.category = 1
    · rw [if_pos hv] at h; exact ⟨v, r, rfl, hv, (Option.some.inj h).symm⟩
    · rw [if_neg hv] at h; exact mm_no h
theorem mm_pop_inv {st st' : List Value} (h : mm_pop st = some st') : ∃ (v : Value), st = v :: st' ∧ v.category = 1 := by
  cases st with
  | nil => exact mm_no h
  | cons v r =>
    have h : (if v.category = 1 then some r else none) = some st' := h
    by_cases hv : v.category = 1
    · rw [if_pos hv] at h; cases h; exact ⟨v, rfl, hv⟩
    · rw [if_neg hv] at h; exact mm_no h
theorem mm_pop2_inv {st st' : List Value} (h : mm_pop2 st = some st') : ∃ (v : Value), st = v :: st' ∧ v.category = 2 := by
  cases st with
  | nil => exact mm_no h
  | cons v r =>
    have h : (if v.category = 2 then some r else none) = some st' := h
    by_cases hv : v.category = 2
    · rw [if_pos hv] at h; cases h; exact ⟨v, rfl, hv⟩
    · rw [if_neg hv] at h; exact mm_no h
theorem mm_dup2_inv {st st' : List Value} (h : mm_dup2 st = some st') : ∃ (v w : Value) (r : List Value), st = v :: w :: r ∧ v.category = 1 ∧ w.category = 1 ∧ st' = v :: w :: v :: w :: r := by
  cases st with
  | nil => exact mm_no h
  | cons v r =>
    cases r with
    | nil => exact mm_no h
    | cons w r =>
      have h : (if v.category = 1 ∧ w.category = 1 then some (v :: w :: v :: w :: r) else none) = some st' := h
      by_cases hv : v.category = 1 ∧ w.category = 1
      · rw [if_pos hv] at h; exact ⟨v, w, r, rfl, hv.1, hv.2, (Option.some.inj h).symm⟩
      · rw [if_neg hv] at h; exact mm_no h
theorem mm_if0_inv {cd : ClassFile.Cond} {pc : Nat} {off : Int} {st : List Value} {q : Nat × List Value} (h : mm_if0 cd pc off st = some q) : ∃ (x : Int32) (r : List Value) (t : Nat), st = .int x :: r ∧ mm_tg pc off = some t ∧ q = (bif mm_cc cd x 0 then t else pc + 3, r) := by
  cases st with
  | nil => exact mm_no h
  | cons v r =>
    cases v with
    | int x =>
      obtain ⟨t, h1, h2⟩ := Option.map_eq_some_iff.mp (show (mm_tg pc off).map (fun t => (bif mm_cc cd x 0 then t else pc + 3, r)) = some q from h)
      exact ⟨x, r, t, rfl, h1, h2.symm⟩
    | _ => exact mm_no h
theorem mm_if2_inv {cd : ClassFile.Cond} {pc : Nat} {off : Int} {st : List Value} {q : Nat × List Value} (h : mm_if2 cd pc off st = some q) : ∃ (x y : Int32) (r : List Value) (t : Nat), st = .int y :: .int x :: r ∧ mm_tg pc off = some t ∧ q = (bif mm_cc cd x y then t else pc + 3, r) := by
  cases st with
  | nil => exact mm_no h
  | cons v r =>
    cases v with
    | int y =>
      cases r with
      | nil => exact mm_no h
      | cons w r =>
        cases w with
        | int x =>
          obtain ⟨t, h1, h2⟩ := Option.map_eq_some_iff.mp (show (mm_tg pc off).map (fun t => (bif mm_cc cd x y then t else pc + 3, r)) = some q from h)
          exact ⟨x, y, r, t, rfl, h1, h2.symm⟩
        | _ => exact mm_no h
    | _ => exact mm_no h
section MM1
variable {p : Program} {l : Launch} {e : Env} {R : Room} {s : State} {m : MethodId} {args : Array Value} {below : List Frame} {meth : Method} {c : Code} {H : Heap} {locs : List Loc} {cells slots : Nat} {Q : State → Prop}
variable {cc : ByteArray} {pc : Nat} {ls : Array Slot} {ad : Nat → Nat} {fz : Value}
set_option maxHeartbeats 4000000 in
theorem mm_s_ar (hx : p.tables.exec = Jvm.exec) (hb : c.code = cc) (hfz : fz.category = 1) {i : Instr} {st st' : List Value} (hd : decode cc pc = .ok (i, 1)) (h : mm_ar i st = some st')
    (k : W p l e R s m args below meth c H locs cells slots Q (F0 m (pc + 1) ls (mm_ms ad fz st'))) : W p l e R s m args below meth c H locs cells slots Q (F0 m pc ls (mm_ms ad fz st)) := by
  cases i with
  | iadd => obtain ⟨x, y, r, v, rfl, h1, rfl⟩ := mm_ii_inv h; cases h1; exact lv_iadd hx hb hd k
  | isub => obtain ⟨x, y, r, v, rfl, h1, rfl⟩ := mm_ii_inv h; cases h1; exact lv_isub hx hb hd k
  | imul => obtain ⟨x, y, r, v, rfl, h1, rfl⟩ := mm_ii_inv h; cases h1; exact lv_imul hx hb hd k
  | iand => obtain ⟨x, y, r, v, rfl, h1, rfl⟩ := mm_ii_inv h; cases h1; exact lv_iand hx hb hd k
  | ior => obtain ⟨x, y, r, v, rfl, h1, rfl⟩ := mm_ii_inv h; cases h1; exact lv_ior hx hb hd k
  | ishl => obtain ⟨x, y, r, v, rfl, h1, rfl⟩ := mm_ii_inv h; cases h1; exact lv_ishl hx hb hd k
  | ishr => obtain ⟨x, y, r, v, rfl, h1, rfl⟩ := mm_ii_inv h; cases h1; exact lv_ishr hx hb hd k
  | idiv =>
    obtain ⟨x, y, r, v, rfl, h1, rfl⟩ := mm_ii_inv h
    by_cases hy : y = 0
    · rw [if_pos hy] at h1; exact mm_no h1
    · rw [if_neg hy] at h1; cases h1; exact lv_idiv hx hb hd hy k
  | irem =>
    obtain ⟨x, y, r, v, rfl, h1, rfl⟩ := mm_ii_inv h
    by_cases hy : y = 0
    · rw [if_pos hy] at h1; exact mm_no h1
    · rw [if_neg hy] at h1; cases h1; exact lv_irem hx hb hd hy k
  | ladd => obtain ⟨x, y, r, v, rfl, h1, rfl⟩ := mm_jj_inv h; cases h1; exact lv_ladd hx hb hd k
  | lsub => obtain ⟨x, y, r, v, rfl, h1, rfl⟩ := mm_jj_inv h; cases h1; exact lv_lsub hx hb hd k
  | lmul => obtain ⟨x, y, r, v, rfl, h1, rfl⟩ := mm_jj_inv h; cases h1; exact lv_lmul hx hb hd k
  | land => obtain ⟨x, y, r, v, rfl, h1, rfl⟩ := mm_jj_inv h; cases h1; exact lv_land hx hb hd k
  | lor => obtain ⟨x, y, r, v, rfl, h1, rfl⟩ := mm_jj_inv h; cases h1; exact lv_lor hx hb hd k
  | lcmp => obtain ⟨x, y, r, v, rfl, h1, rfl⟩ := mm_jj_inv h; cases h1; exact W.lcmp hx hb hd k
  | ldiv =>
    obtain ⟨x, y, r, v, rfl, h1, rfl⟩ := mm_jj_inv h
    by_cases hy : y = 0
    · rw [if_pos hy] at h1; exact mm_no h1
    · rw [if_neg hy] at h1; cases h1; exact lv_ldiv hx hb hd hy k
  | lrem =>
    obtain ⟨x, y, r, v, rfl, h1, rfl⟩ := mm_jj_inv h
    by_cases hy : y = 0
    · rw [if_pos hy] at h1; exact mm_no h1
    · rw [if_neg hy] at h1; cases h1; exact lv_lrem hx hb hd hy k
  | lshl => obtain ⟨x, y, r, rfl, rfl⟩ := mm_ji_inv h; exact lv_lshl hx hb hd rfl k
  | lshr => obtain ⟨x, y, r, rfl, rfl⟩ := mm_ji_inv h; exact lv_lshr hx hb hd rfl k
  | lneg => obtain ⟨x, r, rfl, rfl⟩ := mm_j1_inv h; exact lv_lneg hx hb hd k
  | l2i => obtain ⟨x, r, rfl, rfl⟩ := mm_j1_inv h; exact lv_l2i hx hb hd rfl k
  | i2l => obtain ⟨x, r, rfl, rfl⟩ := mm_i1_inv h; exact lv_i2l hx hb hd rfl k
  | i2b => obtain ⟨x, r, rfl, rfl⟩ := mm_i1_inv h; exact lv_i2b hx hb hd rfl k
  | i2c => obtain ⟨x, r, rfl, rfl⟩ := mm_i1_inv h; exact lv_i2c hx hb hd rfl k
  | iconst n => cases (show some (Value.int (Int32.ofInt n) :: st) = some st' from h); exact lv_iconst hx hb hd rfl k
  | lconst n => cases (show some (Value.long (Int64.ofNat (n : Nat)) :: st) = some st' from h); exact lv_lconst hx hb hd rfl k
  | aconst_null => cases (show some (Value.null :: st) = some st' from h); exact lv_null hx hb hd k
  | dup => obtain ⟨v, r, rfl, hv, rfl⟩ := mm_dup_inv h; exact lv_dup hx hb hd ((mm_vcat hfz v).trans hv) k
  | pop => obtain ⟨v, rfl, hv⟩ := mm_pop_inv h; exact lv_pop (va := mm_v ad fz v) hx hb hd ((mm_vcat hfz v).trans hv) k
  | pop2 => obtain ⟨v, rfl, hv⟩ := mm_pop2_inv h; exact lv_pop2_2 (va := mm_v ad fz v) hx hb hd ((mm_vcat hfz v).trans hv) k
  | dup2 => obtain ⟨v, w, r, rfl, hv, hw, rfl⟩ := mm_dup2_inv h; exact lv_dup2_11 hx hb hd ((mm_vcat hfz v).trans hv) ((mm_vcat hfz w).trans hw) k
  | _ => exact mm_no h
theorem mm_geti_inv {lv : mm_L} {k : Nat} {v : Value} (h : mm_geti lv k = some v) : ∃ x : Int32, mm_ix lv k = some (.int x) ∧ v = .int x := by
  unfold mm_geti at h
  split at h
  · rename_i x hx; exact ⟨x, hx, (Option.some.inj h).symm⟩
  · exact mm_no h
theorem mm_getl_inv {lv : mm_L} {k : Nat} {v : Value} (h : mm_getl lv k = some v) : ∃ x : Int64, mm_ix lv k = some (.long x) ∧ v = .long x := by
  unfold mm_getl at h
  split at h
  · rename_i x hx; exact ⟨x, hx, (Option.some.inj h).symm⟩
  · exact mm_no h
theorem mm_geta_inv {lv : mm_L} {k : Nat} {v : Value} (h : mm_geta lv k = some v) : (∃ x : Nat, mm_ix lv k = some (.ref x) ∧ v = .ref x) ∨ (mm_ix lv k = some .null ∧ v = .null) := by
  unfold mm_geta at h
  split at h
  · rename_i x hx; exact Or.inl ⟨x, hx, (Option.some.inj h).symm⟩
  · rename_i hx; exact Or.inr ⟨hx, (Option.some.inj h).symm⟩
  · exact mm_no h
set_option maxHeartbeats 4000000 in
theorem mm_s_ld (hx : p.tables.exec = Jvm.exec) (hb : c.code = cc) {i : Instr} {lv : mm_L} {nL : Nat} {st : List Value} {q : Nat × Value} (hl : lv_has ls nL (mm_ml' ad fz lv)) (hd : decode cc pc = .ok (i, q.1)) (h : mm_ld i lv = some q)
    (k : W p l e R s m args below meth c H locs cells slots Q (F0 m (pc + q.1) ls (mm_ms ad fz (q.2 :: st)))) : W p l e R s m args below meth c H locs cells slots Q (F0 m pc ls (mm_ms ad fz st)) := by
  cases i with
  | iload_n j =>
    obtain ⟨v, h1, rfl⟩ := Option.map_eq_some_iff.mp (show (mm_geti lv j).map (1, ·) = some q from h)
    obtain ⟨x, h2, rfl⟩ := mm_geti_inv h1
    exact lv_iload_n hx hb hd rfl (mm_lat hl h2) k
  | iload j =>
    obtain ⟨v, h1, rfl⟩ := Option.map_eq_some_iff.mp (show (mm_geti lv j).map (2, ·) = some q from h)
    obtain ⟨x, h2, rfl⟩ := mm_geti_inv h1
    exact lv_iload hx hb hd (mm_lat hl h2) k
  | lload_n j =>
    obtain ⟨v, h1, rfl⟩ := Option.map_eq_some_iff.mp (show (mm_getl lv j).map (1, ·) = some q from h)
    obtain ⟨x, h2, rfl⟩ := mm_getl_inv h1
    exact lv_lload_n hx hb hd rfl (mm_lat hl h2) k
  | lload j =>
    obtain ⟨v, h1, rfl⟩ := Option.map_eq_some_iff.mp (show (mm_getl lv j).map (2, ·) = some q from h)
    obtain ⟨x, h2, rfl⟩ := mm_getl_inv h1
    exact lv_lload hx hb hd (mm_lat hl h2) k
  | aload_n j =>
    obtain ⟨v, h1, rfl⟩ := Option.map_eq_some_iff.mp (show (mm_geta lv j).map (1, ·) = some q from h)
    rcases mm_geta_inv h1 with ⟨x, h2, rfl⟩ | ⟨h2, rfl⟩
    · exact lv_aload_n hx hb hd rfl (mm_lat hl h2) k
    · exact lv_aload_nN hx hb hd rfl (mm_lat hl h2) k
  | aload j =>
    obtain ⟨v, h1, rfl⟩ := Option.map_eq_some_iff.mp (show (mm_geta lv j).map (2, ·) = some q from h)
    rcases mm_geta_inv h1 with ⟨x, h2, rfl⟩ | ⟨h2, rfl⟩
    · exact lv_aload hx hb hd (mm_lat hl h2) k
    · exact lv_aloadN hx hb hd (mm_lat hl h2) k
  | bipush n => cases (show some (2, Value.int (Int8.ofInt n).toInt32) = some q from h); exact lv_bipush hx hb hd rfl k
  | sipush n => cases (show some (3, Value.int (Int16.ofInt n).toInt32) = some q from h); exact lv_sipush hx hb hd rfl k
  | _ => exact mm_no h
theorem mm_set1_map (hfz : fz.category = 1) (lv : mm_L) (i : Nat) (v : Value) : mm_ml' ad fz (mm_set1 lv i v) = (i, mm_v ad fz v) :: (mm_ml' ad fz lv).filter (fun q => !(q.1 == i) && !(q.1 + 1 == i && q.2.category == 2)) := by
  unfold mm_ml' mm_set1
  rw [List.map_cons, List.filter_map]
  congr 1
  congr 1
  apply List.filter_congr
  intro q _
  simp only [Function.comp, mm_vcat hfz]
theorem mm_set2_map (hfz : fz.category = 1) (lv : mm_L) (i : Nat) (v : Value) : mm_ml' ad fz (mm_set2 lv i v) = (i, mm_v ad fz v) :: (mm_ml' ad fz lv).filter (fun q => !(q.1 == i) && (!(q.1 == i + 1) && !(q.1 + 1 == i && q.2.category == 2))) := by
  unfold mm_ml' mm_set2
  rw [List.map_cons, List.filter_map]
  congr 1
  congr 1
  apply List.filter_congr
  intro q _
  simp only [Function.comp, mm_vcat hfz]
theorem mm_sti_inv {nL : Nat} {lv lv' : mm_L} {k : Nat} {st st' : List Value} (h : mm_sti nL lv k st = some (lv', st')) : ∃ x : Int32, st = .int x :: st' ∧ k < nL ∧ lv' = mm_set1 lv k (.int x) := by
  unfold mm_sti at h
  split at h
  · rename_i x r
    by_cases hk : k < nL
    · rw [if_pos hk] at h; cases h; exact ⟨x, rfl, hk, rfl⟩
    · rw [if_neg hk] at h; exact mm_no h
  · exact mm_no h
theorem mm_stl_inv {nL : Nat} {lv lv' : mm_L} {k : Nat} {st st' : List Value} (h : mm_stl nL lv k st = some (lv', st')) : ∃ x : Int64, st = .long x :: st' ∧ k + 1 < nL ∧ lv' = mm_set2 lv k (.long x) := by
  unfold mm_stl at h
  split at h
  · rename_i x r
    by_cases hk : k + 1 < nL
    · rw [if_pos hk] at h; cases h; exact ⟨x, rfl, hk, rfl⟩
    · rw [if_neg hk] at h; exact mm_no h
  · exact mm_no h
theorem mm_sta_inv {nL : Nat} {lv lv' : mm_L} {k : Nat} {st st' : List Value} (h : mm_sta nL lv k st = some (lv', st')) : (∃ x : Nat, st = .ref x :: st' ∧ k < nL ∧ lv' = mm_set1 lv k (.ref x)) ∨ (st = .null :: st' ∧ k < nL ∧ lv' = mm_set1 lv k .null) := by
  unfold mm_sta at h
  split at h
  · rename_i x r
    by_cases hk : k < nL
    · rw [if_pos hk] at h; cases h; exact Or.inl ⟨x, rfl, hk, rfl⟩
    · rw [if_neg hk] at h; exact mm_no h
  · rename_i r
    by_cases hk : k < nL
    · rw [if_pos hk] at h; cases h; exact Or.inr ⟨rfl, hk, rfl⟩
    · rw [if_neg hk] at h; exact mm_no h
  · exact mm_no h
theorem mm_inc_inv {nL : Nat} {lv lv' : mm_L} {k : Nat} {n : Int} {st st' : List Value} (h : mm_inc nL lv k n st = some (lv', st')) : ∃ x : Int32, mm_ix lv k = some (.int x) ∧ st' = st ∧ k < nL ∧ lv' = mm_set1 lv k (.int (x + Int32.ofInt n)) := by
  unfold mm_inc at h
  split at h
  · rename_i x hx
    by_cases hk : k < nL
    · rw [if_pos hk] at h; cases h; exact ⟨x, hx, rfl, hk, rfl⟩
    · rw [if_neg hk] at h; exact mm_no h
  · exact mm_no h
set_option maxHeartbeats 4000000 in
theorem mm_s_sv (hx : p.tables.exec = Jvm.exec) (hb : c.code = cc) (hfz : fz.category = 1) {i : Instr} {lv : mm_L} {nL : Nat} {st : List Value} {q : Nat × mm_L × List Value} (hl : lv_has ls nL (mm_ml' ad fz lv)) (hd : decode cc pc = .ok (i, q.1)) (h : mm_sv i nL lv st = some q)
    (k : ∀ ls' : Array Slot, lv_has ls' nL (mm_ml' ad fz q.2.1) → W p l e R s m args below meth c H locs cells slots Q (F0 m (pc + q.1) ls' (mm_ms ad fz q.2.2))) : W p l e R s m args below meth c H locs cells slots Q (F0 m pc ls (mm_ms ad fz st)) := by
  cases i with
  | istore_n j =>
    obtain ⟨⟨lv', st'⟩, h1, rfl⟩ := Option.map_eq_some_iff.mp (show (mm_sti nL lv j st).map (1, ·) = some q from h)
    obtain ⟨x, rfl, hk, rfl⟩ := mm_sti_inv h1
    exact lv_istore_n hx hb hd rfl hl hk (mm_set1_map hfz lv j (.int x)).symm k
  | istore j =>
    obtain ⟨⟨lv', st'⟩, h1, rfl⟩ := Option.map_eq_some_iff.mp (show (mm_sti nL lv j st).map (2, ·) = some q from h)
    obtain ⟨x, rfl, hk, rfl⟩ := mm_sti_inv h1
    exact lv_istore hx hb hd hl hk (mm_set1_map hfz lv j (.int x)).symm k
  | lstore_n j =>
    obtain ⟨⟨lv', st'⟩, h1, rfl⟩ := Option.map_eq_some_iff.mp (show (mm_stl nL lv j st).map (1, ·) = some q from h)
    obtain ⟨x, rfl, hk, rfl⟩ := mm_stl_inv h1
    exact lv_lstore_n hx hb hd rfl hl hk (mm_set2_map hfz lv j (.long x)).symm k
  | lstore j =>
    obtain ⟨⟨lv', st'⟩, h1, rfl⟩ := Option.map_eq_some_iff.mp (show (mm_stl nL lv j st).map (2, ·) = some q from h)
    obtain ⟨x, rfl, hk, rfl⟩ := mm_stl_inv h1
    exact lv_lstore hx hb hd hl hk (mm_set2_map hfz lv j (.long x)).symm k
  | astore_n j =>
    obtain ⟨⟨lv', st'⟩, h1, rfl⟩ := Option.map_eq_some_iff.mp (show (mm_sta nL lv j st).map (1, ·) = some q from h)
    rcases mm_sta_inv h1 with ⟨x, rfl, hk, rfl⟩ | ⟨rfl, hk, rfl⟩
    · exact lv_astore_n hx hb hd rfl hl hk (mm_set1_map hfz lv j (.ref x)).symm k
    · exact lv_astore_nN hx hb hd rfl hl hk (mm_set1_map hfz lv j .null).symm k
  | astore j =>
    obtain ⟨⟨lv', st'⟩, h1, rfl⟩ := Option.map_eq_some_iff.mp (show (mm_sta nL lv j st).map (2, ·) = some q from h)
    rcases mm_sta_inv h1 with ⟨x, rfl, hk, rfl⟩ | ⟨rfl, hk, rfl⟩
    · exact lv_astore hx hb hd hl hk (mm_set1_map hfz lv j (.ref x)).symm k
    · exact lv_astoreN hx hb hd hl hk (mm_set1_map hfz lv j .null).symm k
  | iinc j n =>
    obtain ⟨⟨lv', st'⟩, h1, rfl⟩ := Option.map_eq_some_iff.mp (show (mm_inc nL lv j n st).map (3, ·) = some q from h)
    obtain ⟨x, hix, rfl, hk, rfl⟩ := mm_inc_inv h1
    obtain ⟨k0, hk0⟩ := List.getElem?_of_mem (show (j, mm_v ad fz (.int x)) ∈ mm_ml' ad fz lv from List.mem_map.mpr ⟨(j, .int x), mm_ix_mem hix, rfl⟩)
    exact lv_iinc hx hb hd hl (k := k0) hk0 rfl hk (mm_set1_map hfz lv j (.int (x + Int32.ofInt n))).symm k
  | _ => exact mm_no h
theorem mm_tg_inv {pc t : Nat} {off : Int} (h : mm_tg pc off = some t) : (pc : Int) + off = (t : Int) := by
  unfold mm_tg at h
  by_cases h0 : 0 ≤ (pc : Int) + off
  · rw [if_pos h0] at h
    rw [← Option.some.inj h]
    omega
  · rw [if_neg h0] at h
    exact mm_no h
theorem mm_bifT {α : Type} {b : Bool} {x y : α} (h : b = true) : (bif b then x else y) = x := by rw [h]; rfl
theorem mm_bifF {α : Type} {b : Bool} {x y : α} (h : b = false) : (bif b then x else y) = y := by rw [h]; rfl
set_option maxHeartbeats 4000000 in
theorem mm_s_br (hx : p.tables.exec = Jvm.exec) (hb : c.code = cc) {i : Instr} {len : Nat} {st : List Value} {q : Nat × List Value} (hd : decode cc pc = .ok (i, len)) (hlen : len = 3 ∨ mm_sw? i = true) (h : mm_br i pc st = some q)
    (k : W p l e R s m args below meth c H locs cells slots Q (F0 m q.1 ls (mm_ms ad fz q.2))) : W p l e R s m args below meth c H locs cells slots Q (F0 m pc ls (mm_ms ad fz st)) := by
  cases i with
  | ifCond cd off =>
    have hlen : len = 3 := hlen.elim id (fun z => nomatch z)
    subst hlen
    obtain ⟨x, r, t, rfl, h1, rfl⟩ := mm_if0_inv h
    have ht := mm_tg_inv h1
    cases cd with
    | eq => exact lv_if_eq hx hb hd ht (fun z => by have e := mm_bifT (x := t) (y := pc + 3) (show mm_cc .eq x 0 = true from decide_eq_true z); rw [e] at k; exact k) (fun z => by have e := mm_bifF (x := t) (y := pc + 3) (show mm_cc .eq x 0 = false from decide_eq_false z); rw [e] at k; exact k)
    | ne => exact lv_if_ne hx hb hd ht (fun z => by have e := mm_bifT (x := t) (y := pc + 3) (show mm_cc .ne x 0 = true by unfold mm_cc; simp [z]); rw [e] at k; exact k) (fun z => by have e := mm_bifF (x := t) (y := pc + 3) (show mm_cc .ne x 0 = false by unfold mm_cc; simpa using z); rw [e] at k; exact k)
    | lt => exact lv_if_lt hx hb hd ht (fun z => by have e := mm_bifT (x := t) (y := pc + 3) (show mm_cc .lt x 0 = true from decide_eq_true z); rw [e] at k; exact k) (fun z => by have e := mm_bifF (x := t) (y := pc + 3) (show mm_cc .lt x 0 = false from decide_eq_false z); rw [e] at k; exact k)
    | ge => exact lv_if_ge hx hb hd ht (fun z => by have e := mm_bifT (x := t) (y := pc + 3) (show mm_cc .ge x 0 = true from decide_eq_true z); rw [e] at k; exact k) (fun z => by have e := mm_bifF (x := t) (y := pc + 3) (show mm_cc .ge x 0 = false from decide_eq_false z); rw [e] at k; exact k)
    | gt => exact lv_if_gt hx hb hd ht (fun z => by have e := mm_bifT (x := t) (y := pc + 3) (show mm_cc .gt x 0 = true from decide_eq_true z); rw [e] at k; exact k) (fun z => by have e := mm_bifF (x := t) (y := pc + 3) (show mm_cc .gt x 0 = false from decide_eq_false z); rw [e] at k; exact k)
    | le => exact lv_if_le hx hb hd ht (fun z => by have e := mm_bifT (x := t) (y := pc + 3) (show mm_cc .le x 0 = true from decide_eq_true z); rw [e] at k; exact k) (fun z => by have e := mm_bifF (x := t) (y := pc + 3) (show mm_cc .le x 0 = false from decide_eq_false z); rw [e] at k; exact k)
  | if_icmp cd off =>
    have hlen : len = 3 := hlen.elim id (fun z => nomatch z)
    subst hlen
    obtain ⟨x, y, r, t, rfl, h1, rfl⟩ := mm_if2_inv h
    have ht := mm_tg_inv h1
    cases cd with
    | eq => exact lv_icmp_eq hx hb hd ht (fun z => by have e := mm_bifT (x := t) (y := pc + 3) (show mm_cc .eq x y = true from decide_eq_true z); rw [e] at k; exact k) (fun z => by have e := mm_bifF (x := t) (y := pc + 3) (show mm_cc .eq x y = false from decide_eq_false z); rw [e] at k; exact k)
    | ne => exact lv_icmp_ne hx hb hd ht (fun z => by have e := mm_bifT (x := t) (y := pc + 3) (show mm_cc .ne x y = true by unfold mm_cc; simp [z]); rw [e] at k; exact k) (fun z => by have e := mm_bifF (x := t) (y := pc + 3) (show mm_cc .ne x y = false by unfold mm_cc; simpa using z); rw [e] at k; exact k)
    | lt => exact lv_icmp_lt hx hb hd ht (fun z => by have e := mm_bifT (x := t) (y := pc + 3) (show mm_cc .lt x y = true from decide_eq_true z); rw [e] at k; exact k) (fun z => by have e := mm_bifF (x := t) (y := pc + 3) (show mm_cc .lt x y = false from decide_eq_false z); rw [e] at k; exact k)
    | ge => exact lv_icmp_ge hx hb hd ht (fun z => by have e := mm_bifT (x := t) (y := pc + 3) (show mm_cc .ge x y = true from decide_eq_true z); rw [e] at k; exact k) (fun z => by have e := mm_bifF (x := t) (y := pc + 3) (show mm_cc .ge x y = false from decide_eq_false z); rw [e] at k; exact k)
    | gt => exact lv_icmp_gt hx hb hd ht (fun z => by have e := mm_bifT (x := t) (y := pc + 3) (show mm_cc .gt x y = true from decide_eq_true z); rw [e] at k; exact k) (fun z => by have e := mm_bifF (x := t) (y := pc + 3) (show mm_cc .gt x y = false from decide_eq_false z); rw [e] at k; exact k)
    | le => exact lv_icmp_le hx hb hd ht (fun z => by have e := mm_bifT (x := t) (y := pc + 3) (show mm_cc .le x y = true from decide_eq_true z); rw [e] at k; exact k) (fun z => by have e := mm_bifF (x := t) (y := pc + 3) (show mm_cc .le x y = false from decide_eq_false z); rw [e] at k; exact k)
  | goto off =>
    have hlen : len = 3 := hlen.elim id (fun z => nomatch z)
    subst hlen
    obtain ⟨t, h1, rfl⟩ := Option.map_eq_some_iff.mp (show (mm_tg pc off).map (·, st) = some q from h)
    exact lv_goto hx hb hd (mm_tg_inv h1) k
  | ifnull off =>
    have hlen : len = 3 := hlen.elim id (fun z => nomatch z)
    subst hlen
    cases st with
    | nil => exact mm_no h
    | cons v r =>
      cases v with
      | null =>
        obtain ⟨t, h1, rfl⟩ := Option.map_eq_some_iff.mp (show (mm_tg pc off).map (·, r) = some q from h)
        exact lv_ifnullN hx hb hd (mm_tg_inv h1) k
      | ref x =>
        cases (show some (pc + 3, r) = some q from h)
        exact lv_ifnull hx hb hd k
      | _ => exact mm_no h
  | tableswitch d lo hi offs =>
    cases st with
    | nil => exact mm_no h
    | cons v r =>
      cases v with
      | int x =>
        have h : (if x.toInt < lo ∨ hi < x.toInt then (mm_tg pc d).map (·, r) else (offs[(x.toInt - lo).toNat]?).bind (fun o => (mm_tg pc o).map (·, r))) = some q := h
        by_cases hr : x.toInt < lo ∨ hi < x.toInt
        · rw [if_pos hr] at h
          obtain ⟨t, h1, rfl⟩ := Option.map_eq_some_iff.mp h
          exact lv_tableOut hx hb hd hr (mm_tg_inv h1) k
        · rw [if_neg hr] at h
          obtain ⟨o, h1, h2⟩ := Option.bind_eq_some_iff.mp h
          obtain ⟨t, h3, rfl⟩ := Option.map_eq_some_iff.mp h2
          exact lv_tableIn hx hb hd (fun z => hr (Or.inl z)) (fun z => hr (Or.inr z)) h1 (mm_tg_inv h3) k
      | _ => exact mm_no h
  | _ => exact mm_no h
end MM1
