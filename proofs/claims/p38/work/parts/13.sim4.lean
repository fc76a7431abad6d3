theorem mm_gf_M {Y : mm_Y} {cp : Nat} {st : List Value} {M : mm_M} {q : Nat × List Value × mm_M} (h : mm_gf Y cp st M = some q) : q.2.2 = M := by
  unfold mm_gf at h
  split at h
  · split at h
    · obtain ⟨_, _, h2⟩ := Option.bind_eq_some_iff.mp h
      obtain ⟨_, h5⟩ := mm_ifs h2
      cases h5
      rfl
    · obtain ⟨_, _, h2⟩ := Option.bind_eq_some_iff.mp h
      obtain ⟨_, h5⟩ := mm_ifs h2
      cases h5
      rfl
  · exact mm_no h
theorem mm_pf_M {Y : mm_Y} {cp : Nat} {st : List Value} {M : mm_M} {q : Nat × List Value × mm_M} (h : mm_pf Y cp st M = some q) : q.2.2.1 = M.1 := by
  unfold mm_pf at h
  split at h
  · obtain ⟨_, _, h2⟩ := Option.bind_eq_some_iff.mp h
    obtain ⟨_, h5⟩ := mm_ifs h2
    obtain ⟨M', h7, rfl⟩ := Option.map_eq_some_iff.mp h5
    exact (mm_wr_inv h7).1
  · exact mm_no h
theorem mm_ial_M {X : mm_C} {st : List Value} {M : mm_M} {q : Nat × List Value × mm_M} (h : mm_ial X st M = some q) : q.2.2 = M := by
  unfold mm_ial at h
  (repeat' split at h) <;> first | exact mm_no h | (cases h; rfl)
theorem mm_lal_M {st : List Value} {M : mm_M} {q : Nat × List Value × mm_M} (h : mm_lal st M = some q) : q.2.2 = M := by
  unfold mm_lal at h
  (repeat' split at h) <;> first | exact mm_no h | (cases h; rfl)
theorem mm_bal_M {st : List Value} {M : mm_M} {q : Nat × List Value × mm_M} (h : mm_bal st M = some q) : q.2.2 = M := by
  unfold mm_bal at h
  (repeat' split at h) <;> first | exact mm_no h | (cases h; rfl)
theorem mm_aal_M {st : List Value} {M : mm_M} {q : Nat × List Value × mm_M} (h : mm_aal st M = some q) : q.2.2 = M := by
  unfold mm_aal at h
  (repeat' split at h) <;> first | exact mm_no h | (cases h; rfl)
theorem mm_ias_M {st : List Value} {M : mm_M} {q : Nat × List Value × mm_M} (h : mm_ias st M = some q) : q.2.2.1 = M.1 := by
  unfold mm_ias at h
  (repeat' split at h) <;> first | exact mm_no h | (cases h; rfl)
theorem mm_las_M {st : List Value} {M : mm_M} {q : Nat × List Value × mm_M} (h : mm_las st M = some q) : q.2.2.1 = M.1 := by
  unfold mm_las at h
  (repeat' split at h) <;> first | exact mm_no h | (cases h; rfl)
theorem mm_bas_M {st : List Value} {M : mm_M} {q : Nat × List Value × mm_M} (h : mm_bas st M = some q) : q.2.2.1 = M.1 := by
  unfold mm_bas at h
  (repeat' split at h) <;> first | exact mm_no h | (cases h; rfl)
theorem mm_aas_M {st : List Value} {M : mm_M} {q : Nat × List Value × mm_M} (h : mm_aas st M = some q) : q.2.2.1 = M.1 := by
  unfold mm_aas at h
  (repeat' split at h) <;> first | exact mm_no h | (cases h; rfl)
theorem mm_alen_M {X : mm_C} {st : List Value} {M : mm_M} {q : Nat × List Value × mm_M} (h : mm_alen X st M = some q) : q.2.2 = M := by
  unfold mm_alen at h
  (repeat' split at h) <;> first | exact mm_no h | (cases h; rfl)
theorem mm_gs_M {Y : mm_Y} {cp : Nat} {st : List Value} {M : mm_M} {q : Nat × List Value × mm_M} (h : mm_gs Y cp st M = some q) : q.2.2 = M := by
  unfold mm_gs at h
  (repeat' split at h) <;> first | exact mm_no h | (cases h; rfl)
theorem mm_ldc_M {Y : mm_Y} {cp : Nat} {st : List Value} {M : mm_M} {q : Nat × List Value × mm_M} (h : mm_ldc Y cp st M = some q) : q.2.2 = M := by
  unfold mm_ldc at h
  split at h
  · cases h; rfl
  · obtain ⟨i, h1, rfl⟩ := Option.map_eq_some_iff.mp h
    rfl
theorem mm_ldl_M {Y : mm_Y} {cp : Nat} {st : List Value} {M : mm_M} {q : Nat × List Value × mm_M} (h : mm_ldl Y cp st M = some q) : q.2.2 = M := by
  obtain ⟨i, h1, rfl⟩ := Option.map_eq_some_iff.mp (show (mm_kl Y.1 cp).map (fun v => (3, .long v :: st, M)) = some q from h)
  rfl
theorem mm_obi_M {Y : mm_Y} {cp : Nat} {st : List Value} {M : mm_M} {q : Nat × List Value × mm_M} (h : mm_obi Y cp st M = some q) : q.2.2 = M := by
  obtain ⟨a, r, rfl, h1, h2, rfl⟩ := mm_obi_inv h
  rfl
theorem mm_cpy_M {Y : mm_Y} {cp : Nat} {st : List Value} {M : mm_M} {q : Nat × List Value × mm_M} (h : mm_cpy Y cp st M = some q) : q.2.2.1 = M.1 := by
  unfold mm_cpy at h
  (repeat' split at h) <;> first | exact mm_no h | (cases h; rfl)
theorem mm_new_M {Y : mm_Y} {cp : Nat} {st : List Value} {M : mm_M} {q : Nat × List Value × mm_M} (h : mm_new Y cp st M = some q) : M.1.length ≤ q.2.2.1.length ∧ mm_sl M ≤ mm_sl q.2.2 := by
  obtain ⟨ci, h1, h2⟩ := Option.bind_eq_some_iff.mp (show (mm_cl Y.1 cp).bind (fun c => if M.1.length < mm_ext then some (3, .ref M.1.length :: st, mm_nw M (c, mm_nf c)) else none) = some q from h)
  obtain ⟨h3, h4⟩ := mm_ifs h2
  cases h4
  exact ⟨by show M.1.length ≤ (mm_nw M (ci, mm_nf ci)).1.length; rw [mm_nwlen]; omega, by show mm_sl M ≤ mm_sl (mm_nw M (ci, mm_nf ci)); rw [mm_nwsl]; omega⟩
theorem mm_nwa_M {t : ArrayType} {st : List Value} {M : mm_M} {q : Nat × List Value × mm_M} (h : mm_nwa t st M = some q) : M.1.length ≤ q.2.2.1.length ∧ mm_sl M ≤ mm_sl q.2.2 := by
  unfold mm_nwa at h
  split at h
  · rename_i n r
    obtain ⟨h3, h4⟩ := mm_ifs h
    cases h4
    exact ⟨by show M.1.length ≤ (mm_nw M _).1.length; rw [mm_nwlen]; omega, by show mm_sl M ≤ mm_sl (mm_nw M _); rw [mm_nwsl]; omega⟩
  · exact mm_no h
theorem mm_nwq_M {Y : mm_Y} {cp : Nat} {st : List Value} {M : mm_M} {q : Nat × List Value × mm_M} (h : mm_nwq Y cp st M = some q) : M.1.length ≤ q.2.2.1.length ∧ mm_sl M ≤ mm_sl q.2.2 := by
  unfold mm_nwq at h
  split at h
  · obtain ⟨ci, h1, h2⟩ := Option.bind_eq_some_iff.mp h
    obtain ⟨h3, h4⟩ := mm_ifs h2
    cases h4
    exact ⟨by show M.1.length ≤ (mm_nw M _).1.length; rw [mm_nwlen]; omega, by show mm_sl M ≤ mm_sl (mm_nw M _); rw [mm_nwsl]; omega⟩
  · exact mm_no h
theorem mm_slk {M M' : mm_M} (h : M'.1 = M.1) : mm_sl M' = mm_sl M := by unfold mm_sl; rw [h]
theorem mm_hp_M {X : mm_C} {Y : mm_Y} {i : Instr} {st : List Value} {M : mm_M} {q : Nat × List Value × mm_M} (h : mm_hp X Y i st M = some q) : M.1.length ≤ q.2.2.1.length ∧ mm_sl M ≤ mm_sl q.2.2 := by
  have eqM : q.2.2 = M → M.1.length ≤ q.2.2.1.length ∧ mm_sl M ≤ mm_sl q.2.2 := fun e => by rw [e]; exact ⟨Nat.le_refl _, Nat.le_refl _⟩
  have eqK : q.2.2.1 = M.1 → M.1.length ≤ q.2.2.1.length ∧ mm_sl M ≤ mm_sl q.2.2 := fun e => by rw [mm_slk e, e]; exact ⟨Nat.le_refl _, Nat.le_refl _⟩
  cases i with
  | getfield cp => exact eqM (mm_gf_M h)
  | putfield cp => exact eqK (mm_pf_M h)
  | iaload => exact eqM (mm_ial_M h)
  | laload => exact eqM (mm_lal_M h)
  | baload => exact eqM (mm_bal_M h)
  | aaload => exact eqM (mm_aal_M h)
  | iastore => exact eqK (mm_ias_M h)
  | lastore => exact eqK (mm_las_M h)
  | bastore => exact eqK (mm_bas_M h)
  | aastore => exact eqK (mm_aas_M h)
  | arraylength => exact eqM (mm_alen_M h)
  | new cp => exact mm_new_M h
  | newarray t => exact mm_nwa_M h
  | anewarray cp => exact mm_nwq_M h
  | getstatic cp => exact eqM (mm_gs_M h)
  | ldc cp => exact eqM (mm_ldc_M h)
  | ldc2_w cp => exact eqM (mm_ldl_M h)
  | invokespecial cp => exact eqM (mm_obi_M h)
  | invokestatic cp => exact eqK (mm_cpy_M h)
  | _ => exact mm_no h
theorem mm_next_M {X : mm_C} {Y : mm_Y} {i : Instr} {len pc : Nat} {lv : mm_L} {st : List Value} {M : mm_M} {o : mm_O} (h : mm_next X Y i len pc lv st M = some o) : M.1.length ≤ o.2.2.2.1.length ∧ mm_sl M ≤ mm_sl o.2.2.2 := by
  unfold mm_next at h
  split at h
  · obtain ⟨-, h⟩ := mm_ifs h
    cases h
    exact ⟨Nat.le_refl _, Nat.le_refl _⟩
  · split at h
    · obtain ⟨-, h⟩ := mm_ifs h
      cases h
      exact ⟨Nat.le_refl _, Nat.le_refl _⟩
    · split at h
      · obtain ⟨-, h⟩ := mm_ifs h
        cases h
        exact ⟨Nat.le_refl _, Nat.le_refl _⟩
      · split at h
        · obtain ⟨-, h⟩ := mm_ifs h
          cases h
          exact ⟨Nat.le_refl _, Nat.le_refl _⟩
        · split at h
          · rename_i q hq
            obtain ⟨-, h⟩ := mm_ifs h
            cases h
            exact mm_hp_M hq
          · exact mm_no h
section MM4
variable {p : Program} {l : Launch} {e : Env} {R : Room} {s : State} {m : MethodId} {args : Array Value} {below : List Frame} {meth : Method} {c : Code} {H : Heap} {locs : List Loc} {Q : State → Prop}
variable {cc : ByteArray} {pc : Nat} {ls : Array Slot} {z : Nat} {ex : Nat → Nat} {fz : Value} {D : va_G} {dA : Nat → ClassId} {X : mm_C} {M : mm_M} {st : List Value} {Y : mm_Y} {cp : Nat}
/-- what stands fast in a method's walk -/
def mm_Fix (X : mm_C) (z : Nat) (ex : Nat → Nat) (fz : Value) (D : va_G) (dA : Nat → ClassId) (p : Program) (R : Room) (s : State) (m : MethodId) (args : Array Value) (meth : Method) (c : Code) (Y : mm_Y) (c0 s0 : Nat) : Prop :=
  p.tables.exec = Jvm.exec ∧ c.code = Y.2.2.1 ∧ c.maxLocals = Y.2.2.2.1 ∧ fz.category = 1 ∧ (∀ w ∈ mm_gt, w.before args s = true) ∧ s.vm.findClass (mm_R Y.1) = some m.cls ∧ (Y.2.1.name = "<init>" → meth.name = "<init>") ∧ mm_Env X z ex fz D dA s s.heap ∧ s.heap.size = z + c0 ∧ 1 ≤ R.frames ∧ 30 ≤ R.locals
set_option maxHeartbeats 4000000 in
theorem mm_s_hp {c0 s0 : Nat} (F : mm_Fix X z ex fz D dA p R s m args meth c Y c0 s0) (I : mm_In z ex D dA s M H locs) (hc0 : c0 ≤ M.1.length) (hs0 : s0 ≤ mm_sl M) (hls : ls.size = c.maxLocals) {i : Instr} {q : Nat × List Value × mm_M} (hd : decode Y.2.2.1 pc = .ok (i, q.1)) (h : mm_hp X Y i st M = some q) (hr : q.2.2.1.length - c0 ≤ R.cells ∧ mm_sl q.2.2 - s0 ≤ R.slots)
    (k : ∀ (H1 : Heap) (locs1 : List Loc), mm_In z ex D dA s q.2.2 H1 locs1 → W p l e R s m args below meth c H1 locs1 (q.2.2.1.length - c0) (mm_sl q.2.2 - s0) Q (F0 m (pc + q.1) ls (mm_ms (mm_ad z ex) fz q.2.1))) : W p l e R s m args below meth c H locs (M.1.length - c0) (mm_sl M - s0) Q (F0 m pc ls (mm_ms (mm_ad z ex) fz st)) := by
  obtain ⟨hx, hb, hml, hfz, hts, hown, hmn, E, hz0, hfr, hlo⟩ := F
  have kM : q.2.2 = M → W p l e R s m args below meth c H locs (M.1.length - c0) (mm_sl M - s0) Q (F0 m (pc + q.1) ls (mm_ms (mm_ad z ex) fz q.2.1)) := fun e => by
    have k2 := k H locs (by rw [e]; exact I)
    rw [e] at k2
    exact k2
  have kK : q.2.2.1 = M.1 → ∀ (H1 : Heap) (locs1 : List Loc), mm_In z ex D dA s q.2.2 H1 locs1 → W p l e R s m args below meth c H1 locs1 (M.1.length - c0) (mm_sl M - s0) Q (F0 m (pc + q.1) ls (mm_ms (mm_ad z ex) fz q.2.1)) := fun e H1 locs1 hI => by
    have k2 := k H1 locs1 hI
    rw [mm_slk e, e] at k2
    exact k2
  have len : ∀ {n : Nat}, q.1 = n → decode Y.2.2.1 pc = .ok (i, n) := fun e => by rw [← e]; exact hd
  cases i with
  | getfield cp =>
    have hq : q.1 = 3 := by
      have h : mm_gf Y cp st M = some q := h
      unfold mm_gf at h
      split at h
      · split at h
        · obtain ⟨_, _, h2⟩ := Option.bind_eq_some_iff.mp h
          obtain ⟨_, h5⟩ := mm_ifs h2
          cases h5
          rfl
        · obtain ⟨_, _, h2⟩ := Option.bind_eq_some_iff.mp h
          obtain ⟨_, h5⟩ := mm_ifs h2
          cases h5
          rfl
      · exact mm_no h
    have k2 := kM (mm_gf_M h)
    rw [hq] at k2
    exact mm_s_gf hx hb hts hown E I (len hq) h k2
  | putfield cp =>
    have hq : q.1 = 3 := by
      have h : mm_pf Y cp st M = some q := h
      unfold mm_pf at h
      split at h
      · obtain ⟨_, _, h2⟩ := Option.bind_eq_some_iff.mp h
        obtain ⟨_, h5⟩ := mm_ifs h2
        obtain ⟨M', h7, rfl⟩ := Option.map_eq_some_iff.mp h5
        rfl
      · exact mm_no h
    have k2 := kK (mm_pf_M h)
    rw [hq] at k2
    exact mm_s_pf hx hb hts hown hmn E I (len hq) h k2
  | iaload =>
    have hq : q.1 = 1 := by
      have h : mm_ial X st M = some q := h
      unfold mm_ial at h
      (repeat' split at h) <;> first | exact mm_no h | (cases h; rfl)
    have k2 := kM (mm_ial_M h)
    rw [hq] at k2
    exact mm_s_ial hx hb E I (len hq) h k2
  | laload =>
    have hq : q.1 = 1 := by
      have h : mm_lal st M = some q := h
      unfold mm_lal at h
      (repeat' split at h) <;> first | exact mm_no h | (cases h; rfl)
    have k2 := kM (mm_lal_M h)
    rw [hq] at k2
    exact mm_s_lal hx hb E I (len hq) h k2
  | baload =>
    have hq : q.1 = 1 := by
      have h : mm_bal st M = some q := h
      unfold mm_bal at h
      (repeat' split at h) <;> first | exact mm_no h | (cases h; rfl)
    have k2 := kM (mm_bal_M h)
    rw [hq] at k2
    exact mm_s_bal hx hb E I (len hq) h k2
  | aaload =>
    have hq : q.1 = 1 := by
      have h : mm_aal st M = some q := h
      unfold mm_aal at h
      (repeat' split at h) <;> first | exact mm_no h | (cases h; rfl)
    have k2 := kM (mm_aal_M h)
    rw [hq] at k2
    exact mm_s_aal hx hb E I (len hq) h k2
  | iastore =>
    have hq : q.1 = 1 := by
      have h : mm_ias st M = some q := h
      unfold mm_ias at h
      (repeat' split at h) <;> first | exact mm_no h | (cases h; rfl)
    have k2 := kK (mm_ias_M h)
    rw [hq] at k2
    exact mm_s_ias hx hb E I (len hq) h k2
  | lastore =>
    have hq : q.1 = 1 := by
      have h : mm_las st M = some q := h
      unfold mm_las at h
      (repeat' split at h) <;> first | exact mm_no h | (cases h; rfl)
    have k2 := kK (mm_las_M h)
    rw [hq] at k2
    exact mm_s_las hx hb E I (len hq) h k2
  | bastore =>
    have hq : q.1 = 1 := by
      have h : mm_bas st M = some q := h
      unfold mm_bas at h
      (repeat' split at h) <;> first | exact mm_no h | (cases h; rfl)
    have k2 := kK (mm_bas_M h)
    rw [hq] at k2
    exact mm_s_bas hx hb E I (len hq) h k2
  | aastore =>
    have hq : q.1 = 1 := by
      have h : mm_aas st M = some q := h
      unfold mm_aas at h
      (repeat' split at h) <;> first | exact mm_no h | (cases h; rfl)
    have k2 := kK (mm_aas_M h)
    rw [hq] at k2
    exact mm_s_aas hx hb E I (len hq) h k2
  | arraylength =>
    have hq : q.1 = 1 := by
      have h : mm_alen X st M = some q := h
      unfold mm_alen at h
      (repeat' split at h) <;> first | exact mm_no h | (cases h; rfl)
    have k2 := kM (mm_alen_M h)
    rw [hq] at k2
    exact mm_s_alen hx hb E I (len hq) h k2
  | new cp =>
    have hq : q.1 = 3 := by
      obtain ⟨ci, h1, h2⟩ := Option.bind_eq_some_iff.mp (show (mm_cl Y.1 cp).bind (fun c => if M.1.length < mm_ext then some (3, .ref M.1.length :: st, mm_nw M (c, mm_nf c)) else none) = some q from h)
      obtain ⟨h3, h4⟩ := mm_ifs h2
      cases h4
      rfl
    rw [hq] at k
    exact mm_s_new hx hb hts hown E I hz0 hc0 hs0 (len hq) h hr k
  | newarray t =>
    have hq : q.1 = 2 := by
      have h : mm_nwa t st M = some q := h
      unfold mm_nwa at h
      (repeat' split at h) <;> first | exact mm_no h | (cases h; rfl)
    rw [hq] at k
    exact mm_s_nwa hx hb hts E I hz0 hc0 hs0 (len hq) h hr k
  | anewarray cp =>
    have hq : q.1 = 3 := by
      have h : mm_nwq Y cp st M = some q := h
      unfold mm_nwq at h
      split at h
      · obtain ⟨_, _, h2⟩ := Option.bind_eq_some_iff.mp h
        obtain ⟨_, h5⟩ := mm_ifs h2
        cases h5
        rfl
      · exact mm_no h
    rw [hq] at k
    exact mm_s_nwq hx hb hts hown E I hz0 hc0 hs0 (len hq) h hr k
  | getstatic cp =>
    have hq : q.1 = 3 := by
      have h : mm_gs Y cp st M = some q := h
      unfold mm_gs at h
      (repeat' split at h) <;> first | exact mm_no h | (cases h; rfl)
    have k2 := kM (mm_gs_M h)
    rw [hq] at k2
    exact mm_s_gs hx hb hts hown E I (len hq) h k2
  | ldc cp =>
    have hq : q.1 = 2 := by
      have h : mm_ldc Y cp st M = some q := h
      unfold mm_ldc at h
      split at h
      · cases h; rfl
      · obtain ⟨i, h1, rfl⟩ := Option.map_eq_some_iff.mp h
        rfl
    have k2 := kM (mm_ldc_M h)
    rw [hq] at k2
    exact mm_s_ldc hx hb hts hown E (len hq) h k2
  | ldc2_w cp =>
    have hq : q.1 = 3 := by
      obtain ⟨i, h1, rfl⟩ := Option.map_eq_some_iff.mp (show (mm_kl Y.1 cp).map (fun v => (3, .long v :: st, M)) = some q from h)
      rfl
    have k2 := kM (mm_ldl_M h)
    rw [hq] at k2
    exact mm_s_ldl hx hb hts hown (len hq) h k2
  | invokespecial cp =>
    have hq : q.1 = 3 := by
      obtain ⟨a, r, rfl, h1, h2, rfl⟩ := mm_obi_inv h
      rfl
    have k2 := kM (mm_obi_M h)
    rw [hq] at k2
    exact mm_s_obi hx hb hfz hts hown hls hfr hlo (len hq) h k2
  | invokestatic cp =>
    have hq : q.1 = 3 := by
      have h : mm_cpy Y cp st M = some q := h
      unfold mm_cpy at h
      (repeat' split at h) <;> first | exact mm_no h | (cases h; rfl)
    have k2 := kK (mm_cpy_M h)
    rw [hq] at k2
    exact mm_s_cpy hx hb hfz hts hown hls hfr hlo E I (len hq) h k2
  | _ => exact mm_no h
set_option maxHeartbeats 4000000 in
theorem mm_s_next {c0 s0 : Nat} (F : mm_Fix X z ex fz D dA p R s m args meth c Y c0 s0) (I : mm_In z ex D dA s M H locs) (hc0 : c0 ≤ M.1.length) (hs0 : s0 ≤ mm_sl M) {lv : mm_L} (hl : lv_has ls Y.2.2.2.1 (mm_ml' (mm_ad z ex) fz lv)) {i : Instr} {len : Nat} {o : mm_O} (hd : decode Y.2.2.1 pc = .ok (i, len)) (h : mm_next X Y i len pc lv st M = some o) (hr : o.2.2.2.1.length - c0 ≤ R.cells ∧ mm_sl o.2.2.2 - s0 ≤ R.slots)
    (k : ∀ (H1 : Heap) (locs1 : List Loc) (ls1 : Array Slot), mm_In z ex D dA s o.2.2.2 H1 locs1 → lv_has ls1 Y.2.2.2.1 (mm_ml' (mm_ad z ex) fz o.2.1) → W p l e R s m args below meth c H1 locs1 (o.2.2.2.1.length - c0) (mm_sl o.2.2.2 - s0) Q (F0 m o.1 ls1 (mm_ms (mm_ad z ex) fz o.2.2.1))) : W p l e R s m args below meth c H locs (M.1.length - c0) (mm_sl M - s0) Q (F0 m pc ls (mm_ms (mm_ad z ex) fz st)) := by
  obtain ⟨hx, hb, hml, hfz, hts, hown, hmn, E, hz0, hfr, hlo⟩ := id F
  have hls : ls.size = c.maxLocals := hl.1.trans hml.symm
  unfold mm_next at h
  split at h
  · rename_i st' h1
    obtain ⟨hlen, h2⟩ := mm_ifs h
    subst hlen
    cases h2
    exact mm_s_ar hx hb hfz hd h1 (k H locs ls I hl)
  · split at h
    · rename_i q h1
      obtain ⟨hlen, h2⟩ := mm_ifs h
      subst hlen
      cases h2
      exact mm_s_ld hx hb hl hd h1 (k H locs ls I hl)
    · split at h
      · rename_i q h1
        obtain ⟨hlen, h2⟩ := mm_ifs h
        subst hlen
        cases h2
        exact mm_s_sv hx hb hfz hl hd h1 (fun ls' hl' => k H locs ls' I hl')
      · split at h
        · rename_i q h1
          obtain ⟨hlen, h⟩ := mm_ifs h
          cases h
          exact mm_s_br hx hb hd hlen h1 (k H locs ls I hl)
        · split at h
          · rename_i q h1
            obtain ⟨hlen, h2⟩ := mm_ifs h
            subst hlen
            cases h2
            exact mm_s_hp F I hc0 hs0 hls hd h1 hr (fun H1 locs1 hI => k H1 locs1 ls hI hl)
          · exact mm_no h
end MM4
