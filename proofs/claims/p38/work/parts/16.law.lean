/-! what stands outside at the law's entry -/
def mm_F0 : List Cond := flatC (Jvm.Cond.and given_1 narrow_1)
def mm_tm (i : Nat) : Term := .string (mm_st.getD i ("", 0, "")).1 (mm_st.getD i ("", 0, "")).2.1
set_option maxRecDepth 100000 in
theorem mm_f_ex : ∀ i, i < 16 → Cond.exactly (mm_tm i) "java/lang/String" ∈ mm_F0 := by decide +kernel
set_option maxRecDepth 100000 in
theorem mm_f_co : ∀ i, i < 16 → Cond.eq (.field (mm_tm i) "java/lang/String" "coder" "B") (.int 0) ∈ mm_F0 := by decide +kernel
set_option maxRecDepth 100000 in
theorem mm_f_ar : ∀ i, i < 16 → Cond.arrayOf (.field (mm_tm i) "java/lang/String" "value" "[B") .byte ∈ mm_F0 := by decide +kernel
set_option maxRecDepth 100000 in
theorem mm_f_le : ∀ i, i < 16 → Cond.eq (.length (.field (mm_tm i) "java/lang/String" "value" "[B")) (.int (Int32.ofNat (mm_sb.getD i []).length)) ∈ mm_F0 := by decide +kernel
set_option maxRecDepth 100000 in
theorem mm_f_el : ∀ i, i < 16 → ∀ j, j < (mm_sb.getD i []).length → Cond.eq (.elem (.field (mm_tm i) "java/lang/String" "value" "[B") (.int (Int32.ofNat j))) (.int ((mm_sb.getD i []).getD j 0)) ∈ mm_F0 := by decide +kernel
set_option maxRecDepth 100000 in
theorem mm_f_st : ∀ i, i < 16 → Cond.stringRef (mm_st.getD i ("", 0, "")).1 (mm_st.getD i ("", 0, "")).2.1 (mm_st.getD i ("", 0, "")).2.2 ∈ lw_tbl := by decide +kernel
set_option maxRecDepth 100000 in
theorem mm_f_bd : Cond.arrayOf (.static "SlowerAbove" "BINDINGS" "[I") .int ∈ mm_F0 ∧ Cond.eq (.length (.static "SlowerAbove" "BINDINGS" "[I")) (.int (Int32.ofNat 17)) ∈ mm_F0 ∧ (∀ j, j < 17 → Cond.eq (.elem (.static "SlowerAbove" "BINDINGS" "[I") (.int (Int32.ofNat j))) (.int (mm_bd.getD j 0)) ∈ mm_F0) := by decide +kernel
set_option maxRecDepth 100000 in
theorem mm_f_cs : Cond.eq (.static "java/lang/String" "COMPACT_STRINGS" "Z") (.int 1) ∈ mm_F0 ∧ Cond.isRef (.static "jdk/internal/util/Preconditions" "SIOOBE_FORMATTER" "Ljava/util/function/BiFunction;") ∈ mm_F0 := by decide +kernel
set_option maxRecDepth 100000 in
theorem mm_f_ls : Cond.laysStatic "java/lang/String" "COMPACT_STRINGS" "Z" ∈ lw_tbl ∧ Cond.laysStatic "jdk/internal/util/Preconditions" "SIOOBE_FORMATTER" "Ljava/util/function/BiFunction;" ∈ lw_tbl ∧ Cond.laysStatic "SlowerAbove" "BINDINGS" "[I" ∈ lw_tbl ∧ Cond.fieldLinkNest RX5 113 "SlowerAbove" "BINDINGS" "[I" "SlowerAbove" ∈ lw_tbl ∧ Cond.arrayOver (.object RX4) ∈ lw_tbl ∧ Cond.arrayOver (.object RX6) ∈ lw_tbl := by decide +kernel
set_option maxRecDepth 100000 in
theorem mm_f_nj : ∀ q ∈ mm_nj, Cond.methodLinkNest (mm_R q.1) q.2.1 (mm_yn q.2.2).2.1 "SlowerAbove" ∈ lw_tbl := by decide +kernel
theorem mm_kn {s : State} {args : Array Value} (hts : ∀ w ∈ lw_tbl, w.before args s = true) : ∃ (dC : Nat → ClassId) (dI : Nat → Nat → Nat), ∀ ci, ci < 12 → u_Kn s (mm_R ci) (mm_T ci) (mm_nf ci) (dC ci) (dI ci) := by
  have h : ∀ ci : Nat, ∃ q : ClassId × (Nat → Nat), ci < 12 → u_Kn s (mm_R ci) (mm_T ci) (mm_nf ci) q.1 q.2 := by
    intro ci
    by_cases hc : ci < 12
    · have hgt : ∀ w ∈ mm_gt, w.before args s = true := fun w hw => hts w (List.mem_filter.mp hw).1
      obtain ⟨cC, iS, hk⟩ := u_known (C := mm_R ci) (T := mm_T ci) (N := mm_nf ci) (n := mm_nf ci) hgt (mm_lay hc) (hgt _ (mm_inst hc).1)
      exact ⟨(cC, iS), fun _ => hk⟩
    · exact ⟨(0, fun _ => 0), fun h => absurd h hc⟩
  obtain ⟨f, hf⟩ := Classical.axiomOfChoice h
  exact ⟨fun ci => (f ci).1, fun ci => (f ci).2, hf⟩
theorem mm_arr1 {s : State} {args : Array Value} {ty : FieldType} (h : (Cond.arrayClass ty).before args s = true) : ∃ cA : ClassId, ArrOfT s cA ty ∧ s.vm.findClass ("[" ++ ty.toString) = some cA := by
  obtain ⟨cA, kA, comp, h1, h2, h3⟩ := Cond.arrayClass_spec h
  exact ⟨cA, fun n z => ⟨fun k h => (by cases h), kA, h2, comp, h3⟩, h1⟩
theorem mm_arr2 {s : State} {args : Array Value} {C : String} (h : (Cond.arrayOver (.object C)).before args s = true) : ∃ cA : ClassId, ArrOfT s cA (.object C) ∧ va_RA s cA (.object C) := by
  obtain ⟨comp, cA, kA, h1, h2, h3, h4, h5⟩ := Cond.arrayOver_spec h
  exact ⟨cA, fun n z => ⟨fun k h => (by cases h), kA, h3, comp, h4⟩, kA, comp, h3, h4, h1, h5⟩
theorem mm_vwlen : vwCl.length = 12 := rfl
set_option maxHeartbeats 4000000 in
theorem mm_Env_of {s : State} {b L : Nat} {xs : Nat → Int32} (hts : ∀ w ∈ lw_tbl, w.before #[Value.ref b] s = true) (hX : va_X b L xs s s.heap) (hbl : b < s.heap.size) (hgv : (Jvm.Cond.and given_1 narrow_1).before #[Value.ref b] s = true) :
    ∃ (ex : Nat → Nat) (fz : Value) (D : va_G) (dA : Nat → ClassId), ex 0 = b ∧ fz.category = 1 ∧ mm_Env (L, xs) s.heap.size ex fz D dA s s.heap := by
  have hfl : ∀ w ∈ mm_F0, w.before #[Value.ref b] s = true := flat_of_before _ hgv
  have hgt : ∀ w ∈ mm_gt, w.before #[Value.ref b] s = true := fun w hw => hts w (List.mem_filter.mp hw).1
  have hA : ∀ a : Nat, a < s.heap.size → ¬ mm_A s.heap.size a := fun a h w => Nat.lt_irrefl _ (Nat.lt_of_lt_of_le h w)
  obtain ⟨dC, dI, hKn⟩ := mm_kn hts
  obtain ⟨a0, a01, a02⟩ := mm_arr1 (hgt _ mm_arrc.1)
  obtain ⟨a1, a11, a12⟩ := mm_arr1 (hgt _ mm_arrc.2.1)
  obtain ⟨a2, a21, a22⟩ := mm_arr1 (hgt _ mm_arrc.2.2.1)
  obtain ⟨a3, a31, a32⟩ := mm_arr1 (hgt _ mm_arrc.2.2.2)
  obtain ⟨a4, a41, a42⟩ := mm_arr2 (hts _ mm_f_ls.2.2.2.2.1)
  obtain ⟨a6, a61, a62⟩ := mm_arr2 (hts _ mm_f_ls.2.2.2.2.2)
  obtain ⟨tB, ht1, ht2⟩ := va_Tof (f := fun j => .int (mm_bd.getD j 0)) (A := mm_A s.heap.size) (N := 17) (by decide) (hfl _ mm_f_bd.1) (va_eqt (hfl _ mm_f_bd.2.1)) (fun j hj => va_eqt (hfl _ (mm_f_bd.2.2 j hj))) hA
  have hini : ∀ c, c < 19 → (Cond.initialized (mm_R c)).before #[Value.ref b] s = true := fun c hc => hts _ (mm_ini hc)
  have hZ1 := va_Zref (hts _ mm_f_ls.2.2.1) (hini 10 (by decide)) ht1 hA
  have hZ2 := va_Zof (hts _ mm_f_ls.1) (hini 14 (by decide)) (va_eqi (hfl _ mm_f_cs.1)) hA
  have hZ3 : ∃ fz : Value, fz.category = 1 ∧ va_Z "jdk/internal/util/Preconditions" "SIOOBE_FORMATTER" "Ljava/util/function/BiFunction;" fz (mm_A s.heap.size) s s.heap := by
    rcases va_Zqof (hts _ mm_f_ls.2.1) (hini 17 (by decide)) (hfl _ mm_f_cs.2) hA with h | ⟨t, h⟩
    · exact ⟨.null, rfl, h⟩
    · exact ⟨.ref t, rfl, h⟩
  obtain ⟨fz, hfz, hZ3⟩ := hZ3
  have hstr : ∀ i : Nat, ∃ q : Nat × Nat, i < 16 → (vk_R (mm_st.getD i ("", 0, "")).1 (mm_st.getD i ("", 0, "")).2.1 (mm_st.getD i ("", 0, "")).2.2 q.1 s ∧ va_O "java/lang/String" q.1 (mm_A s.heap.size) s s.heap ∧ va_OF "java/lang/String" "coder" "B" (.int 0) q.1 (mm_A s.heap.size) s s.heap ∧ va_OF "java/lang/String" "value" "[B" (.ref q.2) q.1 (mm_A s.heap.size) s s.heap ∧ va_T .byte q.2 (mm_sb.getD i []).length (fun j => .int ((mm_sb.getD i []).getD j 0)) (mm_A s.heap.size) s s.heap) := by
    intro i
    by_cases hi : i < 16
    · obtain ⟨a, c, cA, kA, q1, q2, q3, q4, q5, q6, -⟩ := Cond.exactly_spec (args := #[Value.ref b]) (first := s) (o := none) (s := s) (idx := []) (t := mm_tm i) (cls := "java/lang/String") (hfl _ (mm_f_ex i hi))
      have hlt : (mm_sb.getD i []).length < 2 ^ 31 := (show ∀ i, i < 16 → (mm_sb.getD i []).length < 2 ^ 31 by decide) i hi
      obtain ⟨t, ht, hT⟩ := va_Tof (f := fun j => .int ((mm_sb.getD i []).getD j 0)) (A := mm_A s.heap.size) hlt (hfl _ (mm_f_ar i hi)) (va_eqt (hfl _ (mm_f_le i hi))) (fun j hj => va_eqt (hfl _ (mm_f_el i hi j hj))) hA
      exact ⟨(a, t), fun _ => ⟨vk_R.of (hts _ (mm_f_st i hi)) q1, ⟨cA, q3, q5, by rw [q6]; exact q2, hA a (Array.getElem?_eq_some_iff.mp q3).1⟩, vk_OFof q1 (va_eqt (hfl _ (mm_f_co i hi))) hA, vk_OFof q1 ht hA, hT⟩⟩
    · exact ⟨(0, 0), fun h => absurd h hi⟩
  obtain ⟨sf, hsf⟩ := Classical.axiomOfChoice hstr
  refine ⟨fun k => if k = 0 then b else if k = 1 then tB else if k < 50 then (sf (k - 10)).1 else (sf (k - 50)).2, fz, (dC, dI), fun k => if k = 100 then a0 else if k = 101 then a1 else if k = 102 then a2 else if k = 103 then a3 else if k = 114 then a4 else a6, rfl, hfz, ?_⟩
  refine ⟨⟨fun c q hq => ?_, fun k q hk => ?_⟩, ⟨hX, hbl⟩, ⟨hZ1, ht2⟩, hZ2, hZ3, fun i hi => ?_, va_Nw.of rfl (hts _ mm_f_ls.2.2.2.1), fun q hq => va_Nw.of rfl (hts _ (mm_f_nj q hq)), va_AO.of (hts _ mm_f_ls.2.2.2.2.1), va_AO.of (hts _ mm_f_ls.2.2.2.2.2)⟩
  · have hc : c < 12 := by
      have := (List.getElem?_eq_some_iff.mp hq).1
      rw [mm_vwlen] at this
      exact this
    rw [mm_vw hc] at hq
    cases hq
    exact hKn c hc
  · have hk6 : k < 6 := (List.getElem?_eq_some_iff.mp hk).1
    match k, hk6 with
    | 0, _ => cases hk; exact ⟨a01, a02⟩
    | 1, _ => cases hk; exact ⟨a11, a12⟩
    | 2, _ => cases hk; exact ⟨a21, a22⟩
    | 3, _ => cases hk; exact ⟨a31, a32⟩
    | 4, _ => cases hk; exact ⟨a41, a42⟩
    | 5, _ => cases hk; exact ⟨a61, a62⟩
  · have h := hsf i hi
    have e1 : (if 10 + i = 0 then b else if 10 + i = 1 then tB else if 10 + i < 50 then (sf (10 + i - 10)).1 else (sf (10 + i - 50)).2) = (sf i).1 := by
      rw [if_neg (by omega), if_neg (by omega), if_pos (by omega), Nat.add_sub_cancel_left]
    have e2 : (if 50 + i = 0 then b else if 50 + i = 1 then tB else if 50 + i < 50 then (sf (50 + i - 10)).1 else (sf (50 + i - 50)).2) = (sf i).2 := by
      rw [if_neg (by omega), if_neg (by omega), if_neg (by omega), Nat.add_sub_cancel_left]
    unfold mm_Ss
    dsimp only
    rw [e1, e2]
    exact h
