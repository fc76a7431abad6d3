section MM3
variable {p : Program} {l : Launch} {e : Env} {R : Room} {s : State} {m : MethodId} {args : Array Value} {below : List Frame} {meth : Method} {c : Code} {H : Heap} {locs : List Loc} {Q : State → Prop} {cells slots : Nat}
variable {cc : ByteArray} {pc : Nat} {ls : Array Slot} {z : Nat} {ex : Nat → Nat} {fz : Value} {D : va_G} {dA : Nat → ClassId} {X : mm_C} {M : mm_M} {st : List Value} {q : Nat × List Value × mm_M} {Y : mm_Y} {cp : Nat}
theorem mm_low (I : mm_In z ex D dA s M H locs) {c0 : Nat} (h0 : s.heap.size = z + c0) (hc : c0 ≤ M.1.length) : z + M.1.length ≤ H.size := by
  rcases Nat.lt_or_ge c0 M.1.length with h | h
  · have h1 := (I.1 (M.1.length - 1) _ (mm_wg (by omega))).lt
    have h2 : z + (M.1.length - 1) < H.size := h1
    omega
  · have := I.2.1
    omega
/-- the heap's size, out of what the machine itself books -/
theorem mm_size (I : mm_In z ex D dA s M H locs) {c0 : Nat} (h0 : s.heap.size = z + c0) (hc : c0 ≤ M.1.length) {T : State} (hT : T.heap = H) (S : Stand p l e R s m args below meth c T locs (M.1.length - c0) slots) : H.size = z + M.1.length := by
  have h1 := mm_low I h0 hc
  have h2 : T.heap.size ≤ s.heap.size + (M.1.length - c0) := S.same.2.2.1
  rw [hT] at h2
  omega
theorem mm_sized (I : mm_In z ex D dA s M H locs) {c0 : Nat} (h0 : s.heap.size = z + c0) (hc : c0 ≤ M.1.length) {g : JFrame} (k : H.size = z + M.1.length → W p l e R s m args below meth c H locs (M.1.length - c0) slots Q g) : W p l e R s m args below meth c H locs (M.1.length - c0) slots Q g := fun T hT S => k (mm_size I h0 hc hT S) T hT S
/-- a new cell -/
theorem mm_In_push {H1 : Heap} {kd : Nat × Nat} (I : mm_In z ex D dA s M H locs) (hz : H.size = z + M.1.length) (hA : s.heap.size ≤ H.size) (z1 : H1.size = H.size + 1) (o1 : ∀ q : Nat, q < H.size → H1[q]? = H[q]?)
    (he : va_at D vwCl (z + M.1.length, mm_cell (mm_ad z ex) dA (mm_nw M kd) M.1.length kd) H1) : mm_In z ex D dA s (mm_nw M kd) H1 locs := by
  refine ⟨?_, Nat.le_trans hA (by omega), fun q h1 h2 => (o1 q (Nat.lt_of_lt_of_le h1 hA)).trans (I.2.2.1 q h1 h2), I.2.2.2⟩
  rw [mm_wpush]
  refine va_P.app (I.1.kept (fun k x hx => o1 x.1 ((I.1 k x hx).lt))) (fun k x hx => ?_)
  have hz2 : k < 1 := (List.getElem?_eq_some_iff.mp hx).1
  rw [show k = 0 by omega] at hx
  cases hx
  exact he
theorem mm_defv (ad : Nat → Nat) (dA : Nat → ClassId) (M : mm_M) (ci k : Nat) (hk : k < mm_nf ci) (hci : ci < 12) : defaultValue (mm_ft ci k) = vp_V (mm_obj ad (mm_nw M (ci, mm_nf ci)) M.1.length ci) k := by
  unfold vp_V
  rw [List.getD_eq_getElem?_getD, mm_objg hk]
  have h1 : (mm_nw M (ci, mm_nf ci)).2.1 M.1.length = fun _ => 0 := mm_row_s
  have h2 : (mm_nw M (ci, mm_nf ci)).2.2.1 M.1.length = fun _ => 0 := mm_row_s
  have h3 : (mm_nw M (ci, mm_nf ci)).2.2.2 M.1.length = fun _ => none := mm_row_s
  have hn : mm_ft ci k ≠ .float ∧ mm_ft ci k ≠ .double := by
    match ci, hci with
    | 0, _ => exact (show ∀ k, k < mm_nf 0 → mm_ft 0 k ≠ .float ∧ mm_ft 0 k ≠ .double by decide +kernel) k hk
    | 1, _ => exact (show ∀ k, k < mm_nf 1 → mm_ft 1 k ≠ .float ∧ mm_ft 1 k ≠ .double by decide +kernel) k hk
    | 2, _ => exact (show ∀ k, k < mm_nf 2 → mm_ft 2 k ≠ .float ∧ mm_ft 2 k ≠ .double by decide +kernel) k hk
    | 3, _ => exact (show ∀ k, k < mm_nf 3 → mm_ft 3 k ≠ .float ∧ mm_ft 3 k ≠ .double by decide +kernel) k hk
    | 4, _ => exact (show ∀ k, k < mm_nf 4 → mm_ft 4 k ≠ .float ∧ mm_ft 4 k ≠ .double by decide +kernel) k hk
    | 5, _ => exact (show ∀ k, k < mm_nf 5 → mm_ft 5 k ≠ .float ∧ mm_ft 5 k ≠ .double by decide +kernel) k hk
    | 6, _ => exact (show ∀ k, k < mm_nf 6 → mm_ft 6 k ≠ .float ∧ mm_ft 6 k ≠ .double by decide +kernel) k hk
    | 7, _ => exact (show ∀ k, k < mm_nf 7 → mm_ft 7 k ≠ .float ∧ mm_ft 7 k ≠ .double by decide +kernel) k hk
    | 8, _ => exact (show ∀ k, k < mm_nf 8 → mm_ft 8 k ≠ .float ∧ mm_ft 8 k ≠ .double by decide +kernel) k hk
    | 9, _ => exact (show ∀ k, k < mm_nf 9 → mm_ft 9 k ≠ .float ∧ mm_ft 9 k ≠ .double by decide +kernel) k hk
    | 10, _ => exact (show ∀ k, k < mm_nf 10 → mm_ft 10 k ≠ .float ∧ mm_ft 10 k ≠ .double by decide +kernel) k hk
    | 11, _ => exact (show ∀ k, k < mm_nf 11 → mm_ft 11 k ≠ .float ∧ mm_ft 11 k ≠ .double by decide +kernel) k hk
  have e0 : mm_fa (mm_nw M (ci, mm_nf ci)) M.1.length k 0 = .int 0 := congrArg Value.int (congrFun h1 k)
  have e1 : mm_fa (mm_nw M (ci, mm_nf ci)) M.1.length k 1 = .long 0 := congrArg Value.long (congrFun h2 k)
  have e2 : mm_fa (mm_nw M (ci, mm_nf ci)) M.1.length k 2 = .null := congrArg mm_rv (congrFun h3 k)
  show defaultValue (mm_ft ci k) = mm_v ad .null (mm_fa (mm_nw M (ci, mm_nf ci)) M.1.length k (mm_tk (mm_ft ci k)))
  generalize mm_ft ci k = ty at hn
  cases ty with
  | float => exact absurd rfl hn.1
  | double => exact absurd rfl hn.2
  | long => show _ = mm_v ad .null (mm_fa (mm_nw M (ci, mm_nf ci)) M.1.length k 1); rw [e1]; rfl
  | object n => show _ = mm_v ad .null (mm_fa (mm_nw M (ci, mm_nf ci)) M.1.length k 2); rw [e2]; rfl
  | array n => show _ = mm_v ad .null (mm_fa (mm_nw M (ci, mm_nf ci)) M.1.length k 2); rw [e2]; rfl
  | _ => show _ = mm_v ad .null (mm_fa (mm_nw M (ci, mm_nf ci)) M.1.length k 0); rw [e0]; rfl
set_option maxHeartbeats 4000000 in
theorem mm_s_new (hx : p.tables.exec = Jvm.exec) (hb : c.code = cc) (hts : ∀ w ∈ mm_gt, w.before args s = true) (hown : s.vm.findClass (mm_R Y.1) = some m.cls) (E : mm_Env X z ex fz D dA s s.heap) (I : mm_In z ex D dA s M H locs) {c0 s0 : Nat} (h0 : s.heap.size = z + c0) (hc0 : c0 ≤ M.1.length) (hs0 : s0 ≤ mm_sl M)
    (hd : decode cc pc = .ok (.new cp, 3)) (h : mm_new Y cp st M = some q) (hr : q.2.2.1.length - c0 ≤ R.cells ∧ mm_sl q.2.2 - s0 ≤ R.slots)
    (k : ∀ (H1 : Heap) (locs1 : List Loc), mm_In z ex D dA s q.2.2 H1 locs1 → W p l e R s m args below meth c H1 locs1 (q.2.2.1.length - c0) (mm_sl q.2.2 - s0) Q (F0 m (pc + 3) ls (mm_ms (mm_ad z ex) fz q.2.1))) : W p l e R s m args below meth c H locs (M.1.length - c0) (mm_sl M - s0) Q (F0 m pc ls (mm_ms (mm_ad z ex) fz st)) := by
  obtain ⟨ci, h1, h2⟩ := Option.bind_eq_some_iff.mp (show (mm_cl Y.1 cp).bind (fun c => if M.1.length < mm_ext then some (3, .ref M.1.length :: st, mm_nw M (c, mm_nf c)) else none) = some q from h)
  obtain ⟨h3, h4⟩ := mm_ifs h2
  cases h4
  obtain ⟨g1, g2⟩ := mm_cl_ok h1
  have hr1 : (mm_nw M (ci, mm_nf ci)).1.length - c0 ≤ R.cells := hr.1
  have hr2 : mm_sl (mm_nw M (ci, mm_nf ci)) - s0 ≤ R.slots := hr.2
  rw [mm_nwlen] at hr1
  rw [mm_nwsl] at hr2
  refine mm_sized I h0 hc0 (fun hz => ?_)
  have hKn := E.1.1 ci _ (mm_vw g1)
  refine W.newcK hx hb hown (hts _ (mm_in g2 rfl)) (hts _ (mm_inst g1).1) (hts _ (mm_inst g1).2) rfl hd (by omega) (show _ + mm_nf ci ≤ _ by have : (ci, mm_nf ci).2 = mm_nf ci := rfl; omega) hKn.2.1 rfl (fun H1 kC hkC e1 z1 o1 => ?_)
  have hI := mm_In_push (kd := (ci, mm_nf ci)) I hz I.2.1 z1 o1 (by
    have hcell : mm_cell (mm_ad z ex) dA (mm_nw M (ci, mm_nf ci)) M.1.length (ci, mm_nf ci) = .inr (ci, mm_obj (mm_ad z ex) (mm_nw M (ci, mm_nf ci)) M.1.length ci) := if_pos g1
    rw [hcell, ← hz]
    exact ⟨_, mm_vw g1, (u_born (mm_ft ci) hts (mm_lay g1) hKn hkC e1 (mm_ty g1)).to (fun j hj => mm_defv (mm_ad z ex) dA M ci j hj g1)⟩)
  have k2 := k H1 locs hI
  have ea : mm_v (mm_ad z ex) fz (.ref M.1.length) = .ref H.size := by
    show Value.ref (mm_ad z ex M.1.length) = _
    rw [mm_adl h3, hz]
  have k3 : W p l e R s m args below meth c H1 locs ((mm_nw M (ci, mm_nf ci)).1.length - c0) (mm_sl (mm_nw M (ci, mm_nf ci)) - s0) Q (F0 m (pc + 3) ls (mm_v (mm_ad z ex) fz (.ref M.1.length) :: mm_ms (mm_ad z ex) fz st)) := k2
  rw [ea, mm_nwlen, mm_nwsl, show M.1.length + 1 - c0 = M.1.length - c0 + 1 by omega, show mm_sl M + (ci, mm_nf ci).2 - s0 = mm_sl M - s0 + mm_nf ci by show mm_sl M + mm_nf ci - s0 = _; omega] at k3
  exact k3
theorem mm_tag_at {t : ArrayType} (h : 100 ≤ mm_at t) : (t = .int ∧ mm_at t = 100) ∨ (t = .long ∧ mm_at t = 101) ∨ (t = .byte ∧ mm_at t = 102) ∨ (t = .boolean ∧ mm_at t = 103) := by
  cases t <;> first | exact absurd h (by decide) | decide
set_option maxHeartbeats 4000000 in
theorem mm_s_nwa {t : ArrayType} (hx : p.tables.exec = Jvm.exec) (hb : c.code = cc) (hts : ∀ w ∈ mm_gt, w.before args s = true) (E : mm_Env X z ex fz D dA s s.heap) (I : mm_In z ex D dA s M H locs) {c0 s0 : Nat} (h0 : s.heap.size = z + c0) (hc0 : c0 ≤ M.1.length) (hs0 : s0 ≤ mm_sl M)
    (hd : decode cc pc = .ok (.newarray t, 2)) (h : mm_nwa t st M = some q) (hr : q.2.2.1.length - c0 ≤ R.cells ∧ mm_sl q.2.2 - s0 ≤ R.slots)
    (k : ∀ (H1 : Heap) (locs1 : List Loc), mm_In z ex D dA s q.2.2 H1 locs1 → W p l e R s m args below meth c H1 locs1 (q.2.2.1.length - c0) (mm_sl q.2.2 - s0) Q (F0 m (pc + 2) ls (mm_ms (mm_ad z ex) fz q.2.1))) : W p l e R s m args below meth c H locs (M.1.length - c0) (mm_sl M - s0) Q (F0 m pc ls (mm_ms (mm_ad z ex) fz st)) := by
  match st, h with
  | .int n :: r, h =>
    obtain ⟨⟨h3, h4, h5, h6⟩, h7⟩ := mm_ifs (show (if M.1.length < mm_ext ∧ ¬ n < 0 ∧ n.toNatClampNeg ≤ 10000 ∧ 100 ≤ mm_at t then some (2, .ref M.1.length :: r, mm_nw M (mm_at t, n.toNatClampNeg)) else none) = some q from h)
    cases h7
    have hr1 : (mm_nw M (mm_at t, n.toNatClampNeg)).1.length - c0 ≤ R.cells := hr.1
    have hr2 : mm_sl (mm_nw M (mm_at t, n.toNatClampNeg)) - s0 ≤ R.slots := hr.2
    rw [mm_nwlen] at hr1
    rw [mm_nwsl] at hr2
    have hr2 : mm_sl M + n.toNatClampNeg - s0 ≤ R.slots := hr2
    refine mm_sized I h0 hc0 (fun hz => ?_)
    show W p l e R s m args below meth c H locs (M.1.length - c0) (mm_sl M - s0) Q (F0 m pc ls (.int n :: mm_ms (mm_ad z ex) fz r))
    have hz1 : (mm_nw M (mm_at t, n.toNatClampNeg)).2.1 M.1.length = fun _ => 0 := mm_row_s
    have hz2 : (mm_nw M (mm_at t, n.toNatClampNeg)).2.2.1 M.1.length = fun _ => 0 := mm_row_s
    have fin : ∀ (ty : FieldType) (i0 : Nat) (H1 : Heap) (cA : ClassId), newarray.typeOf t = ty → (mm_tys dA)[i0]? = some (dA (mm_at t), ty) → va_RA s (dA (mm_at t)) ty → (va_RA s (dA (mm_at t)) ty → s.vm.findClass ("[" ++ ty.toString) = some (dA (mm_at t))) → vp_cell (dA (mm_at t)) (n.toNatClampNeg, if mm_at t = 101 then .inr (.inl (fun _ => 0)) else .inl (fun _ => 0)) = arrV (dA (mm_at t)) n.toNatClampNeg (fun _ => defaultValue ty) → H1[H.size]? = some (arrV cA n.toNatClampNeg (fun _ => defaultValue (newarray.typeOf t))) → H1.size = H.size + 1 → (∀ q, q < H.size → H1[q]? = H[q]?) → s.vm.findClass ("[" ++ (newarray.typeOf t).toString) = some cA → W p l e R s m args below meth c H1 locs (M.1.length - c0 + 1) (mm_sl M - s0 + n.toNatClampNeg) Q (F0 m (pc + 2) ls (.ref H.size :: mm_ms (mm_ad z ex) fz r)) := by
      intro ty i0 H1 cA e0 ht hRA hRA2 hv e1 z1 o1 hN
      rw [e0] at e1 hN
      cases (hRA2 hRA).symm.trans hN
      have hI := mm_In_push (kd := (mm_at t, n.toNatClampNeg)) I hz I.2.1 z1 o1 (by
        have hcell : mm_cell (mm_ad z ex) dA (mm_nw M (mm_at t, n.toNatClampNeg)) M.1.length (mm_at t, n.toNatClampNeg) = .inl (dA (mm_at t), n.toNatClampNeg, if mm_at t = 101 then .inr (.inl (fun _ => 0)) else .inl (fun _ => 0)) := by
          unfold mm_cell
          rw [hz1, hz2, if_neg (show ¬ (mm_at t, n.toNatClampNeg).1 < 12 by show ¬ mm_at t < 12; omega)]
          by_cases h101 : mm_at t = 101
          · rw [if_pos h101, if_pos h101]
          · rw [if_neg h101, if_neg h101, if_pos (show (mm_at t, n.toNatClampNeg).1 < 110 by show mm_at t < 110; rcases mm_tag_at h6 with ⟨-, q⟩ | ⟨-, q⟩ | ⟨-, q⟩ | ⟨-, q⟩ <;> omega)]
        rw [hcell, ← hz]
        show H1[H.size]? = some (vp_cell _ _)
        rw [hv]
        exact e1)
      have k2 := k H1 locs hI
      have ea : mm_v (mm_ad z ex) fz (.ref M.1.length) = .ref H.size := by
        show Value.ref (mm_ad z ex M.1.length) = _
        rw [mm_adl h3, hz]
      have k3 : W p l e R s m args below meth c H1 locs ((mm_nw M (mm_at t, n.toNatClampNeg)).1.length - c0) (mm_sl (mm_nw M (mm_at t, n.toNatClampNeg)) - s0) Q (F0 m (pc + 2) ls (mm_v (mm_ad z ex) fz (.ref M.1.length) :: mm_ms (mm_ad z ex) fz r)) := k2
      rw [ea, mm_nwlen, mm_nwsl, show M.1.length + 1 - c0 = M.1.length - c0 + 1 by omega, show mm_sl M + (mm_at t, n.toNatClampNeg).2 - s0 = mm_sl M - s0 + n.toNatClampNeg by show mm_sl M + n.toNatClampNeg - s0 = _; omega] at k3
      exact k3
    rcases mm_tag_at h6 with ⟨rfl, ha⟩ | ⟨rfl, ha⟩ | ⟨rfl, ha⟩ | ⟨rfl, ha⟩
    · exact va_newaK (atype := .int) hx hb (hts _ mm_arrc.1) rfl hd rfl h4 rfl (by show _ * 4 ≤ _; omega) (by omega) (by omega) rfl (fun H1 cA e1 z1 o1 hAr hNm => fin .int 0 H1 cA rfl rfl (E.1.2 0 _ rfl).2 id rfl e1 z1 o1 hNm)
    · exact va_newaK (atype := .long) hx hb (hts _ mm_arrc.2.1) rfl hd rfl h4 rfl (by show _ * 8 ≤ _; omega) (by omega) (by omega) rfl (fun H1 cA e1 z1 o1 hAr hNm => fin .long 1 H1 cA rfl rfl (E.1.2 1 _ rfl).2 id rfl e1 z1 o1 hNm)
    · exact va_newaK (atype := .byte) hx hb (hts _ mm_arrc.2.2.1) rfl hd rfl h4 rfl (by show _ * 1 ≤ _; omega) (by omega) (by omega) rfl (fun H1 cA e1 z1 o1 hAr hNm => fin .byte 2 H1 cA rfl rfl (E.1.2 2 _ rfl).2 id rfl e1 z1 o1 hNm)
    · exact va_newaK (atype := .boolean) hx hb (hts _ mm_arrc.2.2.2) rfl hd rfl h4 rfl (by show _ * 1 ≤ _; omega) (by omega) (by omega) rfl (fun H1 cA e1 z1 o1 hAr hNm => fin .boolean 3 H1 cA rfl rfl (E.1.2 3 _ rfl).2 id rfl e1 z1 o1 hNm)
set_option maxHeartbeats 4000000 in
theorem mm_s_nwq (hx : p.tables.exec = Jvm.exec) (hb : c.code = cc) (hts : ∀ w ∈ mm_gt, w.before args s = true) (hown : s.vm.findClass (mm_R Y.1) = some m.cls) (E : mm_Env X z ex fz D dA s s.heap) (I : mm_In z ex D dA s M H locs) {c0 s0 : Nat} (h0 : s.heap.size = z + c0) (hc0 : c0 ≤ M.1.length) (hs0 : s0 ≤ mm_sl M)
    (hd : decode cc pc = .ok (.anewarray cp, 3)) (h : mm_nwq Y cp st M = some q) (hr : q.2.2.1.length - c0 ≤ R.cells ∧ mm_sl q.2.2 - s0 ≤ R.slots)
    (k : ∀ (H1 : Heap) (locs1 : List Loc), mm_In z ex D dA s q.2.2 H1 locs1 → W p l e R s m args below meth c H1 locs1 (q.2.2.1.length - c0) (mm_sl q.2.2 - s0) Q (F0 m (pc + 3) ls (mm_ms (mm_ad z ex) fz q.2.1))) : W p l e R s m args below meth c H locs (M.1.length - c0) (mm_sl M - s0) Q (F0 m pc ls (mm_ms (mm_ad z ex) fz st)) := by
  match st, h with
  | .int n :: r, h =>
    obtain ⟨ci, h1, h2⟩ := Option.bind_eq_some_iff.mp (show (mm_cl Y.1 cp).bind (fun c => if M.1.length < mm_ext ∧ ¬ n < 0 ∧ n.toNatClampNeg ≤ 10000 ∧ (c = 4 ∨ c = 6) then some (3, .ref M.1.length :: r, mm_nw M (110 + c, n.toNatClampNeg)) else none) = some q from h)
    obtain ⟨⟨h3, h4, h5, h6⟩, h7⟩ := mm_ifs h2
    cases h7
    obtain ⟨g1, g2⟩ := mm_cl_ok h1
    have hr1 : (mm_nw M (110 + ci, n.toNatClampNeg)).1.length - c0 ≤ R.cells := hr.1
    have hr2 : mm_sl (mm_nw M (110 + ci, n.toNatClampNeg)) - s0 ≤ R.slots := hr.2
    rw [mm_nwlen] at hr1
    rw [mm_nwsl] at hr2
    have hr2 : mm_sl M + n.toNatClampNeg - s0 ≤ R.slots := hr2
    refine mm_sized I h0 hc0 (fun hz => ?_)
    show W p l e R s m args below meth c H locs (M.1.length - c0) (mm_sl M - s0) Q (F0 m pc ls (.int n :: mm_ms (mm_ad z ex) fz r))
    have hz3 : (mm_nw M (110 + ci, n.toNatClampNeg)).2.2.2 M.1.length = fun _ => none := mm_row_s
    have hao : va_AO (mm_R ci) s ∧ va_RA s (dA (110 + ci)) (.object (mm_R ci)) := by
      rcases h6 with rfl | rfl
      · exact ⟨E.2.2.2.2.2.2.2.2.1, (E.1.2 4 _ rfl).2⟩
      · exact ⟨E.2.2.2.2.2.2.2.2.2, (E.1.2 5 _ rfl).2⟩
    obtain ⟨kA', comp', b1, b2, b3, b4⟩ := hao.2
    refine W.anew hx hb hown (hts _ (mm_in g2 rfl)) (va_AO.use hao.1) rfl hd rfl h4 (by omega) (by omega) (by omega) (fun cA kA comp f1 f2 f3 f4 => ?_)
    cases b4.symm.trans f1
    generalize hH1 : H.push ({ cls := dA (110 + ci), slots := Array.replicate n.toNatClampNeg .null, vm := .none } : Cell) = H1
    have z1 : H1.size = H.size + 1 := by rw [← hH1, Array.size_push]
    have e1 : H1[H.size]? = some (arrV (dA (110 + ci)) n.toNatClampNeg (fun _ => .null)) := by rw [← hH1, Array.getElem?_push_size, ← arrV_new]
    have o1 : ∀ q : Nat, q < H.size → H1[q]? = H[q]? := fun q hq => by rw [← hH1, Array.getElem?_push, if_neg (Nat.ne_of_lt hq)]
    have hI := mm_In_push (kd := (110 + ci, n.toNatClampNeg)) I hz I.2.1 z1 o1 (by
      have hcell : mm_cell (mm_ad z ex) dA (mm_nw M (110 + ci, n.toNatClampNeg)) M.1.length (110 + ci, n.toNatClampNeg) = .inl (dA (110 + ci), n.toNatClampNeg, .inr (.inr (.inr (.inr (fun _ => none))))) := by
        unfold mm_cell
        rw [hz3, if_neg (show ¬ (110 + ci, n.toNatClampNeg).1 < 12 by show ¬ 110 + ci < 12; omega), if_neg (show ¬ (110 + ci, n.toNatClampNeg).1 = 101 by show ¬ 110 + ci = 101; omega), if_neg (show ¬ (110 + ci, n.toNatClampNeg).1 < 110 by show ¬ 110 + ci < 110; omega)]
        rfl
      rw [hcell, ← hz]
      show H1[H.size]? = some (vp_cell _ _)
      rw [vp_cell_q]
      exact e1)
    have k2 := k H1 locs hI
    have ea : mm_v (mm_ad z ex) fz (.ref M.1.length) = .ref H.size := by
      show Value.ref (mm_ad z ex M.1.length) = _
      rw [mm_adl h3, hz]
    have k3 : W p l e R s m args below meth c H1 locs ((mm_nw M (110 + ci, n.toNatClampNeg)).1.length - c0) (mm_sl (mm_nw M (110 + ci, n.toNatClampNeg)) - s0) Q (F0 m (pc + 3) ls (mm_v (mm_ad z ex) fz (.ref M.1.length) :: mm_ms (mm_ad z ex) fz r)) := k2
    rw [ea, mm_nwlen, mm_nwsl, show M.1.length + 1 - c0 = M.1.length - c0 + 1 by omega, show mm_sl M + (110 + ci, n.toNatClampNeg).2 - s0 = mm_sl M - s0 + n.toNatClampNeg by show mm_sl M + n.toNatClampNeg - s0 = _; omega] at k3
    exact k3
set_option maxHeartbeats 4000000 in
theorem mm_s_gs (hx : p.tables.exec = Jvm.exec) (hb : c.code = cc) (hts : ∀ w ∈ mm_gt, w.before args s = true) (hown : s.vm.findClass (mm_R Y.1) = some m.cls) (E : mm_Env X z ex fz D dA s s.heap) (I : mm_In z ex D dA s M H locs)
    (hd : decode cc pc = .ok (.getstatic cp, 3)) (h : mm_gs Y cp st M = some q) (k : W p l e R s m args below meth c H locs cells slots Q (F0 m (pc + 3) ls (mm_ms (mm_ad z ex) fz q.2.1))) : W p l e R s m args below meth c H locs cells slots Q (F0 m pc ls (mm_ms (mm_ad z ex) fz st)) := by
  unfold mm_gs at h
  by_cases h1 : Y.1 = 5 ∧ cp = 113
  · rw [if_pos h1] at h
    cases h
    rw [h1.1] at hown
    rw [h1.2] at hd
    exact va_getsN hx hb E.2.2.1.1 I.2 hown (va_Nw.use rfl E.2.2.2.2.2.2.1) (fun x hx => hx) hd k
  · rw [if_neg h1] at h
    by_cases h2 : Y.1 = 14 ∧ cp = 38
    · rw [if_pos h2] at h
      cases h
      rw [h2.1] at hown
      rw [h2.2] at hd
      exact va_gets hx hb E.2.2.2.1 I.2 hown (hts (.fieldLink RJ0 38 "java/lang/String" "COMPACT_STRINGS" "Z") (mm_in (by decide +kernel) rfl)) (fun x hx => hx) hd k
    · rw [if_neg h2] at h
      obtain ⟨h3, h4⟩ := mm_ifs h
      cases h4
      rw [h3.1] at hown
      rw [h3.2] at hd
      exact va_gets hx hb E.2.2.2.2.1 I.2 hown (hts (.fieldLink RJ0 1053 "jdk/internal/util/Preconditions" "SIOOBE_FORMATTER" "Ljava/util/function/BiFunction;") (mm_in (by decide +kernel) rfl)) (fun x hx => hx) hd k
set_option maxHeartbeats 4000000 in
theorem mm_s_ldc (hx : p.tables.exec = Jvm.exec) (hb : c.code = cc) (hts : ∀ w ∈ mm_gt, w.before args s = true) (hown : s.vm.findClass (mm_R Y.1) = some m.cls) (E : mm_Env X z ex fz D dA s s.heap)
    (hd : decode cc pc = .ok (.ldc cp, 2)) (h : mm_ldc Y cp st M = some q) (k : W p l e R s m args below meth c H locs cells slots Q (F0 m (pc + 2) ls (mm_ms (mm_ad z ex) fz q.2.1))) : W p l e R s m args below meth c H locs cells slots Q (F0 m pc ls (mm_ms (mm_ad z ex) fz st)) := by
  unfold mm_ldc at h
  cases hk : mm_ki Y.1 cp with
  | some v =>
    rw [hk] at h
    cases h
    exact lv_ldc hx hb hown (hts _ (mm_in (mm_ki_ok hk) rfl)) hd k
  | none =>
    rw [hk] at h
    obtain ⟨i, h1, rfl⟩ := Option.map_eq_some_iff.mp h
    obtain ⟨g1, g2, g3⟩ := mm_ks_ok h1
    have hs := (E.2.2.2.2.2.1 i g1).1
    have g2 : (mm_st.getD i ("", 0, "")).1 = mm_R Y.1 := g2
    have g3 : (mm_st.getD i ("", 0, "")).2.1 = cp := g3
    rw [g2, g3] at hs
    refine va_ldcS hx hb hown hs hd ?_
    have ea : mm_ad z ex (mm_ext + 10 + i) = ex (10 + i) := by
      rw [mm_adx (by omega), show mm_ext + 10 + i - mm_ext = 10 + i by omega]
    rw [← ea]
    exact k
theorem mm_s_ldl (hx : p.tables.exec = Jvm.exec) (hb : c.code = cc) (hts : ∀ w ∈ mm_gt, w.before args s = true) (hown : s.vm.findClass (mm_R Y.1) = some m.cls)
    (hd : decode cc pc = .ok (.ldc2_w cp, 3)) (h : mm_ldl Y cp st M = some q) (k : W p l e R s m args below meth c H locs cells slots Q (F0 m (pc + 3) ls (mm_ms (mm_ad z ex) fz q.2.1))) : W p l e R s m args below meth c H locs cells slots Q (F0 m pc ls (mm_ms (mm_ad z ex) fz st)) := by
  obtain ⟨v, h1, rfl⟩ := Option.map_eq_some_iff.mp (show (mm_kl Y.1 cp).map (fun v => (3, .long v :: st, M)) = some q from h)
  exact lv_ldc2 hx hb hown (hts _ (mm_in (mm_kl_ok h1) rfl)) hd k
theorem mm_obw : Cond.instanceMethod Lib.objectInit ∈ lw_tbl ∧ Cond.code Lib.objectInit ⟨#[0xb1]⟩ 1 none ∈ lw_tbl ∧ Cond.native arraycopyName ∈ lw_tbl ∧ Cond.static arraycopyName ∈ lw_tbl := by decide +kernel
theorem mm_s_obi (hx : p.tables.exec = Jvm.exec) (hb : c.code = cc) (hfz : fz.category = 1) (hts : ∀ w ∈ mm_gt, w.before args s = true) (hown : s.vm.findClass (mm_R Y.1) = some m.cls) (hls : ls.size = c.maxLocals) (hfr : 1 ≤ R.frames) (hlo : 30 ≤ R.locals)
    (hd : decode cc pc = .ok (.invokespecial cp, 3)) (h : mm_obi Y cp st M = some q) (k : W p l e R s m args below meth c H locs cells slots Q (F0 m (pc + 3) ls (mm_ms (mm_ad z ex) fz q.2.1))) : W p l e R s m args below meth c H locs cells slots Q (F0 m pc ls (mm_ms (mm_ad z ex) fz st)) := by
  obtain ⟨a, r, rfl, h1, h2, rfl⟩ := mm_obi_inv h
  rcases mm_bi_ok h1 with ⟨-, g⟩ | ⟨g, -⟩
  · refine W.objInit hx hb hown (hts _ (mm_in g rfl)) (hts _ (mm_in mm_obw.1 rfl)) (hts _ (mm_in mm_obw.2.1 rfl)) rfl hls (a := mm_ad z ex a) (rest := mm_ms (mm_ad z ex) fz r) rfl hd hfr ?_ k
    show 2 * 0 + ((mm_ms (mm_ad z ex) fz r).map fun v => v.category).sum + 12 ≤ R.locals
    rw [mm_cats hfz]
    omega
  · exact absurd (show (0 : Nat) = 1 from g) (by decide)
set_option maxHeartbeats 4000000 in
theorem mm_s_cpy (hx : p.tables.exec = Jvm.exec) (hb : c.code = cc) (hfz : fz.category = 1) (hts : ∀ w ∈ mm_gt, w.before args s = true) (hown : s.vm.findClass (mm_R Y.1) = some m.cls) (hls : ls.size = c.maxLocals) (hfr : 1 ≤ R.frames) (hlo : 30 ≤ R.locals) (E : mm_Env X z ex fz D dA s s.heap) (I : mm_In z ex D dA s M H locs)
    (hd : decode cc pc = .ok (.invokestatic cp, 3)) (h : mm_cpy Y cp st M = some q) (k : ∀ (H1 : Heap) (locs1 : List Loc), mm_In z ex D dA s q.2.2 H1 locs1 → W p l e R s m args below meth c H1 locs1 cells slots Q (F0 m (pc + 3) ls (mm_ms (mm_ad z ex) fz q.2.1))) : W p l e R s m args below meth c H locs cells slots Q (F0 m pc ls (mm_ms (mm_ad z ex) fz st)) := by
  match st, h with
  | .int n :: .int dp :: .ref b :: .int sp :: .ref a :: r, h =>
    obtain ⟨⟨h1, h2, ha, hbx, n1, n2, n3, n4, n5⟩, h3⟩ := mm_ifs (show (if mm_bi Y.1 cp = some 1 ∧ (r.map fun v => v.category).sum ≤ 8 ∧ a < mm_ext ∧ b < mm_ext ∧ ¬ sp < 0 ∧ ¬ dp < 0 ∧ ¬ n < 0 ∧ sp.toNatClampNeg + n.toNatClampNeg ≤ mm_len M a ∧ dp.toNatClampNeg + n.toNatClampNeg ≤ mm_len M b then
      (if mm_tag M a = 100 ∧ mm_tag M b = 100 then some (3, r, (M.1, mm_row M.2.1 b (va_cpy (M.2.1 a) (M.2.1 b) sp.toNatClampNeg dp.toNatClampNeg n.toNatClampNeg), M.2.2.1, M.2.2.2))
       else if mm_tag M a = 101 ∧ mm_tag M b = 101 then some (3, r, (M.1, M.2.1, mm_row M.2.2.1 b (va_cpy (M.2.2.1 a) (M.2.2.1 b) sp.toNatClampNeg dp.toNatClampNeg n.toNatClampNeg), M.2.2.2)) else none) else none) = some q from h)
    have hg : Cond.methodLink (mm_R Y.1) cp arraycopyName ∈ lw_tbl := by
      rcases mm_bi_ok h1 with ⟨g, -⟩ | ⟨-, g⟩
      · exact absurd (show (1 : Nat) = 0 from g) (by decide)
      · exact g
    have hloc : ((mm_ms (mm_ad z ex) fz r).map fun v => v.category).sum + (nativeFrameWords "java/lang/System" "arraycopy" 5 + 11) ≤ R.locals := by
      rw [mm_cats hfz, show nativeFrameWords "java/lang/System" "arraycopy" 5 = 7 by decide +kernel]
      omega
    show W p l e R s m args below meth c H locs cells slots Q (F0 m pc ls (.int n :: .int dp :: .ref (mm_ad z ex b) :: .int sp :: .ref (mm_ad z ex a) :: mm_ms (mm_ad z ex) fz r))
    rw [mm_adl ha, mm_adl hbx]
    by_cases h4 : mm_tag M a = 100 ∧ mm_tag M b = 100
    · rw [if_pos h4] at h3
      cases h3
      refine va_copyi hx hb hls.symm hown (hts _ (mm_in hg rfl)) (hts _ (mm_in mm_obw.2.2.1 rfl)) (hts _ (mm_in mm_obw.2.2.2 rfl)) (hts _ (mm_in (mm_ini (c := 18) (by decide)) rfl)) E.1 I.1 mm_wD I.2 a b 0 0 (mm_wi h4.1 (by decide) (by decide) (by decide)) (mm_wi h4.2 (by decide) (by decide) (by decide)) rfl rfl rfl n1 n2 n3 n4 n5 (fun i _ => rfl) hfr hloc hd (fun H1 locs1 hP1 _ hS1 => k H1 locs1 (mm_In_set (M := M) rfl (mm_tlt (mm_ne99 h4.2 (by decide))) ?_ (fun b hb => ⟨mm_row_o hb, rfl, rfl⟩) hP1 hS1))
      rw [mm_cell_i h4.2 (by decide) (by decide) (by decide)]
      show Sum.inl (dA 100, mm_len M b, Sum.inl (mm_row M.2.1 b (va_cpy (M.2.1 a) (M.2.1 b) sp.toNatClampNeg dp.toNatClampNeg n.toNatClampNeg) b)) = _
      rw [mm_row_s]
    · rw [if_neg h4] at h3
      obtain ⟨h5, h6⟩ := mm_ifs h3
      cases h6
      refine va_copyl hx hb hls.symm hown (hts _ (mm_in hg rfl)) (hts _ (mm_in mm_obw.2.2.1 rfl)) (hts _ (mm_in mm_obw.2.2.2 rfl)) (hts _ (mm_in (mm_ini (c := 18) (by decide)) rfl)) E.1 I.1 mm_wD I.2 a b 1 1 (mm_wl h5.1) (mm_wl h5.2) rfl rfl rfl n1 n2 n3 n4 n5 (fun i _ => rfl) hfr hloc hd (fun H1 locs1 hP1 _ hS1 => k H1 locs1 (mm_In_set (M := M) rfl (mm_tlt (mm_ne99 h5.2 (by decide))) ?_ (fun b hb => ⟨rfl, mm_row_o hb, rfl⟩) hP1 hS1))
      rw [mm_cell_l h5.2]
      show Sum.inl (dA 101, mm_len M b, Sum.inr (Sum.inl (mm_row M.2.2.1 b (va_cpy (M.2.2.1 a) (M.2.2.1 b) sp.toNatClampNeg dp.toNatClampNeg n.toNatClampNeg) b))) = _
      rw [mm_row_s]
end MM3
