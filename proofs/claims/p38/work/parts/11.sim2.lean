/-! what stands outside: the script, the table, the String constants, the nest's words -/
def mm_A (z : Nat) : Nat → Prop := fun q => z ≤ q
def mm_Ss (ex : Nat → Nat) (A : Nat → Prop) (s : State) (H : Heap) (i : Nat) : Prop :=
  vk_R (mm_st.getD i ("", 0, "")).1 (mm_st.getD i ("", 0, "")).2.1 (mm_st.getD i ("", 0, "")).2.2 (ex (10 + i)) s ∧ va_O "java/lang/String" (ex (10 + i)) A s H ∧ va_OF "java/lang/String" "coder" "B" (.int 0) (ex (10 + i)) A s H ∧ va_OF "java/lang/String" "value" "[B" (.ref (ex (50 + i))) (ex (10 + i)) A s H ∧ va_T .byte (ex (50 + i)) (mm_sb.getD i []).length (fun j => .int ((mm_sb.getD i []).getD j 0)) A s H
def mm_Env (X : mm_C) (z : Nat) (ex : Nat → Nat) (fz : Value) (D : va_G) (dA : Nat → ClassId) (s : State) (H : Heap) : Prop :=
  va_K D vwCl (mm_tys dA) s ∧ (va_X (ex 0) X.1 X.2 s H ∧ ex 0 < z) ∧ (va_Z "SlowerAbove" "BINDINGS" "[I" (.ref (ex 1)) (mm_A z) s H ∧ va_T .int (ex 1) 17 (fun j => .int (mm_bd.getD j 0)) (mm_A z) s H) ∧ va_Z "java/lang/String" "COMPACT_STRINGS" "Z" (.int 1) (mm_A z) s H ∧ va_Z "jdk/internal/util/Preconditions" "SIOOBE_FORMATTER" "Ljava/util/function/BiFunction;" fz (mm_A z) s H ∧
  (∀ i, i < 16 → mm_Ss ex (mm_A z) s H i) ∧ va_Nw (.fieldLinkNest RX5 113 "SlowerAbove" "BINDINGS" "[I" "SlowerAbove") s ∧ (∀ q ∈ mm_nj, va_Nw (.methodLinkNest (mm_R q.1) q.2.1 (mm_yn q.2.2).2.1 "SlowerAbove") s) ∧ va_AO RX4 s ∧ va_AO RX6 s
def mm_In (z : Nat) (ex : Nat → Nat) (D : va_G) (dA : Nat → ClassId) (s : State) (M : mm_M) (H : Heap) (locs : List Loc) : Prop :=
  va_P D vwCl (mm_w z (mm_ad z ex) dA M) H ∧ va_S (mm_A z) s.heap H locs
theorem mm_adl {z : Nat} {ex : Nat → Nat} {a : Nat} (h : a < mm_ext) : mm_ad z ex a = z + a := if_pos h
theorem mm_adx {z : Nat} {ex : Nat → Nat} {a : Nat} (h : ¬ a < mm_ext) : mm_ad z ex a = ex (a - mm_ext) := if_neg h
theorem mm_In_set {z : Nat} {ex : Nat → Nat} {D : va_G} {dA : Nat → ClassId} {s : State} {M M' : mm_M} {H1 : Heap} {locs1 : List Loc} {a : Nat} {e : va_E} (hk : M'.1 = M.1) (ha : a < M.1.length) (he : mm_cell (mm_ad z ex) dA M' a (M.1.getD a (99, 0)) = e)
    (ho : ∀ b, b ≠ a → M'.2.1 b = M.2.1 b ∧ M'.2.2.1 b = M.2.2.1 b ∧ M'.2.2.2 b = M.2.2.2 b) (hP : va_P D vwCl ((mm_w z (mm_ad z ex) dA M).set a (z + a, e)) H1) (hS : va_S (mm_A z) s.heap H1 locs1) : mm_In z ex D dA s M' H1 locs1 := by
  rw [mm_wset hk ha he ho] at hP
  exact ⟨hP, hS⟩
theorem mm_dec {ci j : Nat} (h : ci < 12) (hj : j < mm_nf ci) : (mm_T ci j).1 = mm_R ci := by
  match ci, h with
  | 0, _ => exact (show ∀ j, j < mm_nf 0 → (mm_T 0 j).1 = mm_R 0 by decide +kernel) j hj
  | 1, _ => exact (show ∀ j, j < mm_nf 1 → (mm_T 1 j).1 = mm_R 1 by decide +kernel) j hj
  | 2, _ => exact (show ∀ j, j < mm_nf 2 → (mm_T 2 j).1 = mm_R 2 by decide +kernel) j hj
  | 3, _ => exact (show ∀ j, j < mm_nf 3 → (mm_T 3 j).1 = mm_R 3 by decide +kernel) j hj
  | 4, _ => exact (show ∀ j, j < mm_nf 4 → (mm_T 4 j).1 = mm_R 4 by decide +kernel) j hj
  | 5, _ => exact (show ∀ j, j < mm_nf 5 → (mm_T 5 j).1 = mm_R 5 by decide +kernel) j hj
  | 6, _ => exact (show ∀ j, j < mm_nf 6 → (mm_T 6 j).1 = mm_R 6 by decide +kernel) j hj
  | 7, _ => exact (show ∀ j, j < mm_nf 7 → (mm_T 7 j).1 = mm_R 7 by decide +kernel) j hj
  | 8, _ => exact (show ∀ j, j < mm_nf 8 → (mm_T 8 j).1 = mm_R 8 by decide +kernel) j hj
  | 9, _ => exact (show ∀ j, j < mm_nf 9 → (mm_T 9 j).1 = mm_R 9 by decide +kernel) j hj
  | 10, _ => exact (show ∀ j, j < mm_nf 10 → (mm_T 10 j).1 = mm_R 10 by decide +kernel) j hj
  | 11, _ => exact (show ∀ j, j < mm_nf 11 → (mm_T 11 j).1 = mm_R 11 by decide +kernel) j hj
theorem mm_x10 {a : Nat} (h1 : 10 ≤ a - mm_ext) (h2 : a - mm_ext < 26) : a - mm_ext - 10 < 16 ∧ 10 + (a - mm_ext - 10) = a - mm_ext ∧ 50 + (a - mm_ext - 10) = a + 40 - mm_ext ∧ ¬ a + 40 < mm_ext := by
  unfold mm_ext at *
  omega
theorem mm_x50 {a : Nat} (h1 : 50 ≤ a - mm_ext) (h2 : a - mm_ext < 66) : a - mm_ext - 50 < 16 ∧ 50 + (a - mm_ext - 50) = a - mm_ext := by
  unfold mm_ext at *
  omega
theorem mm_ne99 {t n : Nat} (h : t = n) (hn : n ≠ 99) : t ≠ 99 := by rw [h]; exact hn
theorem mm_t110 {x y n k : Nat} (h1 : x = n) (h2 : x = 110 + y) (h3 : n = 110 + k) : y = k := by omega
theorem mm_obi_inv {Y : mm_Y} {cp : Nat} {st : List Value} {M : mm_M} {q : Nat × List Value × mm_M} (h : mm_obi Y cp st M = some q) : ∃ (a : Nat) (r : List Value), st = .ref a :: r ∧ mm_bi Y.1 cp = some 0 ∧ (r.map fun v => v.category).sum ≤ 8 ∧ q = (3, r, M) := by
  cases st with
  | nil => exact mm_no h
  | cons v r =>
    cases v with
    | ref a =>
      have h : (if mm_bi Y.1 cp = some 0 ∧ (r.map fun v => v.category).sum ≤ 8 then some (3, r, M) else none) = some q := h
      by_cases hc : mm_bi Y.1 cp = some 0 ∧ (r.map fun v => v.category).sum ≤ 8
      · rw [if_pos hc] at h; exact ⟨a, r, rfl, hc.1, hc.2, (Option.some.inj h).symm⟩
      · rw [if_neg hc] at h; exact mm_no h
    | _ => exact mm_no h
/-- an if that gave something -/
theorem mm_ifs {α : Type} {c : Prop} [Decidable c] {x : Option α} {y : α} (h : (if c then x else none) = some y) : c ∧ x = some y := by
  by_cases hc : c
  · rw [if_pos hc] at h; exact ⟨hc, h⟩
  · rw [if_neg hc] at h; exact mm_no h
theorem mm_cats {ad : Nat → Nat} {fz : Value} (hfz : fz.category = 1) (r : List Value) : ((mm_ms ad fz r).map fun v => v.category).sum = (r.map fun v => v.category).sum := by
  unfold mm_ms
  rw [List.map_map]
  congr 1
  exact List.map_congr_left (fun v _ => mm_vcat hfz v)
section MM2
variable {p : Program} {l : Launch} {e : Env} {R : Room} {s : State} {m : MethodId} {args : Array Value} {below : List Frame} {meth : Method} {c : Code} {H : Heap} {locs : List Loc} {Q : State → Prop} {cells slots : Nat}
variable {cc : ByteArray} {pc : Nat} {ls : Array Slot} {z : Nat} {ex : Nat → Nat} {fz : Value} {D : va_G} {dA : Nat → ClassId} {X : mm_C} {M : mm_M} {st : List Value} {q : Nat × List Value × mm_M} {Y : mm_Y} {cp : Nat}
set_option maxHeartbeats 4000000 in
theorem mm_s_gf (hx : p.tables.exec = Jvm.exec) (hb : c.code = cc) (hts : ∀ w ∈ mm_gt, w.before args s = true) (hown : s.vm.findClass (mm_R Y.1) = some m.cls) (E : mm_Env X z ex fz D dA s s.heap) (I : mm_In z ex D dA s M H locs)
    (hd : decode cc pc = .ok (.getfield cp, 3)) (h : mm_gf Y cp st M = some q) (k : W p l e R s m args below meth c H locs cells slots Q (F0 m (pc + 3) ls (mm_ms (mm_ad z ex) fz q.2.1))) : W p l e R s m args below meth c H locs cells slots Q (F0 m pc ls (mm_ms (mm_ad z ex) fz st)) := by
  cases st with
  | nil => exact mm_no h
  | cons v r =>
    cases v with
    | ref a =>
      show W p l e R s m args below meth c H locs cells slots Q (F0 m pc ls (.ref (mm_ad z ex a) :: mm_ms (mm_ad z ex) fz r))
      have h : (if a < mm_ext then (mm_fl Y.1 cp).bind (fun q => if mm_tag M a = q.1 ∧ q.2 < mm_nf q.1 then some (3, mm_fa M a q.2 (mm_tk (mm_ft q.1 q.2)) :: r, M) else none) else (mm_fx Y.1 cp).bind (fun f => if 10 ≤ a - mm_ext ∧ a - mm_ext < 26 then some (3, (if f = 0 then .ref (a + 40) else .int 0) :: r, M) else none)) = some q := h
      by_cases ha : a < mm_ext
      · rw [if_pos ha] at h
        rw [mm_adl ha]
        obtain ⟨⟨ci, j⟩, h1, h2⟩ := Option.bind_eq_some_iff.mp h
        obtain ⟨⟨h3, h4⟩, h5⟩ := mm_ifs h2
        cases h5
        obtain ⟨g1, g2⟩ := mm_fl_ok h1
        refine va_get (ci := ci) hx hb hts (mm_lay g1) hown E.1 I.1 a (mm_wo h3 g1) (mm_vw g1) j h4 (hts _ (mm_in g2 rfl)) (fun x hx => hx) (mm_objg h4) hd ?_
        rw [← mm_fanr (mm_ad z ex) fz]
        exact k
      · rw [if_neg ha] at h
        rw [mm_adx ha]
        obtain ⟨f, h1, h2⟩ := Option.bind_eq_some_iff.mp h
        obtain ⟨⟨h3, h4⟩, h5⟩ := mm_ifs h2
        cases h5
        obtain ⟨x1, e10, e50, x4⟩ := mm_x10 h3 h4
        have hs := E.2.2.2.2.2.1 (a - mm_ext - 10) x1
        unfold mm_Ss at hs
        rw [e10, e50] at hs
        rcases mm_fx_ok h1 with ⟨g1, g2⟩ | ⟨g1, g2⟩
        · have g1 : f = 0 := g1
          subst g1
          refine vk_getf hx hb hs.2.2.2.1 I.2 hown (hts _ (mm_in g2 rfl)) (fun x hx => hx) hd ?_
          have e : mm_ad z ex (a + 40) = ex (a + 40 - mm_ext) := mm_adx x4
          rw [← e]
          exact k
        · have g1 : f = 1 := g1
          subst g1
          exact vk_getf hx hb hs.2.2.1 I.2 hown (hts _ (mm_in g2 rfl)) (fun x hx => hx) hd k
    | _ => exact mm_no h
set_option maxHeartbeats 4000000 in
theorem mm_s_pf (hx : p.tables.exec = Jvm.exec) (hb : c.code = cc) (hts : ∀ w ∈ mm_gt, w.before args s = true) (hown : s.vm.findClass (mm_R Y.1) = some m.cls) (hmn : Y.2.1.name = "<init>" → meth.name = "<init>") (E : mm_Env X z ex fz D dA s s.heap) (I : mm_In z ex D dA s M H locs)
    (hd : decode cc pc = .ok (.putfield cp, 3)) (h : mm_pf Y cp st M = some q) (k : ∀ (H1 : Heap) (locs1 : List Loc), mm_In z ex D dA s q.2.2 H1 locs1 → W p l e R s m args below meth c H1 locs1 cells slots Q (F0 m (pc + 3) ls (mm_ms (mm_ad z ex) fz q.2.1))) : W p l e R s m args below meth c H locs cells slots Q (F0 m pc ls (mm_ms (mm_ad z ex) fz st)) := by
  cases st with
  | nil => exact mm_no h
  | cons v r =>
    cases r with
    | nil => cases v <;> exact mm_no h
    | cons w r =>
      cases w with
      | ref a =>
        have h : (mm_fl Y.1 cp).bind (fun q => if a < mm_ext ∧ mm_tag M a = q.1 ∧ q.2 < mm_nf q.1 ∧ ((mm_T q.1 q.2).2.2.2 = false ∨ (Y.2.1.name = "<init>" ∧ q.1 = Y.1)) then (mm_wr M a q.2 (mm_ft q.1 q.2) v).map (fun M' => (3, r, M')) else none) = some q := h
        obtain ⟨⟨ci, j⟩, h1, h2⟩ := Option.bind_eq_some_iff.mp h
        obtain ⟨⟨ha, h3, h4, h6⟩, h5⟩ := mm_ifs h2
        obtain ⟨M', h7, rfl⟩ := Option.map_eq_some_iff.mp h5
        obtain ⟨w1, w2, w3, w4, w5⟩ := mm_wr_inv h7
        obtain ⟨g1, g2⟩ := mm_fl_ok h1
        show W p l e R s m args below meth c H locs cells slots Q (F0 m pc ls (mm_v (mm_ad z ex) fz v :: .ref (mm_ad z ex a) :: mm_ms (mm_ad z ex) fz r))
        rw [mm_adl ha]
        have hal : a < M.1.length := mm_tlt (by have : mm_tag M a = ci := h3; have : ci < 12 := g1; omega)
        have hset : ∀ (H1 : Heap) (locs1 : List Loc), va_P D vwCl ((mm_w z (mm_ad z ex) dA M).set a (z + a, .inr (ci, (mm_obj (mm_ad z ex) M a ci).set j (mm_v (mm_ad z ex) fz v)))) H1 → va_D (mm_A z) ((mm_w z (mm_ad z ex) dA M).set a (z + a, .inr (ci, (mm_obj (mm_ad z ex) M a ci).set j (mm_v (mm_ad z ex) fz v)))) → va_S (mm_A z) s.heap H1 locs1 → W p l e R s m args below meth c H1 locs1 cells slots Q (F0 m (pc + 3) ls (mm_ms (mm_ad z ex) fz r)) := by
          intro H1 locs1 hP1 _ hS1
          refine k H1 locs1 (mm_In_set w1 hal ?_ w2 hP1 hS1)
          rw [mm_objset h4 w3 w4]
          have e1 : (M.1.getD a (99, 0)).1 = ci := h3
          unfold mm_cell
          rw [e1, if_pos g1]
        rcases h6 with h6 | ⟨h6, h7⟩
        · exact va_put (ci := ci) hx hb hts (mm_lay g1) (mm_ft ci) (mm_ty g1) (mm_nm g1) hown E.1 I.1 mm_wD I.2 a (mm_wo h3 g1) (mm_vw g1) j h4 (hts _ (mm_in g2 rfl)) (fun x hx => hx) h6 (mm_ty g1 j h4) (w5 (mm_ad z ex) fz).1 (w5 (mm_ad z ex) fz).2 (by rw [mm_objlen]; exact h4) hd hset
        · by_cases h8 : (mm_T ci j).2.2.2 = false
          · exact va_put (ci := ci) hx hb hts (mm_lay g1) (mm_ft ci) (mm_ty g1) (mm_nm g1) hown E.1 I.1 mm_wD I.2 a (mm_wo h3 g1) (mm_vw g1) j h4 (hts _ (mm_in g2 rfl)) (fun x hx => hx) h8 (mm_ty g1 j h4) (w5 (mm_ad z ex) fz).1 (w5 (mm_ad z ex) fz).2 (by rw [mm_objlen]; exact h4) hd hset
          · have h9 : (mm_T ci j).2.2.2 = true := by cases hq : (mm_T ci j).2.2.2; exact absurd hq h8; rfl
            have h7 : ci = Y.1 := h7
            exact va_putF (ci := ci) hx hb hts (mm_lay g1) (mm_ft ci) (mm_ty g1) (mm_nm g1) hown E.1 I.1 mm_wD I.2 a (mm_wo h3 g1) (mm_vw g1) j h4 (hts _ (mm_in g2 rfl)) (fun x hx => hx) h9 (hmn h6) (by rw [← h7]; exact mm_dec g1 h4) (mm_ty g1 j h4) (w5 (mm_ad z ex) fz).1 (w5 (mm_ad z ex) fz).2 (by rw [mm_objlen]; exact h4) hd hset
      | _ => cases v <;> exact mm_no h
set_option maxHeartbeats 4000000 in
theorem mm_s_ial (hx : p.tables.exec = Jvm.exec) (hb : c.code = cc) (E : mm_Env X z ex fz D dA s s.heap) (I : mm_In z ex D dA s M H locs)
    (hd : decode cc pc = .ok (.iaload, 1)) (h : mm_ial X st M = some q) (k : W p l e R s m args below meth c H locs cells slots Q (F0 m (pc + 1) ls (mm_ms (mm_ad z ex) fz q.2.1))) : W p l e R s m args below meth c H locs cells slots Q (F0 m pc ls (mm_ms (mm_ad z ex) fz st)) := by
  match st, h with
  | .int i :: .ref a :: r, h =>
    have h : (if a < mm_ext then (if mm_tag M a = 100 ∧ ¬ (i < 0 ∨ mm_len M a ≤ i.toNatClampNeg) then some (1, .int (M.2.1 a i.toNatClampNeg) :: r, M) else none)
      else if a = mm_ext then (if X.1 < 100000 ∧ ¬ (i < 0 ∨ X.1 ≤ i.toNatClampNeg) then some (1, .int (X.2 i.toNatClampNeg) :: r, M) else none)
      else if a = mm_ext + 1 ∧ ¬ (i < 0 ∨ 17 ≤ i.toNatClampNeg) then some (1, .int (mm_bd.getD i.toNatClampNeg 0) :: r, M) else none) = some q := h
    show W p l e R s m args below meth c H locs cells slots Q (F0 m pc ls (.int i :: .ref (mm_ad z ex a) :: mm_ms (mm_ad z ex) fz r))
    by_cases ha : a < mm_ext
    · rw [if_pos ha] at h
      rw [mm_adl ha]
      obtain ⟨⟨h1, h2⟩, h3⟩ := mm_ifs h
      cases h3
      exact va_iald hx hb E.1 I.1 a 0 (mm_wi h1 (by decide) (by decide) (by decide)) rfl h2 hd k
    · rw [if_neg ha] at h
      rw [mm_adx ha]
      by_cases hs : a = mm_ext
      · rw [if_pos hs] at h
        obtain ⟨⟨-, h1⟩, h2⟩ := mm_ifs h
        cases h2
        rw [hs, Nat.sub_self]
        obtain ⟨⟨hX, hl⟩, -⟩ := E.2
        exact va_sld hx hb hX (by obtain ⟨scr, g, -⟩ := hX; exact (Array.getElem?_eq_some_iff.mp g).1) (fun q => Nat.lt_irrefl _ (Nat.lt_of_lt_of_le hl q)) I.2 h1 hd k
      · rw [if_neg hs] at h
        obtain ⟨⟨h1, h2⟩, h3⟩ := mm_ifs h
        cases h3
        rw [h1, show mm_ext + 1 - mm_ext = 1 from rfl]
        exact va_ti hx hb E.2.2.1.2 I.2 h2 rfl hd k
set_option maxHeartbeats 4000000 in
theorem mm_s_lal (hx : p.tables.exec = Jvm.exec) (hb : c.code = cc) (E : mm_Env X z ex fz D dA s s.heap) (I : mm_In z ex D dA s M H locs)
    (hd : decode cc pc = .ok (.laload, 1)) (h : mm_lal st M = some q) (k : W p l e R s m args below meth c H locs cells slots Q (F0 m (pc + 1) ls (mm_ms (mm_ad z ex) fz q.2.1))) : W p l e R s m args below meth c H locs cells slots Q (F0 m pc ls (mm_ms (mm_ad z ex) fz st)) := by
  match st, h with
  | .int i :: .ref a :: r, h =>
    obtain ⟨⟨ha, h1, h2⟩, h3⟩ := mm_ifs (show (if a < mm_ext ∧ mm_tag M a = 101 ∧ ¬ (i < 0 ∨ mm_len M a ≤ i.toNatClampNeg) then some (1, .long (M.2.2.1 a i.toNatClampNeg) :: r, M) else none) = some q from h)
    cases h3
    show W p l e R s m args below meth c H locs cells slots Q (F0 m pc ls (.int i :: .ref (mm_ad z ex a) :: mm_ms (mm_ad z ex) fz r))
    rw [mm_adl ha]
    exact va_lald hx hb E.1 I.1 a 1 (mm_wl h1) rfl h2 hd k
set_option maxHeartbeats 4000000 in
theorem mm_s_bal (hx : p.tables.exec = Jvm.exec) (hb : c.code = cc) (E : mm_Env X z ex fz D dA s s.heap) (I : mm_In z ex D dA s M H locs)
    (hd : decode cc pc = .ok (.baload, 1)) (h : mm_bal st M = some q) (k : W p l e R s m args below meth c H locs cells slots Q (F0 m (pc + 1) ls (mm_ms (mm_ad z ex) fz q.2.1))) : W p l e R s m args below meth c H locs cells slots Q (F0 m pc ls (mm_ms (mm_ad z ex) fz st)) := by
  match st, h with
  | .int i :: .ref a :: r, h =>
    have h : (if a < mm_ext then (if (mm_tag M a = 102 ∨ mm_tag M a = 103) ∧ ¬ (i < 0 ∨ mm_len M a ≤ i.toNatClampNeg) then some (1, .int (M.2.1 a i.toNatClampNeg) :: r, M) else none)
      else if 50 ≤ a - mm_ext ∧ a - mm_ext < 66 ∧ ¬ (i < 0 ∨ (mm_sb.getD (a - mm_ext - 50) []).length ≤ i.toNatClampNeg) then some (1, .int ((mm_sb.getD (a - mm_ext - 50) []).getD i.toNatClampNeg 0) :: r, M) else none) = some q := h
    show W p l e R s m args below meth c H locs cells slots Q (F0 m pc ls (.int i :: .ref (mm_ad z ex a) :: mm_ms (mm_ad z ex) fz r))
    by_cases ha : a < mm_ext
    · rw [if_pos ha] at h
      rw [mm_adl ha]
      obtain ⟨⟨h1, h2⟩, h3⟩ := mm_ifs h
      cases h3
      rcases h1 with h1 | h1
      · exact va_bald hx hb E.1 I.1 a 2 (mm_wi h1 (by decide) (by decide) (by decide)) rfl h2 hd k
      · exact va_zald hx hb E.1 I.1 a 3 (mm_wi h1 (by decide) (by decide) (by decide)) rfl h2 hd k
    · rw [if_neg ha] at h
      rw [mm_adx ha]
      obtain ⟨⟨h1, h2, h3⟩, h4⟩ := mm_ifs h
      cases h4
      obtain ⟨x1, e50⟩ := mm_x50 h1 h2
      have hs := E.2.2.2.2.2.1 (a - mm_ext - 50) x1
      unfold mm_Ss at hs
      rw [e50] at hs
      exact va_tb hx hb hs.2.2.2.2 I.2 h3 rfl hd k
set_option maxHeartbeats 4000000 in
theorem mm_s_aal (hx : p.tables.exec = Jvm.exec) (hb : c.code = cc) (E : mm_Env X z ex fz D dA s s.heap) (I : mm_In z ex D dA s M H locs)
    (hd : decode cc pc = .ok (.aaload, 1)) (h : mm_aal st M = some q) (k : W p l e R s m args below meth c H locs cells slots Q (F0 m (pc + 1) ls (mm_ms (mm_ad z ex) fz q.2.1))) : W p l e R s m args below meth c H locs cells slots Q (F0 m pc ls (mm_ms (mm_ad z ex) fz st)) := by
  match st, h with
  | .int i :: .ref a :: r, h =>
    obtain ⟨⟨ha, h1, h2⟩, h3⟩ := mm_ifs (show (if a < mm_ext ∧ (mm_tag M a = 114 ∨ mm_tag M a = 116) ∧ ¬ (i < 0 ∨ mm_len M a ≤ i.toNatClampNeg) then some (1, mm_rv (M.2.2.2 a i.toNatClampNeg) :: r, M) else none) = some q from h)
    cases h3
    have k : W p l e R s m args below meth c H locs cells slots Q (F0 m (pc + 1) ls (mm_v (mm_ad z ex) fz (mm_rv (M.2.2.2 a i.toNatClampNeg)) :: mm_ms (mm_ad z ex) fz r)) := k
    rw [mm_rvm] at k
    show W p l e R s m args below meth c H locs cells slots Q (F0 m pc ls (.int i :: .ref (mm_ad z ex a) :: mm_ms (mm_ad z ex) fz r))
    rw [mm_adl ha]
    rcases h1 with h1 | h1
    · exact va_aldq (C := RX4) hx hb E.1 I.1 a 4 (mm_wq h1 (by decide)) rfl h2 hd k
    · exact va_aldq (C := RX6) hx hb E.1 I.1 a 5 (mm_wq h1 (by decide)) rfl h2 hd k
theorem mm_cell_i {ad : Nat → Nat} {dA : Nat → ClassId} {M M' : mm_M} {a t : Nat} (h : mm_tag M a = t) (h1 : 100 ≤ t) (h2 : t < 110) (h3 : t ≠ 101) : mm_cell ad dA M' a (M.1.getD a (99, 0)) = .inl (dA t, mm_len M a, .inl (M'.2.1 a)) := by
  unfold mm_cell
  unfold mm_tag at h
  rw [h, if_neg (by omega), if_neg h3, if_pos h2]
  rfl
theorem mm_cell_l {ad : Nat → Nat} {dA : Nat → ClassId} {M M' : mm_M} {a : Nat} (h : mm_tag M a = 101) : mm_cell ad dA M' a (M.1.getD a (99, 0)) = .inl (dA 101, mm_len M a, .inr (.inl (M'.2.2.1 a))) := by
  unfold mm_cell
  unfold mm_tag at h
  rw [h, if_neg (by omega), if_pos rfl]
  rfl
theorem mm_cell_q {ad : Nat → Nat} {dA : Nat → ClassId} {M M' : mm_M} {a t : Nat} (h : mm_tag M a = t) (h1 : 110 ≤ t) : mm_cell ad dA M' a (M.1.getD a (99, 0)) = .inl (dA t, mm_len M a, .inr (.inr (.inr (.inr (fun k => (M'.2.2.2 a k).map ad))))) := by
  unfold mm_cell
  unfold mm_tag at h
  rw [h, if_neg (by omega), if_neg (by omega), if_neg (by omega)]
  rfl
set_option maxHeartbeats 4000000 in
theorem mm_s_ias (hx : p.tables.exec = Jvm.exec) (hb : c.code = cc) (E : mm_Env X z ex fz D dA s s.heap) (I : mm_In z ex D dA s M H locs)
    (hd : decode cc pc = .ok (.iastore, 1)) (h : mm_ias st M = some q) (k : ∀ (H1 : Heap) (locs1 : List Loc), mm_In z ex D dA s q.2.2 H1 locs1 → W p l e R s m args below meth c H1 locs1 cells slots Q (F0 m (pc + 1) ls (mm_ms (mm_ad z ex) fz q.2.1))) : W p l e R s m args below meth c H locs cells slots Q (F0 m pc ls (mm_ms (mm_ad z ex) fz st)) := by
  match st, h with
  | .int x :: .int i :: .ref a :: r, h =>
    obtain ⟨⟨ha, h1, h2⟩, h3⟩ := mm_ifs (show (if a < mm_ext ∧ mm_tag M a = 100 ∧ ¬ (i < 0 ∨ mm_len M a ≤ i.toNatClampNeg) then some (1, r, (M.1, mm_up M.2.1 a i.toNatClampNeg x, M.2.2.1, M.2.2.2)) else none) = some q from h)
    cases h3
    show W p l e R s m args below meth c H locs cells slots Q (F0 m pc ls (.int x :: .int i :: .ref (mm_ad z ex a) :: mm_ms (mm_ad z ex) fz r))
    rw [mm_adl ha]
    refine va_iast hx hb E.1 I.1 mm_wD I.2 a 0 (mm_wi h1 (by decide) (by decide) (by decide)) rfl h2 hd (fun H1 locs1 hP1 _ hS1 => k H1 locs1 (mm_In_set (M := M) rfl (mm_tlt (mm_ne99 h1 (by decide))) ?_ (fun b hb => ⟨mm_up_o hb, rfl, rfl⟩) hP1 hS1))
    rw [mm_cell_i h1 (by decide) (by decide) (by decide)]
    show Sum.inl (dA 100, mm_len M a, Sum.inl (mm_up M.2.1 a i.toNatClampNeg x a)) = _
    rw [mm_up_s]
    rfl
set_option maxHeartbeats 4000000 in
theorem mm_s_las (hx : p.tables.exec = Jvm.exec) (hb : c.code = cc) (E : mm_Env X z ex fz D dA s s.heap) (I : mm_In z ex D dA s M H locs)
    (hd : decode cc pc = .ok (.lastore, 1)) (h : mm_las st M = some q) (k : ∀ (H1 : Heap) (locs1 : List Loc), mm_In z ex D dA s q.2.2 H1 locs1 → W p l e R s m args below meth c H1 locs1 cells slots Q (F0 m (pc + 1) ls (mm_ms (mm_ad z ex) fz q.2.1))) : W p l e R s m args below meth c H locs cells slots Q (F0 m pc ls (mm_ms (mm_ad z ex) fz st)) := by
  match st, h with
  | .long x :: .int i :: .ref a :: r, h =>
    obtain ⟨⟨ha, h1, h2⟩, h3⟩ := mm_ifs (show (if a < mm_ext ∧ mm_tag M a = 101 ∧ ¬ (i < 0 ∨ mm_len M a ≤ i.toNatClampNeg) then some (1, r, (M.1, M.2.1, mm_up M.2.2.1 a i.toNatClampNeg x, M.2.2.2)) else none) = some q from h)
    cases h3
    show W p l e R s m args below meth c H locs cells slots Q (F0 m pc ls (.long x :: .int i :: .ref (mm_ad z ex a) :: mm_ms (mm_ad z ex) fz r))
    rw [mm_adl ha]
    refine va_last hx hb E.1 I.1 mm_wD I.2 a 1 (mm_wl h1) rfl h2 hd (fun H1 locs1 hP1 _ hS1 => k H1 locs1 (mm_In_set (M := M) rfl (mm_tlt (mm_ne99 h1 (by decide))) ?_ (fun b hb => ⟨rfl, mm_up_o hb, rfl⟩) hP1 hS1))
    rw [mm_cell_l h1]
    show Sum.inl (dA 101, mm_len M a, Sum.inr (Sum.inl (mm_up M.2.2.1 a i.toNatClampNeg x a))) = _
    rw [mm_up_s]
    rfl
set_option maxHeartbeats 4000000 in
theorem mm_s_bas (hx : p.tables.exec = Jvm.exec) (hb : c.code = cc) (E : mm_Env X z ex fz D dA s s.heap) (I : mm_In z ex D dA s M H locs)
    (hd : decode cc pc = .ok (.bastore, 1)) (h : mm_bas st M = some q) (k : ∀ (H1 : Heap) (locs1 : List Loc), mm_In z ex D dA s q.2.2 H1 locs1 → W p l e R s m args below meth c H1 locs1 cells slots Q (F0 m (pc + 1) ls (mm_ms (mm_ad z ex) fz q.2.1))) : W p l e R s m args below meth c H locs cells slots Q (F0 m pc ls (mm_ms (mm_ad z ex) fz st)) := by
  match st, h with
  | .int x :: .int i :: .ref a :: r, h =>
    obtain ⟨⟨ha, h2⟩, h3⟩ := mm_ifs (show (if a < mm_ext ∧ ¬ (i < 0 ∨ mm_len M a ≤ i.toNatClampNeg) then (if mm_tag M a = 102 then some (1, r, (M.1, mm_up M.2.1 a i.toNatClampNeg x.toInt8.toInt32, M.2.2.1, M.2.2.2)) else if mm_tag M a = 103 then some (1, r, (M.1, mm_up M.2.1 a i.toNatClampNeg (vp_nar .boolean x), M.2.2.1, M.2.2.2)) else none) else none) = some q from h)
    show W p l e R s m args below meth c H locs cells slots Q (F0 m pc ls (.int x :: .int i :: .ref (mm_ad z ex a) :: mm_ms (mm_ad z ex) fz r))
    rw [mm_adl ha]
    by_cases h1 : mm_tag M a = 102
    · rw [if_pos h1] at h3
      cases h3
      refine va_bast hx hb E.1 I.1 mm_wD I.2 a 2 (mm_wi h1 (by decide) (by decide) (by decide)) rfl h2 hd (fun H1 locs1 hP1 _ hS1 => k H1 locs1 (mm_In_set (M := M) rfl (mm_tlt (mm_ne99 h1 (by decide))) ?_ (fun b hb => ⟨mm_up_o hb, rfl, rfl⟩) hP1 hS1))
      rw [mm_cell_i h1 (by decide) (by decide) (by decide)]
      show Sum.inl (dA 102, mm_len M a, Sum.inl (mm_up M.2.1 a i.toNatClampNeg x.toInt8.toInt32 a)) = _
      rw [mm_up_s]
      rfl
    · rw [if_neg h1] at h3
      obtain ⟨h1, h4⟩ := mm_ifs h3
      cases h4
      refine va_zast hx hb E.1 I.1 mm_wD I.2 a 3 (mm_wi h1 (by decide) (by decide) (by decide)) rfl h2 hd (fun H1 locs1 hP1 _ hS1 => k H1 locs1 (mm_In_set (M := M) rfl (mm_tlt (mm_ne99 h1 (by decide))) ?_ (fun b hb => ⟨mm_up_o hb, rfl, rfl⟩) hP1 hS1))
      rw [mm_cell_i h1 (by decide) (by decide) (by decide)]
      show Sum.inl (dA 103, mm_len M a, Sum.inl (mm_up M.2.1 a i.toNatClampNeg (vp_nar .boolean x) a)) = _
      rw [mm_up_s]
      rfl
set_option maxHeartbeats 4000000 in
theorem mm_s_aas (hx : p.tables.exec = Jvm.exec) (hb : c.code = cc) (E : mm_Env X z ex fz D dA s s.heap) (I : mm_In z ex D dA s M H locs)
    (hd : decode cc pc = .ok (.aastore, 1)) (h : mm_aas st M = some q) (k : ∀ (H1 : Heap) (locs1 : List Loc), mm_In z ex D dA s q.2.2 H1 locs1 → W p l e R s m args below meth c H1 locs1 cells slots Q (F0 m (pc + 1) ls (mm_ms (mm_ad z ex) fz q.2.1))) : W p l e R s m args below meth c H locs cells slots Q (F0 m pc ls (mm_ms (mm_ad z ex) fz st)) := by
  match st, h with
  | .ref v :: .int i :: .ref a :: r, h =>
    obtain ⟨⟨ha, hv, h1, h4, h2⟩, h3⟩ := mm_ifs (show (if a < mm_ext ∧ v < mm_ext ∧ (mm_tag M a = 114 ∨ mm_tag M a = 116) ∧ mm_tag M a = 110 + mm_tag M v ∧ ¬ (i < 0 ∨ mm_len M a ≤ i.toNatClampNeg) then some (1, r, (M.1, M.2.1, M.2.2.1, mm_up M.2.2.2 a i.toNatClampNeg (some v))) else none) = some q from h)
    cases h3
    show W p l e R s m args below meth c H locs cells slots Q (F0 m pc ls (.ref (mm_ad z ex v) :: .int i :: .ref (mm_ad z ex a) :: mm_ms (mm_ad z ex) fz r))
    have key : ∀ t, mm_tag M a = t → 110 ≤ t → Sum.inl (dA t, mm_len M a, Sum.inr (Sum.inr (Sum.inr (Sum.inr (fun k => (mm_up M.2.2.2 a i.toNatClampNeg (some v) a k).map (mm_ad z ex)))))) = (Sum.inl (dA t, mm_len M a, Sum.inr (Sum.inr (Sum.inr (Sum.inr (va_up (fun k => (M.2.2.2 a k).map (mm_ad z ex)) i.toNatClampNeg (some (z + v))))))) : va_E) := by
      intro t _ _
      congr 7
      funext j
      unfold va_up
      by_cases hj : j = i.toNatClampNeg
      · rw [if_pos hj, hj, mm_up_k]
        show some (mm_ad z ex v) = _
        rw [mm_adl hv]
      · rw [if_neg hj, mm_up_j hj]
    rw [mm_adl ha, mm_adl hv]
    rcases h1 with h1 | h1
    · have hvt : mm_tag M v = 4 := mm_t110 h1 h4 rfl
      refine va_astq hx hb E.1 I.1 mm_wD I.2 a 4 v 4 (r := (mm_R 4, mm_T 4, mm_nf 4)) (mm_wq h1 (by decide)) rfl (mm_wo hvt (by decide)) (mm_vw (by decide)) h2 hd (fun H1 locs1 hP1 _ hS1 => k H1 locs1 (mm_In_set (M := M) rfl (mm_tlt (mm_ne99 h1 (by decide))) ?_ (fun b hb => ⟨rfl, rfl, mm_up_o hb⟩) hP1 hS1))
      rw [mm_cell_q h1 (by decide)]
      exact key 114 h1 (by decide)
    · have hvt : mm_tag M v = 6 := mm_t110 h1 h4 rfl
      refine va_astq hx hb E.1 I.1 mm_wD I.2 a 5 v 6 (r := (mm_R 6, mm_T 6, mm_nf 6)) (mm_wq h1 (by decide)) rfl (mm_wo hvt (by decide)) (mm_vw (by decide)) h2 hd (fun H1 locs1 hP1 _ hS1 => k H1 locs1 (mm_In_set (M := M) rfl (mm_tlt (mm_ne99 h1 (by decide))) ?_ (fun b hb => ⟨rfl, rfl, mm_up_o hb⟩) hP1 hS1))
      rw [mm_cell_q h1 (by decide)]
      exact key 116 h1 (by decide)
set_option maxHeartbeats 4000000 in
theorem mm_s_alen (hx : p.tables.exec = Jvm.exec) (hb : c.code = cc) (E : mm_Env X z ex fz D dA s s.heap) (I : mm_In z ex D dA s M H locs)
    (hd : decode cc pc = .ok (.arraylength, 1)) (h : mm_alen X st M = some q) (k : W p l e R s m args below meth c H locs cells slots Q (F0 m (pc + 1) ls (mm_ms (mm_ad z ex) fz q.2.1))) : W p l e R s m args below meth c H locs cells slots Q (F0 m pc ls (mm_ms (mm_ad z ex) fz st)) := by
  match st, h with
  | .ref a :: r, h =>
    have h : (if a < mm_ext then (if 100 ≤ mm_tag M a ∧ mm_tag M a ≤ 103 then some (1, .int (Int32.ofNat (mm_len M a)) :: r, M) else none)
      else if a = mm_ext then (if X.1 < 100000 then some (1, .int (Int32.ofNat X.1) :: r, M) else none)
      else if 50 ≤ a - mm_ext ∧ a - mm_ext < 66 then some (1, .int (Int32.ofNat (mm_sb.getD (a - mm_ext - 50) []).length) :: r, M) else none) = some q := h
    show W p l e R s m args below meth c H locs cells slots Q (F0 m pc ls (.ref (mm_ad z ex a) :: mm_ms (mm_ad z ex) fz r))
    by_cases ha : a < mm_ext
    · rw [if_pos ha] at h
      rw [mm_adl ha]
      obtain ⟨h1, h3⟩ := mm_ifs h
      cases h3
      rcases (show mm_tag M a = 100 ∨ mm_tag M a = 101 ∨ mm_tag M a = 102 ∨ mm_tag M a = 103 by omega) with h1 | h1 | h1 | h1
      · exact va_alen hx hb E.1 I.1 a 0 (mm_wi h1 (by decide) (by decide) (by decide)) rfl rfl hd k
      · exact va_alen hx hb E.1 I.1 a 1 (mm_wl h1) rfl rfl hd k
      · exact va_alen hx hb E.1 I.1 a 2 (mm_wi h1 (by decide) (by decide) (by decide)) rfl rfl hd k
      · exact va_alen hx hb E.1 I.1 a 3 (mm_wi h1 (by decide) (by decide) (by decide)) rfl rfl hd k
    · rw [if_neg ha] at h
      rw [mm_adx ha]
      by_cases hs : a = mm_ext
      · rw [if_pos hs] at h
        obtain ⟨-, h2⟩ := mm_ifs h
        cases h2
        rw [hs, Nat.sub_self]
        obtain ⟨⟨hX, hl⟩, -⟩ := E.2
        exact va_slen hx hb hX (by obtain ⟨scr, g, -⟩ := hX; exact (Array.getElem?_eq_some_iff.mp g).1) (fun q => Nat.lt_irrefl _ (Nat.lt_of_lt_of_le hl q)) I.2 hd k
      · rw [if_neg hs] at h
        obtain ⟨⟨h1, h2⟩, h3⟩ := mm_ifs h
        cases h3
        obtain ⟨x1, e50⟩ := mm_x50 h1 h2
        have hs := E.2.2.2.2.2.1 (a - mm_ext - 50) x1
        unfold mm_Ss at hs
        rw [e50] at hs
        exact va_tlen hx hb hs.2.2.2.2 I.2 rfl hd k
end MM2
