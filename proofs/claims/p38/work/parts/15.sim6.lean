/-- THE ABSTRACT RUN IS THE MACHINE's -/
def mm_Sim (l : Launch) (X : mm_C) (z : Nat) (ex : Nat → Nat) (fz : Value) (D : va_G) (dA : Nat → ClassId) (n : Nat) : Prop :=
  ∀ (d : Nat) (Y : mm_Y) (pc : Nat) (lv : mm_L) (st : List Value) (M : mm_M) (r : Option Value) (Mf : mm_M), mm_run X n d Y pc lv st M = some (r, Mf) →
  ∀ (p : Program) (e : Env) (R : Room) (s : State) (m : MethodId) (args : Array Value) (below : List Frame) (meth : Method) (c : Code) (H : Heap) (locs : List Loc) (ls : Array Slot) (Q : State → Prop) (c0 s0 : Nat),
  mm_Fix X z ex fz D dA p R s m args meth c Y c0 s0 → d + 1 ≤ R.frames → 30 + 40 * d ≤ R.locals → mm_In z ex D dA s M H locs → c0 ≤ M.1.length → s0 ≤ mm_sl M → Mf.1.length - c0 ≤ R.cells → mm_sl Mf - s0 ≤ R.slots → lv_has ls Y.2.2.2.1 (mm_ml' (mm_ad z ex) fz lv) →
  (∀ (pc' : Nat) (i : Instr) (st' : List Value) (H' : Heap) (locs' : List Loc) (ls' : Array Slot), decode Y.2.2.1 pc' = .ok (i, 1) → mm_ret Y.2.2.2.2 i st' = some r → mm_In z ex D dA s Mf H' locs' → W p l e R s m args below meth c H' locs' (Mf.1.length - c0) (mm_sl Mf - s0) Q (F0 m pc' ls' (mm_ms (mm_ad z ex) fz st'))) →
  W p l e R s m args below meth c H locs (M.1.length - c0) (mm_sl M - s0) Q (F0 m pc ls (mm_ms (mm_ad z ex) fz st))
set_option maxHeartbeats 4000000 in
theorem mm_met {l : Launch} {X : mm_C} {z : Nat} {ex : Nat → Nat} {fz : Value} {D : va_G} {dA : Nat → ClassId} {n : Nat} (hfz : fz.category = 1) (IH : mm_Sim l X z ex fz D dA n) {d : Nat} {Y : mm_Y} {as : List Value} {M : mm_M} {r : Option Value} {Mf : mm_M} (h : mm_run X n d Y 0 (lv_args 0 as) [] M = some (r, Mf)) (hy : plainFor Y.2.1 = true) (hc : Y.2.1.cls = mm_R Y.1) (hn : (lg_sl as).length ≤ Y.2.2.2.1) :
    Met l Y.2.1 (mm_ws Y) (mm_room d (Mf.1.length - M.1.length) (mm_sl Mf - mm_sl M)) (mm_Pc X z ex fz D dA as M) (mm_Qc z ex fz D dA r Mf) (Mf.1.length - M.1.length) (mm_sl Mf - mm_sl M) (mm_A z) := by
  refine va_MetF (cc := Y.2.2.1) (maxL := Y.2.2.2.1) (ret := Y.2.2.2.2) hy rfl ?_
  intro p e s m args below meth c s₁ B hml hv
  obtain ⟨rfl, hsz, hP, E⟩ := hv
  have hts := atoms_spec (ws := mm_ws Y) B.pre
  have hown : s.vm.findClass (mm_R Y.1) = some m.cls := by rw [← hc]; exact findClass_of_methodNamed B.named
  have hl := lv_entry (mm_ms (mm_ad z ex) fz as) (n := Y.2.2.2.1) (by rw [mm_lgsl _ _ hfz]; exact hn)
  rw [mm_args _ _ hfz] at hl
  rw [lg_entry_eq]
  have k := IH d Y 0 (lv_args 0 as) [] M r Mf h p e (mm_room d (Mf.1.length - M.1.length) (mm_sl Mf - mm_sl M)) s m (mm_ms (mm_ad z ex) fz as).toArray below meth c s.heap [] _ (MQ below (mm_Qc z ex fz D dA r Mf) (mm_ms (mm_ad z ex) fz as).toArray s (Mf.1.length - M.1.length) (mm_sl Mf - mm_sl M) (mm_A z)) M.1.length (mm_sl M)
    ⟨B.exec, B.bytes, hml, hfz, fun w hw => hts w (List.mem_cons_of_mem _ hw), hown, fun h => (name_of_methodNamed B.named B.method).1.trans h, E, hsz, Nat.le_add_left 1 d, Nat.le_add_right 30 _⟩ (Nat.le_refl _) (Nat.le_refl _) ⟨hP, va_S.rf⟩ (Nat.le_refl _) (Nat.le_refl _) (Nat.le_refl _) (Nat.le_refl _) hl
    (fun pc' i st' H' locs' ls' hd' hr' hI' => mm_s_ret B.exec B.bytes B.returns B.notSynchronized hI' hd' hr')
  rw [Nat.sub_self, Nat.sub_self] at k
  exact k
theorem mm_fit_inv {Y' : mm_Y} {as rest : List Value} (h : mm_fit Y' as rest = true) : (lg_sl as).length ≤ Y'.2.2.2.1 ∧ Y'.2.2.2.1 ≤ 20 ∧ (rest.map fun v => v.category).sum ≤ 8 := by
  unfold mm_fit at h
  simp only [Bool.and_eq_true, decide_eq_true_eq] at h
  exact ⟨h.1.1, h.1.2, h.2⟩
set_option maxHeartbeats 8000000 in
theorem mm_sim (l : Launch) (X : mm_C) (z : Nat) (ex : Nat → Nat) (fz : Value) (D : va_G) (dA : Nat → ClassId) : ∀ n, mm_Sim l X z ex fz D dA n := by
  intro n
  induction n with
  | zero => intro d Y pc lv st M r Mf h; exact mm_no h
  | succ n IH =>
    intro d Y pc lv st M r Mf h p e R s m args below meth c H locs ls Q c0 s0 F hfr hlo I hc0 hs0 hrc hrs hl hend
    obtain ⟨hx, hb, hml, hfz, hts, hown, hmn, E, hz0, hf1, hl30⟩ := id F
    unfold mm_run at h
    cases hdc : decode Y.2.2.1 pc with
    | error er => rw [hdc] at h; exact mm_no h
    | ok q =>
      obtain ⟨i, len⟩ := q
      rw [hdc] at h
      dsimp only at h
      cases hnx : mm_next X Y i len pc lv st M with
      | some o =>
        rw [hnx] at h
        dsimp only at h
        have hm1 := mm_next_M hnx
        have hm2 := mm_run_M X _ _ _ _ _ _ _ _ _ h
        exact mm_s_next F I hc0 hs0 hl hdc hnx ⟨by omega, by omega⟩ (fun H1 locs1 ls1 hI hl1 => IH d Y o.1 o.2.1 o.2.2.1 o.2.2.2 r Mf h p e R s m args below meth c H1 locs1 ls1 Q c0 s0 F hfr hlo hI (by omega) (by omega) hrc hrs hl1 hend)
      | none =>
        rw [hnx] at h
        dsimp only at h
        cases hcl : mm_call Y i st M with
        | some g =>
          obtain ⟨Y', as, rest⟩ := g
          rw [hcl] at h
          dsimp only at h
          cases d with
          | zero => exact mm_no h
          | succ d =>
            obtain ⟨hlen, hh⟩ := mm_ifs h
            clear h
            have h := hh
            clear hh
            subst hlen
            cases hr1 : mm_run X n d Y' 0 (lv_args 0 as) [] M with
            | none => rw [hr1] at h; exact mm_no h
            | some q1 =>
              obtain ⟨r1, M1⟩ := q1
              rw [hr1] at h
              dsimp only at h
              have hm1 := mm_run_M X _ _ _ _ _ _ _ _ _ hr1
              have hm2 := mm_run_M X _ _ _ _ _ _ _ _ _ h
              have cont : ∀ (H1 : Heap) (locs1 : List Loc), mm_In z ex D dA s M1 H1 locs1 → W p l e R s m args below meth c H1 locs1 (M.1.length - c0 + (M1.1.length - M.1.length)) (mm_sl M - s0 + (mm_sl M1 - mm_sl M)) Q (F0 m (pc + 3) ls ((r1.map (mm_v (mm_ad z ex) fz)).toList ++ mm_ms (mm_ad z ex) fz rest)) := by
                intro H1 locs1 hI
                have k := IH (d + 1) Y (pc + 3) lv (r1.toList ++ rest) M1 r Mf h p e R s m args below meth c H1 locs1 ls Q c0 s0 F hfr hlo hI (by omega) (by omega) hrc hrs hl hend
                rw [show M.1.length - c0 + (M1.1.length - M.1.length) = M1.1.length - c0 by omega, show mm_sl M - s0 + (mm_sl M1 - mm_sl M) = mm_sl M1 - s0 by omega]
                have e1 : (r1.map (mm_v (mm_ad z ex) fz)).toList ++ mm_ms (mm_ad z ex) fz rest = mm_ms (mm_ad z ex) fz (r1.toList ++ rest) := by
                  unfold mm_ms
                  cases r1 <;> rfl
                rw [e1]
                exact k
              have hroom : (M.1.length - c0 + (M1.1.length - M.1.length) ≤ R.cells ∧ mm_sl M - s0 + (mm_sl M1 - mm_sl M) ≤ R.slots) := ⟨by omega, by omega⟩
              refine mm_sized I hz0 hc0 (fun hz => ?_)
              have pre : ∀ U : State, U.heap = H → s.WarmedH U.vm → mm_Pc X z ex fz D dA as M (mm_ms (mm_ad z ex) fz as).toArray U := fun U hU hW => ⟨rfl, by rw [hU]; exact hz, by rw [hU]; exact I.1, by rw [hU]; exact mm_Env_warm hW I.2 E⟩
              have hsize : (F0 m pc ls (mm_ms (mm_ad z ex) fz st)).locals.size = Y.2.2.2.1 := hl.1
              have hRm : ∀ {mL : Nat}, mL ≤ 20 → (mm_room d (M1.1.length - M.1.length) (mm_sl M1 - mm_sl M)).frames + 1 ≤ R.frames ∧ 8 + (mL + 11) + (mm_room d (M1.1.length - M.1.length) (mm_sl M1 - mm_sl M)).locals ≤ R.locals := fun hm => ⟨hfr, by show 8 + (_ + 11) + (30 + 40 * d) ≤ _; omega⟩
              cases i with
              | invokevirtual cp =>
                obtain ⟨⟨kd, np, Y2⟩, hml2, h2⟩ := Option.bind_eq_some_iff.mp (show mm_cv Y cp st M = some (Y', as, rest) from hcl)
                dsimp only at h2
                cases hdr : st.drop np with
                | nil => rw [hdr] at h2; exact mm_no h2
                | cons v0 r0 =>
                  rw [hdr] at h2
                  cases v0 with
                  | ref a =>
                    obtain ⟨⟨hk0, hrcv, hfit⟩, h3⟩ := mm_ifs h2
                    have hk0 : kd = 0 := hk0
                    subst hk0
                    simp only [Option.some.injEq, Prod.mk.injEq] at h3
                    obtain ⟨q1, q2, q3⟩ := h3
                    subst q1
                    subst q2
                    subst q3
                    obtain ⟨p1, p2, p3, p4, p5, p6, p7, p8, p9, p10, p11, p12⟩ := mm_ml_ok hml2
                    obtain ⟨f1, f2, f3⟩ := mm_fit_inv hfit
                    have hM := mm_met hfz IH hr1 p4 p3 f1
                    have hst : mm_ms (mm_ad z ex) fz st = (mm_ms (mm_ad z ex) fz (st.take np).reverse).reverse ++ .ref (mm_ad z ex a) :: mm_ms (mm_ad z ex) fz r0 := by
                      have e0 : st = st.take np ++ .ref a :: r0 := by rw [← hdr, List.take_append_drop]
                      unfold mm_ms
                      rw [← List.map_reverse, List.reverse_reverse]
                      conv => lhs; rw [e0]
                      rw [List.map_append]
                      rfl
                    have hnp : (mm_ms (mm_ad z ex) fz (st.take np).reverse).length = np := by
                      unfold mm_ms
                      rw [List.length_map, List.length_reverse, List.length_take]
                      have : np < st.length := by
                        rcases Nat.lt_or_ge np st.length with w | w
                        · exact w
                        · rw [List.drop_eq_nil_of_le w] at hdr; cases hdr
                      omega
                    refine mm_go (va_runV (As := mm_ms (mm_ad z ex) fz (st.take np).reverse) (rest := mm_ms (mm_ad z ex) fz r0) (n := np) (C := Y2.2.1.cls) ⟨hx, hb, hml, hown, hts⟩ hM (cwV np hts (mm_goodc (L := [.methodLink (mm_R Y.1) cp Y2.2.1, .instanceMethod Y2.2.1, .selects Y2.2.1.cls Y2.2.1 Y2.2.1, .initialized Y2.2.1.cls, .code Y2.2.1 Y2.2.2.1 Y2.2.2.2.1 Y2.2.2.2.2]) ?_) rfl rfl rfl ⟨rfl, p5.1, p5.2, p6⟩ (hRm f2)) ⟨mm_Pc_blind, ?_, pre⟩ rfl hnp hsize hst (lv_room (by rw [mm_cats hfz]; exact f3)) hdc hroom) I cont
                    · intro w hw
                      simp only [List.mem_cons, List.not_mem_nil, or_false] at hw
                      rcases hw with rfl | rfl | rfl | rfl | rfl
                      · exact ⟨p8 (Nat.le_of_ble_eq_true rfl), rfl⟩
                      · exact ⟨(p9 rfl).1, rfl⟩
                      · exact ⟨(p9 rfl).2, rfl⟩
                      · exact ⟨by rw [show Y2.2.1.cls = mm_R Y2.1 from p3]; exact mm_ini p2, rfl⟩
                      · exact ⟨p7, rfl⟩
                    · unfold mm_rc at hrcv
                      rw [show Y2.2.1.cls = mm_R Y2.1 from p3]
                      by_cases ha : a < mm_ext
                      · rw [if_pos ha] at hrcv
                        obtain ⟨t1, t2⟩ := of_decide_eq_true hrcv
                        rw [mm_adl ha]
                        exact va_recv E.1 I.1 (mm_vw t2) (mm_wo t1 t2)
                      · rw [if_neg ha] at hrcv
                        obtain ⟨t1, t2, t3⟩ := of_decide_eq_true hrcv
                        rw [mm_adx ha, t1]
                        obtain ⟨x1, e10, -, -⟩ := mm_x10 t2 t3
                        have hs := (E.2.2.2.2.2.1 (a - mm_ext - 10) x1).2.1
                        rw [e10] at hs
                        obtain ⟨cell, q1, q2, q3, -⟩ := hs.kept I.2.2.1
                        exact ⟨cell, q1, q2, q3⟩
                  | _ => exact mm_no h2
              | invokestatic cp =>
                obtain ⟨⟨kd, np, Y2⟩, hml2, h2⟩ := Option.bind_eq_some_iff.mp (show mm_cs Y cp st = some (Y', as, rest) from hcl)
                obtain ⟨⟨hk, hnp, hfit⟩, h3⟩ := mm_ifs h2
                have hnp : np ≤ st.length := hnp
                simp only [Option.some.injEq, Prod.mk.injEq] at h3
                obtain ⟨q1, q2, q3⟩ := h3
                subst q1
                subst q2
                subst q3
                obtain ⟨p1, p2, p3, p4, p5, p6, p7, p8, p9, p10, p11, p12⟩ := mm_ml_ok hml2
                obtain ⟨f1, f2, f3⟩ := mm_fit_inv hfit
                have hM := mm_met hfz IH hr1 p4 p3 f1
                have hst : mm_ms (mm_ad z ex) fz st = (mm_ms (mm_ad z ex) fz (st.take np).reverse).reverse ++ mm_ms (mm_ad z ex) fz (st.drop np) := by
                  unfold mm_ms
                  rw [← List.map_reverse, List.reverse_reverse, ← List.map_append, List.take_append_drop]
                have hnp2 : (mm_ms (mm_ad z ex) fz (st.take np).reverse).length = np := by
                  unfold mm_ms
                  rw [List.length_map, List.length_reverse, List.length_take]
                  omega
                rcases hk with hk | hk
                · have hk : kd = 1 := hk
                  subst hk
                  refine mm_go (va_runS (As := mm_ms (mm_ad z ex) fz (st.take np).reverse) (rest := mm_ms (mm_ad z ex) fz (st.drop np)) (n := np) ⟨hx, hb, hml, hown, hts⟩ hM (va_cwS np hts (mm_goodc (L := [.methodLink (mm_R Y.1) cp Y2.2.1, .static Y2.2.1, .initialized Y2.2.1.cls, .code Y2.2.1 Y2.2.2.1 Y2.2.2.2.1 Y2.2.2.2.2]) ?_) rfl rfl rfl ⟨p5.1, p5.2, p6⟩ (hRm f2)) ⟨mm_Pc_blind, pre⟩ rfl hnp2 hsize hst (lv_room (by rw [mm_cats hfz]; exact f3)) hdc hroom) I cont
                  intro w hw
                  simp only [List.mem_cons, List.not_mem_nil, or_false] at hw
                  rcases hw with rfl | rfl | rfl | rfl
                  · exact ⟨p8 (Nat.le_of_ble_eq_true rfl), rfl⟩
                  · exact ⟨p10 (Or.inl rfl), rfl⟩
                  · exact ⟨by rw [show Y2.2.1.cls = mm_R Y2.1 from p3]; exact mm_ini p2, rfl⟩
                  · exact ⟨p7, rfl⟩
                · have hk : kd = 3 := hk
                  subst hk
                  obtain ⟨j, hj1, hj2⟩ := p12 (Nat.le_of_ble_eq_true rfl)
                  have hnw := E.2.2.2.2.2.2.2.1 _ hj2
                  have hj1 : Y2 = mm_yn j := hj1
                  dsimp only at hnw
                  rw [← hj1] at hnw
                  refine mm_go (va_runSN (As := mm_ms (mm_ad z ex) fz (st.take np).reverse) (rest := mm_ms (mm_ad z ex) fz (st.drop np)) (n := np) ⟨hx, hb, hml, hown, hts⟩ hM ⟨va_cnB np hts (mm_goodc (L := [.code Y2.2.1 Y2.2.2.1 Y2.2.2.2.1 Y2.2.2.2.2]) ?_) rfl rfl rfl hnw (hts _ (mm_in (by rw [show Y2.2.1.cls = mm_R Y2.1 from p3]; exact mm_ini p2) rfl)) ⟨p5.1, p5.2, p6⟩ (hRm f2), hts _ (mm_in (p10 (Or.inr rfl)) rfl), trivial⟩ ⟨mm_Pc_blind, pre⟩ rfl hnp2 hsize hst (lv_room (by rw [mm_cats hfz]; exact f3)) hdc hroom) I cont
                  intro w hw
                  rw [List.mem_singleton.mp hw]
                  exact ⟨p7, rfl⟩
              | invokespecial cp =>
                obtain ⟨⟨kd, np, Y2⟩, hml2, h2⟩ := Option.bind_eq_some_iff.mp (show mm_ci Y cp st = some (Y', as, rest) from hcl)
                dsimp only at h2
                cases hdr : st.drop np with
                | nil => rw [hdr] at h2; exact mm_no h2
                | cons v0 r0 =>
                  rw [hdr] at h2
                  cases v0 with
                  | ref a =>
                    obtain ⟨⟨hk, hfit⟩, h3⟩ := mm_ifs h2
                    simp only [Option.some.injEq, Prod.mk.injEq] at h3
                    obtain ⟨q1, q2, q3⟩ := h3
                    subst q1
                    subst q2
                    subst q3
                    obtain ⟨p1, p2, p3, p4, p5, p6, p7, p8, p9, p10, p11, p12⟩ := mm_ml_ok hml2
                    obtain ⟨f1, f2, f3⟩ := mm_fit_inv hfit
                    have hM := mm_met hfz IH hr1 p4 p3 f1
                    have hst : mm_ms (mm_ad z ex) fz st = (mm_ms (mm_ad z ex) fz (st.take np).reverse).reverse ++ .ref (mm_ad z ex a) :: mm_ms (mm_ad z ex) fz r0 := by
                      have e0 : st = st.take np ++ .ref a :: r0 := by rw [← hdr, List.take_append_drop]
                      unfold mm_ms
                      rw [← List.map_reverse, List.reverse_reverse]
                      conv => lhs; rw [e0]
                      rw [List.map_append]
                      rfl
                    have hnp : (mm_ms (mm_ad z ex) fz (st.take np).reverse).length = np := by
                      unfold mm_ms
                      rw [List.length_map, List.length_reverse, List.length_take]
                      have : np < st.length := by
                        rcases Nat.lt_or_ge np st.length with w | w
                        · exact w
                        · rw [List.drop_eq_nil_of_le w] at hdr; cases hdr
                      omega
                    obtain ⟨p11a, p11b, p11c⟩ := p11 hk
                    have hret : Y2.2.2.2.2 = none := p11c
                    have hwsY : mm_ws Y2 = Cond.code Y2.2.1 Y2.2.2.1 Y2.2.2.2.1 none :: mm_gt := by unfold mm_ws; rw [hret]
                    have p7 : Cond.code Y2.2.1 Y2.2.2.1 Y2.2.2.2.1 none ∈ lw_tbl := by
                      have p7 : Cond.code Y2.2.1 Y2.2.2.1 Y2.2.2.2.1 Y2.2.2.2.2 ∈ lw_tbl := p7
                      rw [hret] at p7
                      exact p7
                    rw [hwsY] at hM
                    have hini : (Cond.initialized Y2.2.1.cls).before args s = true := hts _ (mm_in (by rw [show Y2.2.1.cls = mm_R Y2.1 from p3]; exact mm_ini p2) rfl)
                    have hgw : GoodIn mm_gt (Cond.code Y2.2.1 Y2.2.2.1 Y2.2.2.2.1 none :: mm_gt) := mm_goodc (L := [.code Y2.2.1 Y2.2.2.1 Y2.2.2.2.1 none]) (fun w hw => by rw [List.mem_singleton.mp hw]; exact ⟨p7, rfl⟩)
                    rcases hk with hk | hk
                    · have hk : kd = 2 := hk
                      subst hk
                      exact mm_go (va_runI (As := mm_ms (mm_ad z ex) fz (st.take np).reverse) (rest := mm_ms (mm_ad z ex) fz r0) (n := np) ⟨hx, hb, hml, hown, hts⟩ hM (cwI np hts hgw rfl rfl rfl hini (hts _ (mm_in (p8 (Nat.le_of_ble_eq_true rfl)) rfl)) (hts _ (mm_in p11a rfl)) p11b ⟨p5.1, p5.2, p6⟩ (hRm f2)) ⟨mm_Pc_blind, pre⟩ rfl hnp hsize hst (lv_room (by rw [mm_cats hfz]; exact f3)) hdc hroom) I cont
                    · have hk : kd = 4 := hk
                      subst hk
                      obtain ⟨j, hj1, hj2⟩ := p12 (Nat.le_of_ble_eq_true rfl)
                      have hnw := E.2.2.2.2.2.2.2.1 _ hj2
                      have hj1 : Y2 = mm_yn j := hj1
                      dsimp only at hnw
                      rw [← hj1] at hnw
                      exact mm_go (va_runIN (As := mm_ms (mm_ad z ex) fz (st.take np).reverse) (rest := mm_ms (mm_ad z ex) fz r0) (n := np) ⟨hx, hb, hml, hown, hts⟩ hM ⟨va_cnB np hts hgw rfl rfl rfl hnw hini ⟨p5.1, p5.2, p6⟩ (hRm f2), p11b, hts _ (mm_in p11a rfl)⟩ ⟨mm_Pc_blind, pre⟩ rfl hnp hsize hst (lv_room (by rw [mm_cats hfz]; exact f3)) hdc hroom) I cont
                  | _ => exact mm_no h2
              | _ => exact mm_no hcl
        | none =>
          rw [hcl] at h
          dsimp only at h
          cases hrt : mm_ret Y.2.2.2.2 i st with
          | none => rw [hrt] at h; exact mm_no h
          | some r1 =>
            rw [hrt] at h
            obtain ⟨hlen, hh⟩ := mm_ifs h
            clear h
            subst hlen
            cases hh
            exact hend pc i st H locs ls hdc hrt I
