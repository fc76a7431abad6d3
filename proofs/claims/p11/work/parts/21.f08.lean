def lp_X0_live_3 (p0 : Nat) (p1 : Nat) (p2 : Option Nat) (p3 : Int32) (K : fS → Option (fS)) : Nat → Int32 → fS → Option (fS)
  | 0, _, _ => none
  | n + 1, p4, S0 =>
    if p3 ≤ p4 then (K S0) else
    (match p2 with
    | none => ((f_X0_passHour p0 p1 S0).bind fun q3 =>
    lp_X0_live_3 p0 p1 p2 p3 K n (p4 + (1 : Int32)) q3)
    | some a2 => ((f_X0_obey p0 p1 a2 S0).bind fun q6 =>
    (f_X0_passHour p0 p1 q6).bind fun q9 =>
    lp_X0_live_3 p0 p1 p2 p3 K n (p4 + (1 : Int32)) q9))
set_option maxHeartbeats 4000000 in
set_option maxRecDepth 100000 in
theorem ok_lp_X0_live_3 {X : mm_C} {RR : Nat → Nat → Option Nat} (hR : RRok RR) {p0 : Nat} {p1 : Nat} {p2 : Option Nat} {p3 : Int32} (t0 : tg p0 = 0) (t1 : tg p1 = 8) (t2 : ∀ a, p2 = some a → tg a = 4) {K : fS → Option (fS)} {r : fS} (hK : ∀ (Sk : fS), K Sk = some r → mr X 4 mY_X0_live 30 [] [] (MM RR Sk) (none, MM RR r)) : ∀ (n : Nat) (p4 : Int32) (S0 : fS), lp_X0_live_3 p0 p1 p2 p3 K n p4 S0 = some r → mr X 4 mY_X0_live 3 [(0, .ref p0), (1, .ref p1), (2, mm_rv p2), (3, .int p3), (4, .int p4)] [] (MM RR S0) (none, MM RR r) := by
  intro n
  induction n with
  | zero => intro p4 S0 h; exact mm_no h
  | succ n ih =>
    intro p4 S0 h
    unfold lp_X0_live_3 at h
    refine mr_iload (pc' := 5) dX0_live_3 rfl rfl ?_
    refine mr_iload_n (pc' := 6) dX0_live_5 rfl rfl ?_
    by_cases c1 : p3 ≤ p4
    · rw [if_pos c1] at h
      refine mr_icmp_ge_t (t := 30) dX0_live_6 (by decide) c1 ?_
      exact mr_sub [] trivial rfl (hK _  h)
    · rw [if_neg c1] at h
      refine mr_icmp_ge_f (t := 30) (pc' := 9) dX0_live_6 (by decide) rfl c1 ?_
      refine mr_oload_n (pc' := 10) (x := p2) dX0_live_9 rfl rfl ?_
      cases p2 with
      | none =>
        refine mr_ifnull_n (t := 19) dX0_live_10 (by decide) ?_
        refine mr_aload_n (pc' := 20) dX0_live_19 rfl rfl ?_
        refine mr_aload_n (pc' := 21) dX0_live_20 rfl rfl ?_
        obtain ⟨q3, g4, h5⟩ := Option.bind_eq_some_iff.mp h
        refine mr_cv (pc' := 24) (a := p0) (d1 := 1) dX0_live_21 rfl rfl rfl rfl rfl t0 (by decide) rfl (by decide) (ok_X0_passHour hR t0 t1 g4) ?_
        show mr X _ _ 24 _ [] (MM RR q3) _
        refine mr_iinc (pc' := 27) (x' := (p4 + (1 : Int32))) (lv' := [(4, .int (p4 + (1 : Int32))), (0, .ref p0), (1, .ref p1), (2, .null), (3, .int p3)]) dX0_live_24 rfl (by decide) rfl rfl rfl ?_
        refine mr_goto (t := 3) dX0_live_27 (by decide) ?_
        exact mr_sub [(0, .ref p0), (1, .ref p1), (2, .null), (3, .int p3), (4, .int (p4 + (1 : Int32)))] ⟨rfl, rfl, rfl, rfl, rfl, trivial⟩ rfl (ih _ _  h5)
      | some a2 =>
        refine mr_ifnull_s (pc' := 13) dX0_live_10 rfl ?_
        refine mr_aload_n (pc' := 14) dX0_live_13 rfl rfl ?_
        refine mr_aload_n (pc' := 15) dX0_live_14 rfl rfl ?_
        refine mr_aload_n (pc' := 16) dX0_live_15 rfl rfl ?_
        obtain ⟨q6, g7, h8⟩ := Option.bind_eq_some_iff.mp h
        refine mr_cv (pc' := 19) (a := p0) (d1 := 3) dX0_live_16 rfl rfl rfl rfl rfl t0 (by decide) rfl (by decide) (ok_X0_obey hR t0 t1 (t2 a2 rfl) g7) ?_
        show mr X _ _ 19 _ [] (MM RR q6) _
        refine mr_aload_n (pc' := 20) dX0_live_19 rfl rfl ?_
        refine mr_aload_n (pc' := 21) dX0_live_20 rfl rfl ?_
        obtain ⟨q9, g10, h11⟩ := Option.bind_eq_some_iff.mp h8
        refine mr_cv (pc' := 24) (a := p0) (d1 := 1) dX0_live_21 rfl rfl rfl rfl rfl t0 (by decide) rfl (by decide) (ok_X0_passHour hR t0 t1 g10) ?_
        show mr X _ _ 24 _ [] (MM RR q9) _
        refine mr_iinc (pc' := 27) (x' := (p4 + (1 : Int32))) (lv' := [(4, .int (p4 + (1 : Int32))), (0, .ref p0), (1, .ref p1), (2, .ref a2), (3, .int p3)]) dX0_live_24 rfl (by decide) rfl rfl rfl ?_
        refine mr_goto (t := 3) dX0_live_27 (by decide) ?_
        exact mr_sub [(0, .ref p0), (1, .ref p1), (2, .ref a2), (3, .int p3), (4, .int (p4 + (1 : Int32)))] ⟨rfl, rfl, rfl, rfl, rfl, trivial⟩ rfl (ih _ _  h11)
def f_X0_live (v0 : Nat) (v1 : Nat) (v2 : Option Nat) (v3 : Int32) (S : fS) : Option (fS) :=
  lp_X0_live_3 v0 v1 v2 v3 (fun S12 => some S12) FU (0 : Int32) S
set_option maxHeartbeats 4000000 in
set_option maxRecDepth 100000 in
theorem ok_X0_live {X : mm_C} {RR : Nat → Nat → Option Nat} (hR : RRok RR) {v0 : Nat} {v1 : Nat} {v2 : Option Nat} {v3 : Int32} (t0 : tg v0 = 0) (t1 : tg v1 = 8) (t2 : ∀ a, v2 = some a → tg a = 4) {S : fS} {r : fS} (h : f_X0_live v0 v1 v2 v3 S = some r) : mr X 4 mY_X0_live 0 (lv_args 0 [.ref v0, .ref v1, mm_rv v2, .int v3]) [] (MM RR S) (none, MM RR r) := by
  unfold f_X0_live at h
  rw [show lv_args 0 [.ref v0, .ref v1, mm_rv v2, .int v3] = [(0, .ref v0), (1, .ref v1), (2, mm_rv v2), (3, .int v3)] from by cases v2 <;> rfl]
  refine mr_iconst (pc' := 1) (v := (0 : Int32)) dX0_live_0 rfl (by decide) ?_
  refine mr_istore (pc' := 3) (lv' := [(4, .int (0 : Int32)), (0, .ref v0), (1, .ref v1), (2, mm_rv v2), (3, .int v3)]) dX0_live_1 rfl (by decide) rfl ?_
  refine mr_sub [(0, .ref v0), (1, .ref v1), (2, mm_rv v2), (3, .int v3), (4, .int (0 : Int32))] ⟨rfl, rfl, rfl, rfl, rfl, trivial⟩ rfl ?_
  refine ok_lp_X0_live_3 hR t0 t1 t2 (fun S12 h13 => ?_) FU _ _  h
  obtain rfl := Option.some.inj h13
  exact mr_return dX0_live_30 rfl
def f_X10_tick (v1 : Int32) (v2 : Int32) (S : fS) : Option (Int32 × fS) :=
  (f_X10_isRuleOrNone v1 S).bind fun q1 =>
  if q1 = (0 : Int32) then (some ((-1 : Int32), S)) else
  ((f_X10_isFrom v2 (1 : Int32) (200 : Int32) S).bind fun q5 =>
  if q5 = (0 : Int32) then (some ((-1 : Int32), S)) else
  (if ((S.1 11 6) + v2) ≤ (9999 : Int32) then ((f_X10_ruleOrNull v1 S).bind fun q10 =>
  (f_X0_live 11 4 q10 v2 S).bind fun q13 =>
  some ((q13.1 11 6), q13)) else
  (some ((-1 : Int32), S))))
set_option maxHeartbeats 4000000 in
set_option maxRecDepth 100000 in
theorem ok_X10_tick {X : mm_C} {RR : Nat → Nat → Option Nat} (hR : RRok RR) {v1 : Int32} {v2 : Int32}  {S : fS} {r : Int32 × fS} (h : f_X10_tick v1 v2 S = some r) : mr X 5 mY_X10_tick 0 (lv_args 0 [.ref 0, .int v1, .int v2]) [] (MM RR S) (some (.int r.1), MM RR r.2) := by
  unfold f_X10_tick at h
  show mr X _ _ 0 [(0, .ref 0), (1, .int v1), (2, .int v2)] [] (MM RR S) _
  refine mr_aload_n (pc' := 1) dX10_tick_0 rfl rfl ?_
  refine mr_getR (pc' := 4) (ci := 10) (j := 1) (b := 3) hR dX10_tick_1 rfl rfl rfl (by decide) (by decide) (by decide) rfl rfl ?_
  refine mr_getR (pc' := 7) (ci := 6) (j := 1) (b := 11) hR dX10_tick_4 rfl rfl rfl (by decide) (by decide) (by decide) rfl rfl ?_
  refine mr_astore_n (pc' := 8) (lv' := [(3, .ref 11), (0, .ref 0), (1, .int v1), (2, .int v2)]) dX10_tick_7 rfl (by decide) rfl ?_
  refine mr_aload_n (pc' := 9) dX10_tick_8 rfl rfl ?_
  refine mr_iload_n (pc' := 10) dX10_tick_9 rfl rfl ?_
  obtain ⟨q1, g2, h3⟩ := Option.bind_eq_some_iff.mp h
  refine mr_cv (pc' := 13) (a := 0) (d1 := 1) dX10_tick_10 rfl rfl rfl rfl rfl rfl (by decide) rfl (by decide) (ok_X10_isRuleOrNone hR  g2) ?_
  show mr X _ _ 13 _ [.int q1] (MM RR S) _
  by_cases c4 : q1 = (0 : Int32)
  · rw [if_pos c4] at h3
    refine mr_if_eq_t (t := 39) dX10_tick_13 (by decide) c4 ?_
    refine mr_iconst (pc' := 40) (v := (-1 : Int32)) dX10_tick_39 rfl (by decide) ?_
    obtain rfl := Option.some.inj h3
    exact mr_ireturn dX10_tick_40 rfl
  · rw [if_neg c4] at h3
    refine mr_if_eq_f (t := 39) (pc' := 16) dX10_tick_13 (by decide) rfl c4 ?_
    refine mr_iload_n (pc' := 17) dX10_tick_16 rfl rfl ?_
    refine mr_iconst (pc' := 18) (v := (1 : Int32)) dX10_tick_17 rfl (by decide) ?_
    refine mr_sipush (pc' := 21) (v := (200 : Int32)) dX10_tick_18 rfl (by decide) ?_
    obtain ⟨q5, g6, h7⟩ := Option.bind_eq_some_iff.mp h3
    refine mr_cs (pc' := 24) (d1 := 0) dX10_tick_21 rfl rfl rfl rfl (by decide) (Nat.le_of_ble_eq_true rfl) rfl rfl rfl (by decide) (ok_X10_isFrom hR  g6) ?_
    show mr X _ _ 24 _ [.int q5] (MM RR S) _
    by_cases c8 : q5 = (0 : Int32)
    · rw [if_pos c8] at h7
      refine mr_if_eq_t (t := 39) dX10_tick_24 (by decide) c8 ?_
      refine mr_iconst (pc' := 40) (v := (-1 : Int32)) dX10_tick_39 rfl (by decide) ?_
      obtain rfl := Option.some.inj h7
      exact mr_ireturn dX10_tick_40 rfl
    · rw [if_neg c8] at h7
      refine mr_if_eq_f (t := 39) (pc' := 27) dX10_tick_24 (by decide) rfl c8 ?_
      refine mr_aload_n (pc' := 28) dX10_tick_27 rfl rfl ?_
      refine mr_getI (pc' := 31) (ci := 0) (j := 6) dX10_tick_28 rfl rfl rfl (by decide) (by decide) rfl ?_
      refine mr_iload_n (pc' := 32) dX10_tick_31 rfl rfl ?_
      refine mr_iadd (pc' := 33) dX10_tick_32 rfl ?_
      refine mr_sipush (pc' := 36) (v := (9999 : Int32)) dX10_tick_33 rfl (by decide) ?_
      by_cases c9 : ((S.1 11 6) + v2) ≤ (9999 : Int32)
      · rw [if_pos c9] at h7
        refine mr_icmp_le_t (t := 41) dX10_tick_36 (by decide) c9 ?_
        refine mr_aload_n (pc' := 42) dX10_tick_41 rfl rfl ?_
        refine mr_aload_n (pc' := 43) dX10_tick_42 rfl rfl ?_
        refine mr_getR (pc' := 46) (ci := 10) (j := 1) (b := 3) hR dX10_tick_43 rfl rfl rfl (by decide) (by decide) (by decide) rfl rfl ?_
        refine mr_getR (pc' := 49) (ci := 6) (j := 0) (b := 4) hR dX10_tick_46 rfl rfl rfl (by decide) (by decide) (by decide) rfl rfl ?_
        refine mr_aload_n (pc' := 50) dX10_tick_49 rfl rfl ?_
        refine mr_iload_n (pc' := 51) dX10_tick_50 rfl rfl ?_
        obtain ⟨q10, g11, h12⟩ := Option.bind_eq_some_iff.mp h7
        refine mr_cv (pc' := 54) (a := 0) (d1 := 1) dX10_tick_51 rfl rfl rfl rfl rfl rfl (by decide) rfl (by decide) (ok_X10_ruleOrNull hR  g11) ?_
        show mr X _ _ 54 _ [mm_rv q10, .ref 4, .ref 11] (MM RR S) _
        refine mr_iload_n (pc' := 55) dX10_tick_54 rfl rfl ?_
        obtain ⟨q13, g14, h15⟩ := Option.bind_eq_some_iff.mp h12
        refine mr_cv (pc' := 58) (a := 11) (d1 := 4) dX10_tick_55 rfl rfl rfl rfl rfl rfl (by decide) (by cases q10 <;> rfl) (by decide) (ok_X0_live hR rfl rfl (f_X10_ruleOrNull_tg g11) g14) ?_
        show mr X _ _ 58 _ [] (MM RR q13) _
        refine mr_aload_n (pc' := 59) dX10_tick_58 rfl rfl ?_
        refine mr_getI (pc' := 62) (ci := 0) (j := 6) dX10_tick_59 rfl rfl rfl (by decide) (by decide) rfl ?_
        obtain rfl := Option.some.inj h15
        exact mr_ireturn dX10_tick_62 rfl
      · rw [if_neg c9] at h7
        refine mr_icmp_le_f (t := 41) (pc' := 39) dX10_tick_36 (by decide) rfl c9 ?_
        refine mr_iconst (pc' := 40) (v := (-1 : Int32)) dX10_tick_39 rfl (by decide) ?_
        obtain rfl := Option.some.inj h7
        exact mr_ireturn dX10_tick_40 rfl
def f_X10_lookAhead (v1 : Int32) (v2 : Int32) (S : fS) : Option (fS) :=
  (f_X0_copyFrom 31 11 S).bind fun q1 =>
  (f_X10_ruleOrNull v1 q1).bind fun q4 =>
  (f_X0_live 31 4 q4 v2 q1).bind fun q7 =>
  some q7
set_option maxHeartbeats 4000000 in
set_option maxRecDepth 100000 in
theorem ok_X10_lookAhead {X : mm_C} {RR : Nat → Nat → Option Nat} (hR : RRok RR) {v1 : Int32} {v2 : Int32}  {S : fS} {r : fS} (h : f_X10_lookAhead v1 v2 S = some r) : mr X 5 mY_X10_lookAhead 0 (lv_args 0 [.ref 0, .int v1, .int v2]) [] (MM RR S) (none, MM RR r) := by
  unfold f_X10_lookAhead at h
  show mr X _ _ 0 [(0, .ref 0), (1, .int v1), (2, .int v2)] [] (MM RR S) _
  refine mr_aload_n (pc' := 1) dX10_lookAhead_0 rfl rfl ?_
  refine mr_getR (pc' := 4) (ci := 10) (j := 5) (b := 31) hR dX10_lookAhead_1 rfl rfl rfl (by decide) (by decide) (by decide) rfl rfl ?_
  refine mr_aload_n (pc' := 5) dX10_lookAhead_4 rfl rfl ?_
  refine mr_getR (pc' := 8) (ci := 10) (j := 1) (b := 3) hR dX10_lookAhead_5 rfl rfl rfl (by decide) (by decide) (by decide) rfl rfl ?_
  refine mr_getR (pc' := 11) (ci := 6) (j := 1) (b := 11) hR dX10_lookAhead_8 rfl rfl rfl (by decide) (by decide) (by decide) rfl rfl ?_
  obtain ⟨q1, g2, h3⟩ := Option.bind_eq_some_iff.mp h
  refine mr_cv (pc' := 14) (a := 31) (d1 := 0) dX10_lookAhead_11 rfl rfl rfl rfl rfl rfl (by decide) rfl (by decide) (ok_X0_copyFrom hR rfl rfl g2) ?_
  show mr X _ _ 14 _ [] (MM RR q1) _
  refine mr_aload_n (pc' := 15) dX10_lookAhead_14 rfl rfl ?_
  refine mr_getR (pc' := 18) (ci := 10) (j := 5) (b := 31) hR dX10_lookAhead_15 rfl rfl rfl (by decide) (by decide) (by decide) rfl rfl ?_
  refine mr_aload_n (pc' := 19) dX10_lookAhead_18 rfl rfl ?_
  refine mr_getR (pc' := 22) (ci := 10) (j := 1) (b := 3) hR dX10_lookAhead_19 rfl rfl rfl (by decide) (by decide) (by decide) rfl rfl ?_
  refine mr_getR (pc' := 25) (ci := 6) (j := 0) (b := 4) hR dX10_lookAhead_22 rfl rfl rfl (by decide) (by decide) (by decide) rfl rfl ?_
  refine mr_aload_n (pc' := 26) dX10_lookAhead_25 rfl rfl ?_
  refine mr_iload_n (pc' := 27) dX10_lookAhead_26 rfl rfl ?_
  obtain ⟨q4, g5, h6⟩ := Option.bind_eq_some_iff.mp h3
  refine mr_cv (pc' := 30) (a := 0) (d1 := 1) dX10_lookAhead_27 rfl rfl rfl rfl rfl rfl (by decide) rfl (by decide) (ok_X10_ruleOrNull hR  g5) ?_
  show mr X _ _ 30 _ [mm_rv q4, .ref 4, .ref 31] (MM RR q1) _
  refine mr_iload_n (pc' := 31) dX10_lookAhead_30 rfl rfl ?_
  obtain ⟨q7, g8, h9⟩ := Option.bind_eq_some_iff.mp h6
  refine mr_cv (pc' := 34) (a := 31) (d1 := 4) dX10_lookAhead_31 rfl rfl rfl rfl rfl rfl (by decide) (by cases q4 <;> rfl) (by decide) (ok_X0_live hR rfl rfl (f_X10_ruleOrNull_tg g5) g8) ?_
  show mr X _ _ 34 _ [] (MM RR q7) _
  obtain rfl := Option.some.inj h9
  exact mr_return dX10_lookAhead_34 rfl
def lp_X0_accompanied_4 (p0 : Nat) (S : fS) (K : Int32 → Option (Int32)) : Nat → Int32 → Int32 → Option (Int32)
  | 0, _, _ => none
  | n + 1, p1, p2 =>
    if (S.1 p0 5) ≤ p2 then (K p1) else
    ((f_X0_isStanding p0 p2 S).bind fun q2 =>
    if q2 = (0 : Int32) then (lp_X0_accompanied_4 p0 S K n (p1 + (0 : Int32)) (p2 + (1 : Int32))) else
    ((gI S (p0 + 1) 8 p2).bind fun a6 =>
    (f_X0_standingOn p0 a6 S).bind fun q9 =>
    if q9 ≤ (1 : Int32) then (lp_X0_accompanied_4 p0 S K n (p1 + (0 : Int32)) (p2 + (1 : Int32))) else
    (lp_X0_accompanied_4 p0 S K n (p1 + (1 : Int32)) (p2 + (1 : Int32)))))
set_option maxHeartbeats 4000000 in
set_option maxRecDepth 100000 in
theorem ok_lp_X0_accompanied_4 {X : mm_C} {RR : Nat → Nat → Option Nat} (hR : RRok RR) {p0 : Nat} (t0 : tg p0 = 0) {S : fS} {K : Int32 → Option (Int32)} {r : Int32} (hK : ∀ (k1 : Int32), K k1 = some r → mr X 1 mY_X0_accompanied 48 [(1, .int k1)] [] (MM RR S) (some (.int r), MM RR S)) : ∀ (n : Nat) (p1 : Int32) (p2 : Int32), lp_X0_accompanied_4 p0 S K n p1 p2 = some r → mr X 1 mY_X0_accompanied 4 [(0, .ref p0), (1, .int p1), (2, .int p2)] [] (MM RR S) (some (.int r), MM RR S) := by
  intro n
  induction n with
  | zero => intro p1 p2 h; exact mm_no h
  | succ n ih =>
    intro p1 p2 h
    unfold lp_X0_accompanied_4 at h
    refine mr_iload_n (pc' := 5) dX0_accompanied_4 rfl rfl ?_
    refine mr_aload_n (pc' := 6) dX0_accompanied_5 rfl rfl ?_
    refine mr_getI (pc' := 9) (ci := 0) (j := 5) dX0_accompanied_6 rfl rfl t0 (by decide) (by decide) rfl ?_
    by_cases c1 : (S.1 p0 5) ≤ p2
    · rw [if_pos c1] at h
      refine mr_icmp_ge_t (t := 48) dX0_accompanied_9 (by decide) c1 ?_
      exact mr_sub [(1, .int p1)] ⟨rfl, trivial⟩ rfl (hK _  h)
    · rw [if_neg c1] at h
      refine mr_icmp_ge_f (t := 48) (pc' := 12) dX0_accompanied_9 (by decide) rfl c1 ?_
      refine mr_iload_n (pc' := 13) dX0_accompanied_12 rfl rfl ?_
      refine mr_aload_n (pc' := 14) dX0_accompanied_13 rfl rfl ?_
      refine mr_iload_n (pc' := 15) dX0_accompanied_14 rfl rfl ?_
      obtain ⟨q2, g3, h4⟩ := Option.bind_eq_some_iff.mp h
      refine mr_cv (pc' := 18) (a := p0) (d1 := 0) dX0_accompanied_15 rfl rfl rfl rfl rfl t0 (by decide) rfl (by decide) (ok_X0_isStanding hR t0 g3) ?_
      show mr X _ _ 18 _ [.int q2, .int p1] (MM RR S) _
      by_cases c5 : q2 = (0 : Int32)
      · rw [if_pos c5] at h4
        refine mr_if_eq_t (t := 39) dX0_accompanied_18 (by decide) c5 ?_
        refine mr_iconst (pc' := 40) (v := (0 : Int32)) dX0_accompanied_39 rfl (by decide) ?_
        refine mr_iadd (pc' := 41) dX0_accompanied_40 rfl ?_
        refine mr_istore_n (pc' := 42) (lv' := [(1, .int (p1 + (0 : Int32))), (0, .ref p0), (2, .int p2)]) dX0_accompanied_41 rfl (by decide) rfl ?_
        refine mr_iinc (pc' := 45) (x' := (p2 + (1 : Int32))) (lv' := [(2, .int (p2 + (1 : Int32))), (1, .int (p1 + (0 : Int32))), (0, .ref p0)]) dX0_accompanied_42 rfl (by decide) rfl rfl rfl ?_
        refine mr_goto (t := 4) dX0_accompanied_45 (by decide) ?_
        exact mr_sub [(0, .ref p0), (1, .int (p1 + (0 : Int32))), (2, .int (p2 + (1 : Int32)))] ⟨rfl, rfl, rfl, trivial⟩ rfl (ih _ _  h4)
      · rw [if_neg c5] at h4
        refine mr_if_eq_f (t := 39) (pc' := 21) dX0_accompanied_18 (by decide) rfl c5 ?_
        refine mr_aload_n (pc' := 22) dX0_accompanied_21 rfl rfl ?_
        refine mr_aload_n (pc' := 23) dX0_accompanied_22 rfl rfl ?_
        refine mr_getR (pc' := 26) (ci := 0) (j := 0) (b := (p0 + 1)) hR dX0_accompanied_23 rfl rfl t0 (by decide) (by decide) (by decide) rfl (ly0_0 t0).1 ?_
        refine mr_iload_n (pc' := 27) dX0_accompanied_26 rfl rfl ?_
        obtain ⟨a6, g7, h8⟩ := Option.bind_eq_some_iff.mp h4
        refine mr_iald (pc' := 28) dX0_accompanied_27 rfl (ly0_0 t0).2.1 (ly0_0 t0).2.2 g7 ?_
        obtain ⟨q9, g10, h11⟩ := Option.bind_eq_some_iff.mp h8
        refine mr_cv (pc' := 31) (a := p0) (d1 := 0) dX0_accompanied_28 rfl rfl rfl rfl rfl t0 (by decide) rfl (by decide) (ok_X0_standingOn hR t0 g10) ?_
        show mr X _ _ 31 _ [.int q9, .int p1] (MM RR S) _
        refine mr_iconst (pc' := 32) (v := (1 : Int32)) dX0_accompanied_31 rfl (by decide) ?_
        by_cases c12 : q9 ≤ (1 : Int32)
        · rw [if_pos c12] at h11
          refine mr_icmp_le_t (t := 39) dX0_accompanied_32 (by decide) c12 ?_
          refine mr_iconst (pc' := 40) (v := (0 : Int32)) dX0_accompanied_39 rfl (by decide) ?_
          refine mr_iadd (pc' := 41) dX0_accompanied_40 rfl ?_
          refine mr_istore_n (pc' := 42) (lv' := [(1, .int (p1 + (0 : Int32))), (0, .ref p0), (2, .int p2)]) dX0_accompanied_41 rfl (by decide) rfl ?_
          refine mr_iinc (pc' := 45) (x' := (p2 + (1 : Int32))) (lv' := [(2, .int (p2 + (1 : Int32))), (1, .int (p1 + (0 : Int32))), (0, .ref p0)]) dX0_accompanied_42 rfl (by decide) rfl rfl rfl ?_
          refine mr_goto (t := 4) dX0_accompanied_45 (by decide) ?_
          exact mr_sub [(0, .ref p0), (1, .int (p1 + (0 : Int32))), (2, .int (p2 + (1 : Int32)))] ⟨rfl, rfl, rfl, trivial⟩ rfl (ih _ _  h11)
        · rw [if_neg c12] at h11
          refine mr_icmp_le_f (t := 39) (pc' := 35) dX0_accompanied_32 (by decide) rfl c12 ?_
          refine mr_iconst (pc' := 36) (v := (1 : Int32)) dX0_accompanied_35 rfl (by decide) ?_
          refine mr_goto (t := 40) dX0_accompanied_36 (by decide) ?_
          refine mr_iadd (pc' := 41) dX0_accompanied_40 rfl ?_
          refine mr_istore_n (pc' := 42) (lv' := [(1, .int (p1 + (1 : Int32))), (0, .ref p0), (2, .int p2)]) dX0_accompanied_41 rfl (by decide) rfl ?_
          refine mr_iinc (pc' := 45) (x' := (p2 + (1 : Int32))) (lv' := [(2, .int (p2 + (1 : Int32))), (1, .int (p1 + (1 : Int32))), (0, .ref p0)]) dX0_accompanied_42 rfl (by decide) rfl rfl rfl ?_
          refine mr_goto (t := 4) dX0_accompanied_45 (by decide) ?_
          exact mr_sub [(0, .ref p0), (1, .int (p1 + (1 : Int32))), (2, .int (p2 + (1 : Int32)))] ⟨rfl, rfl, rfl, trivial⟩ rfl (ih _ _  h11)
def f_X0_accompanied (v0 : Nat) (S : fS) : Option (Int32) :=
  lp_X0_accompanied_4 v0 S (fun u13 => some u13) FU (0 : Int32) (0 : Int32)
set_option maxHeartbeats 4000000 in
set_option maxRecDepth 100000 in
theorem ok_X0_accompanied {X : mm_C} {RR : Nat → Nat → Option Nat} (hR : RRok RR) {v0 : Nat} (t0 : tg v0 = 0) {S : fS} {r : Int32} (h : f_X0_accompanied v0 S = some r) : mr X 1 mY_X0_accompanied 0 (lv_args 0 [.ref v0]) [] (MM RR S) (some (.int r), MM RR S) := by
  unfold f_X0_accompanied at h
  show mr X _ _ 0 [(0, .ref v0)] [] (MM RR S) _
  refine mr_iconst (pc' := 1) (v := (0 : Int32)) dX0_accompanied_0 rfl (by decide) ?_
  refine mr_istore_n (pc' := 2) (lv' := [(1, .int (0 : Int32)), (0, .ref v0)]) dX0_accompanied_1 rfl (by decide) rfl ?_
  refine mr_iconst (pc' := 3) (v := (0 : Int32)) dX0_accompanied_2 rfl (by decide) ?_
  refine mr_istore_n (pc' := 4) (lv' := [(2, .int (0 : Int32)), (1, .int (0 : Int32)), (0, .ref v0)]) dX0_accompanied_3 rfl (by decide) rfl ?_
  refine mr_sub [(0, .ref v0), (1, .int (0 : Int32)), (2, .int (0 : Int32))] ⟨rfl, rfl, rfl, trivial⟩ rfl ?_
  refine ok_lp_X0_accompanied_4 hR t0 (fun u13 h14 => ?_) FU _ _  h
  refine mr_iload_n (pc' := 49) dX0_accompanied_48 rfl rfl ?_
  obtain rfl := Option.some.inj h14
  exact mr_ireturn dX0_accompanied_49 rfl
def f_X10_ahead (v1 : Int32) (v2 : Int32) (v3 : Int32) (v4 : Int32) (S : fS) : Option (Int64 × fS) :=
  (f_X10_isFrom v1 (0 : Int32) ((S.1 0 10) - (1 : Int32)) S).bind fun q1 =>
  if q1 = (0 : Int32) then (some ((-1 : Int64), S)) else
  ((f_X10_isFrom v2 (0 : Int32) (200 : Int32) S).bind fun q5 =>
  if q5 = (0 : Int32) then (some ((-1 : Int64), S)) else
  ((f_X10_isThing v3 S).bind fun q9 =>
  if q9 = (0 : Int32) then (some ((-1 : Int64), S)) else
  ((f_X10_isFrom v4 (0 : Int32) (3 : Int32) S).bind fun q13 =>
  if q13 = (0 : Int32) then (some ((-1 : Int64), S)) else
  ((f_X10_lookAhead v1 v2 S).bind fun q17 =>
  if v4 = (0 : Int32) then ((f_X0_isStanding 31 v3 q17).bind fun q31 =>
  if q31 = (0 : Int32) then (some ((-2 : Int64), q17)) else
  ((gI q17 32 8 v3).bind fun a35 =>
  some ((Int32.toInt64 a35), q17))) else
  (if v4 = (3 : Int32) then ((f_X0_accompanied 31 q17).bind fun q28 =>
  some ((Int32.toInt64 q28), q17)) else
  ((gL q17 36 8 v3).bind fun a22 =>
  (f_X10_lowest a22 (232792560 : Int64) (v4 - (1 : Int32)) q17).bind fun q25 =>
  some (q25, q17)))))))
set_option maxHeartbeats 4000000 in
set_option maxRecDepth 100000 in
theorem ok_X10_ahead {X : mm_C} {RR : Nat → Nat → Option Nat} (hR : RRok RR) {v1 : Int32} {v2 : Int32} {v3 : Int32} {v4 : Int32}  {S : fS} {r : Int64 × fS} (h : f_X10_ahead v1 v2 v3 v4 S = some r) : mr X 6 mY_X10_ahead 0 (lv_args 0 [.ref 0, .int v1, .int v2, .int v3, .int v4]) [] (MM RR S) (some (.long r.1), MM RR r.2) := by
  unfold f_X10_ahead at h
  show mr X _ _ 0 [(0, .ref 0), (1, .int v1), (2, .int v2), (3, .int v3), (4, .int v4)] [] (MM RR S) _
  refine mr_iload_n (pc' := 1) dX10_ahead_0 rfl rfl ?_
  refine mr_iconst (pc' := 2) (v := (0 : Int32)) dX10_ahead_1 rfl (by decide) ?_
  refine mr_aload_n (pc' := 3) dX10_ahead_2 rfl rfl ?_
  refine mr_getI (pc' := 6) (ci := 10) (j := 10) dX10_ahead_3 rfl rfl rfl (by decide) (by decide) rfl ?_
  refine mr_iconst (pc' := 7) (v := (1 : Int32)) dX10_ahead_6 rfl (by decide) ?_
  refine mr_isub (pc' := 8) dX10_ahead_7 rfl ?_
  obtain ⟨q1, g2, h3⟩ := Option.bind_eq_some_iff.mp h
  refine mr_cs (pc' := 11) (d1 := 0) dX10_ahead_8 rfl rfl rfl rfl (by decide) (Nat.le_of_ble_eq_true rfl) rfl rfl rfl (by decide) (ok_X10_isFrom hR  g2) ?_
  show mr X _ _ 11 _ [.int q1] (MM RR S) _
  by_cases c4 : q1 = (0 : Int32)
  · rw [if_pos c4] at h3
    refine mr_if_eq_t (t := 25) dX10_ahead_11 (by decide) c4 ?_
    refine mr_ldc2 (pc' := 28) (v := (-1 : Int64)) dX10_ahead_25 rfl rfl ?_
    obtain rfl := Option.some.inj h3
    exact mr_lreturn dX10_ahead_28 rfl
  · rw [if_neg c4] at h3
    refine mr_if_eq_f (t := 25) (pc' := 14) dX10_ahead_11 (by decide) rfl c4 ?_
    refine mr_iload_n (pc' := 15) dX10_ahead_14 rfl rfl ?_
    refine mr_iconst (pc' := 16) (v := (0 : Int32)) dX10_ahead_15 rfl (by decide) ?_
    refine mr_sipush (pc' := 19) (v := (200 : Int32)) dX10_ahead_16 rfl (by decide) ?_
    obtain ⟨q5, g6, h7⟩ := Option.bind_eq_some_iff.mp h3
    refine mr_cs (pc' := 22) (d1 := 0) dX10_ahead_19 rfl rfl rfl rfl (by decide) (Nat.le_of_ble_eq_true rfl) rfl rfl rfl (by decide) (ok_X10_isFrom hR  g6) ?_
    show mr X _ _ 22 _ [.int q5] (MM RR S) _
    by_cases c8 : q5 = (0 : Int32)
    · rw [if_pos c8] at h7
      refine mr_if_ne_f (t := 29) (pc' := 25) dX10_ahead_22 (by decide) rfl (not_not_intro c8) ?_
      refine mr_ldc2 (pc' := 28) (v := (-1 : Int64)) dX10_ahead_25 rfl rfl ?_
      obtain rfl := Option.some.inj h7
      exact mr_lreturn dX10_ahead_28 rfl
    · rw [if_neg c8] at h7
      refine mr_if_ne_t (t := 29) dX10_ahead_22 (by decide) c8 ?_
      refine mr_aload_n (pc' := 30) dX10_ahead_29 rfl rfl ?_
      refine mr_iload_n (pc' := 31) dX10_ahead_30 rfl rfl ?_
      obtain ⟨q9, g10, h11⟩ := Option.bind_eq_some_iff.mp h7
      refine mr_cv (pc' := 34) (a := 0) (d1 := 1) dX10_ahead_31 rfl rfl rfl rfl rfl rfl (by decide) rfl (by decide) (ok_X10_isThing hR  g10) ?_
      show mr X _ _ 34 _ [.int q9] (MM RR S) _
      by_cases c12 : q9 = (0 : Int32)
      · rw [if_pos c12] at h11
        refine mr_if_eq_t (t := 47) dX10_ahead_34 (by decide) c12 ?_
        refine mr_ldc2 (pc' := 50) (v := (-1 : Int64)) dX10_ahead_47 rfl rfl ?_
        obtain rfl := Option.some.inj h11
        exact mr_lreturn dX10_ahead_50 rfl
      · rw [if_neg c12] at h11
        refine mr_if_eq_f (t := 47) (pc' := 37) dX10_ahead_34 (by decide) rfl c12 ?_
        refine mr_iload (pc' := 39) dX10_ahead_37 rfl rfl ?_
        refine mr_iconst (pc' := 40) (v := (0 : Int32)) dX10_ahead_39 rfl (by decide) ?_
        refine mr_iconst (pc' := 41) (v := (3 : Int32)) dX10_ahead_40 rfl (by decide) ?_
        obtain ⟨q13, g14, h15⟩ := Option.bind_eq_some_iff.mp h11
        refine mr_cs (pc' := 44) (d1 := 0) dX10_ahead_41 rfl rfl rfl rfl (by decide) (Nat.le_of_ble_eq_true rfl) rfl rfl rfl (by decide) (ok_X10_isFrom hR  g14) ?_
        show mr X _ _ 44 _ [.int q13] (MM RR S) _
        by_cases c16 : q13 = (0 : Int32)
        · rw [if_pos c16] at h15
          refine mr_if_ne_f (t := 51) (pc' := 47) dX10_ahead_44 (by decide) rfl (not_not_intro c16) ?_
          refine mr_ldc2 (pc' := 50) (v := (-1 : Int64)) dX10_ahead_47 rfl rfl ?_
          obtain rfl := Option.some.inj h15
          exact mr_lreturn dX10_ahead_50 rfl
        · rw [if_neg c16] at h15
          refine mr_if_ne_t (t := 51) dX10_ahead_44 (by decide) c16 ?_
          refine mr_aload_n (pc' := 52) dX10_ahead_51 rfl rfl ?_
          refine mr_iload_n (pc' := 53) dX10_ahead_52 rfl rfl ?_
          refine mr_iload_n (pc' := 54) dX10_ahead_53 rfl rfl ?_
          obtain ⟨q17, g18, h19⟩ := Option.bind_eq_some_iff.mp h15
          refine mr_cv (pc' := 57) (a := 0) (d1 := 5) dX10_ahead_54 rfl rfl rfl rfl rfl rfl (by decide) rfl (by decide) (ok_X10_lookAhead hR  g18) ?_
          show mr X _ _ 57 _ [] (MM RR q17) _
          refine mr_iload (pc' := 59) dX10_ahead_57 rfl rfl ?_
          by_cases c20 : v4 = (0 : Int32)
          · rw [if_pos c20] at h19
            refine mr_if_ne_f (t := 90) (pc' := 62) dX10_ahead_59 (by decide) rfl (not_not_intro c20) ?_
            refine mr_aload_n (pc' := 63) dX10_ahead_62 rfl rfl ?_
            refine mr_getR (pc' := 66) (ci := 10) (j := 5) (b := 31) hR dX10_ahead_63 rfl rfl rfl (by decide) (by decide) (by decide) rfl rfl ?_
            refine mr_iload_n (pc' := 67) dX10_ahead_66 rfl rfl ?_
            obtain ⟨q31, g32, h33⟩ := Option.bind_eq_some_iff.mp h19
            refine mr_cv (pc' := 70) (a := 31) (d1 := 0) dX10_ahead_67 rfl rfl rfl rfl rfl rfl (by decide) rfl (by decide) (ok_X0_isStanding hR rfl g32) ?_
            show mr X _ _ 70 _ [.int q31] (MM RR q17) _
            by_cases c34 : q31 = (0 : Int32)
            · rw [if_pos c34] at h33
              refine mr_if_eq_t (t := 86) dX10_ahead_70 (by decide) c34 ?_
              refine mr_ldc2 (pc' := 89) (v := (-2 : Int64)) dX10_ahead_86 rfl rfl ?_
              obtain rfl := Option.some.inj h33
              exact mr_lreturn dX10_ahead_89 rfl
            · rw [if_neg c34] at h33
              refine mr_if_eq_f (t := 86) (pc' := 73) dX10_ahead_70 (by decide) rfl c34 ?_
              refine mr_aload_n (pc' := 74) dX10_ahead_73 rfl rfl ?_
              refine mr_getR (pc' := 77) (ci := 10) (j := 5) (b := 31) hR dX10_ahead_74 rfl rfl rfl (by decide) (by decide) (by decide) rfl rfl ?_
              refine mr_getR (pc' := 80) (ci := 0) (j := 0) (b := 32) hR dX10_ahead_77 rfl rfl rfl (by decide) (by decide) (by decide) rfl rfl ?_
              refine mr_iload_n (pc' := 81) dX10_ahead_80 rfl rfl ?_
              obtain ⟨a35, g36, h37⟩ := Option.bind_eq_some_iff.mp h33
              refine mr_iald (pc' := 82) dX10_ahead_81 rfl rfl rfl g36 ?_
              refine mr_i2l (pc' := 83) dX10_ahead_82 rfl ?_
              refine mr_goto (t := 89) dX10_ahead_83 (by decide) ?_
              obtain rfl := Option.some.inj h37
              exact mr_lreturn dX10_ahead_89 rfl
          · rw [if_neg c20] at h19
            refine mr_if_ne_t (t := 90) dX10_ahead_59 (by decide) c20 ?_
            refine mr_iload (pc' := 92) dX10_ahead_90 rfl rfl ?_
            refine mr_iconst (pc' := 93) (v := (3 : Int32)) dX10_ahead_92 rfl (by decide) ?_
            by_cases c21 : v4 = (3 : Int32)
            · rw [if_pos c21] at h19
              refine mr_icmp_ne_f (t := 105) (pc' := 96) dX10_ahead_93 (by decide) rfl (not_not_intro c21) ?_
              refine mr_aload_n (pc' := 97) dX10_ahead_96 rfl rfl ?_
              refine mr_getR (pc' := 100) (ci := 10) (j := 5) (b := 31) hR dX10_ahead_97 rfl rfl rfl (by decide) (by decide) (by decide) rfl rfl ?_
              obtain ⟨q28, g29, h30⟩ := Option.bind_eq_some_iff.mp h19
              refine mr_cv (pc' := 103) (a := 31) (d1 := 1) dX10_ahead_100 rfl rfl rfl rfl rfl rfl (by decide) rfl (by decide) (ok_X0_accompanied hR rfl g29) ?_
              show mr X _ _ 103 _ [.int q28] (MM RR q17) _
              refine mr_i2l (pc' := 104) dX10_ahead_103 rfl ?_
              obtain rfl := Option.some.inj h30
              exact mr_lreturn dX10_ahead_104 rfl
            · rw [if_neg c21] at h19
              refine mr_icmp_ne_t (t := 105) dX10_ahead_93 (by decide) c21 ?_
              refine mr_aload_n (pc' := 106) dX10_ahead_105 rfl rfl ?_
              refine mr_getR (pc' := 109) (ci := 10) (j := 5) (b := 31) hR dX10_ahead_106 rfl rfl rfl (by decide) (by decide) (by decide) rfl rfl ?_
              refine mr_getR (pc' := 112) (ci := 0) (j := 4) (b := 36) hR dX10_ahead_109 rfl rfl rfl (by decide) (by decide) (by decide) rfl rfl ?_
              refine mr_iload_n (pc' := 113) dX10_ahead_112 rfl rfl ?_
              obtain ⟨a22, g23, h24⟩ := Option.bind_eq_some_iff.mp h19
              refine mr_lald (pc' := 114) dX10_ahead_113 rfl rfl rfl g23 ?_
              refine mr_ldc2 (pc' := 117) (v := (232792560 : Int64)) dX10_ahead_114 rfl rfl ?_
              refine mr_iload (pc' := 119) dX10_ahead_117 rfl rfl ?_
              refine mr_iconst (pc' := 120) (v := (1 : Int32)) dX10_ahead_119 rfl (by decide) ?_
              refine mr_isub (pc' := 121) dX10_ahead_120 rfl ?_
              obtain ⟨q25, g26, h27⟩ := Option.bind_eq_some_iff.mp h24
              refine mr_cs (pc' := 124) (d1 := 2) dX10_ahead_121 rfl rfl rfl rfl (by decide) (Nat.le_of_ble_eq_true rfl) rfl rfl rfl (by decide) (ok_X10_lowest hR  g26) ?_
              show mr X _ _ 124 _ [.long q25] (MM RR q17) _
              obtain rfl := Option.some.inj h27
              exact mr_lreturn dX10_ahead_124 rfl
def f_X10_far (v1 : Int32) (v2 : Int32) (S : fS) : Option (Int32) :=
  (f_X10_isFloor v1 S).bind fun q1 =>
  if q1 = (0 : Int32) then (some (-1 : Int32)) else
  ((f_X10_isFloor v2 S).bind fun q5 =>
  if q5 = (0 : Int32) then (some (-1 : Int32)) else
  ((f_X8_hoursBetween 4 v1 v2 S).bind fun q9 =>
  if (0 : Int32) ≤ q9 then (some q9) else
  (some (-2 : Int32))))
set_option maxHeartbeats 4000000 in
set_option maxRecDepth 100000 in
theorem ok_X10_far {X : mm_C} {RR : Nat → Nat → Option Nat} (hR : RRok RR) {v1 : Int32} {v2 : Int32}  {S : fS} {r : Int32} (h : f_X10_far v1 v2 S = some r) : mr X 2 mY_X10_far 0 (lv_args 0 [.ref 0, .int v1, .int v2]) [] (MM RR S) (some (.int r), MM RR S) := by
  unfold f_X10_far at h
  show mr X _ _ 0 [(0, .ref 0), (1, .int v1), (2, .int v2)] [] (MM RR S) _
  refine mr_aload_n (pc' := 1) dX10_far_0 rfl rfl ?_
  refine mr_iload_n (pc' := 2) dX10_far_1 rfl rfl ?_
  obtain ⟨q1, g2, h3⟩ := Option.bind_eq_some_iff.mp h
  refine mr_cv (pc' := 5) (a := 0) (d1 := 1) dX10_far_2 rfl rfl rfl rfl rfl rfl (by decide) rfl (by decide) (ok_X10_isFloor hR  g2) ?_
  show mr X _ _ 5 _ [.int q1] (MM RR S) _
  by_cases c4 : q1 = (0 : Int32)
  · rw [if_pos c4] at h3
    refine mr_if_eq_t (t := 16) dX10_far_5 (by decide) c4 ?_
    refine mr_iconst (pc' := 17) (v := (-1 : Int32)) dX10_far_16 rfl (by decide) ?_
    obtain rfl := Option.some.inj h3
    exact mr_ireturn dX10_far_17 rfl
  · rw [if_neg c4] at h3
    refine mr_if_eq_f (t := 16) (pc' := 8) dX10_far_5 (by decide) rfl c4 ?_
    refine mr_aload_n (pc' := 9) dX10_far_8 rfl rfl ?_
    refine mr_iload_n (pc' := 10) dX10_far_9 rfl rfl ?_
    obtain ⟨q5, g6, h7⟩ := Option.bind_eq_some_iff.mp h3
    refine mr_cv (pc' := 13) (a := 0) (d1 := 1) dX10_far_10 rfl rfl rfl rfl rfl rfl (by decide) rfl (by decide) (ok_X10_isFloor hR  g6) ?_
    show mr X _ _ 13 _ [.int q5] (MM RR S) _
    by_cases c8 : q5 = (0 : Int32)
    · rw [if_pos c8] at h7
      refine mr_if_ne_f (t := 18) (pc' := 16) dX10_far_13 (by decide) rfl (not_not_intro c8) ?_
      refine mr_iconst (pc' := 17) (v := (-1 : Int32)) dX10_far_16 rfl (by decide) ?_
      obtain rfl := Option.some.inj h7
      exact mr_ireturn dX10_far_17 rfl
    · rw [if_neg c8] at h7
      refine mr_if_ne_t (t := 18) dX10_far_13 (by decide) c8 ?_
      refine mr_aload_n (pc' := 19) dX10_far_18 rfl rfl ?_
      refine mr_getR (pc' := 22) (ci := 10) (j := 1) (b := 3) hR dX10_far_19 rfl rfl rfl (by decide) (by decide) (by decide) rfl rfl ?_
      refine mr_getR (pc' := 25) (ci := 6) (j := 0) (b := 4) hR dX10_far_22 rfl rfl rfl (by decide) (by decide) (by decide) rfl rfl ?_
      refine mr_iload_n (pc' := 26) dX10_far_25 rfl rfl ?_
      refine mr_iload_n (pc' := 27) dX10_far_26 rfl rfl ?_
      obtain ⟨q9, g10, h11⟩ := Option.bind_eq_some_iff.mp h7
      refine mr_cv (pc' := 30) (a := 4) (d1 := 0) dX10_far_27 rfl rfl rfl rfl rfl rfl (by decide) rfl (by decide) (ok_X8_hoursBetween hR rfl g10) ?_
      show mr X _ _ 30 _ [.int q9] (MM RR S) _
      refine mr_istore_n (pc' := 31) (lv' := [(3, .int q9), (0, .ref 0), (1, .int v1), (2, .int v2)]) dX10_far_30 rfl (by decide) rfl ?_
      refine mr_iload_n (pc' := 32) dX10_far_31 rfl rfl ?_
      by_cases c12 : (0 : Int32) ≤ q9
      · rw [if_pos c12] at h11
        refine mr_if_ge_t (t := 40) dX10_far_32 (by decide) c12 ?_
        refine mr_iload_n (pc' := 41) dX10_far_40 rfl rfl ?_
        obtain rfl := Option.some.inj h11
        exact mr_ireturn dX10_far_41 rfl
      · rw [if_neg c12] at h11
        refine mr_if_ge_f (t := 40) (pc' := 35) dX10_far_32 (by decide) rfl c12 ?_
        refine mr_bipush (pc' := 37) (v := (-2 : Int32)) dX10_far_35 rfl (by decide) ?_
        refine mr_goto (t := 41) dX10_far_37 (by decide) ?_
        obtain rfl := Option.some.inj h11
        exact mr_ireturn dX10_far_41 rfl
def f_X10_next (v1 : Int32) (v2 : Int32) (S : fS) : Option (Int32) :=
  (f_X10_isFloor v1 S).bind fun q1 =>
  if q1 = (0 : Int32) then (some (-1 : Int32)) else
  ((f_X10_isFloor v2 S).bind fun q5 =>
  if q5 = (0 : Int32) then (some (-1 : Int32)) else
  ((f_X8_firstStair 4 v1 v2 S).bind fun q9 =>
  if (0 : Int32) ≤ q9 then (some q9) else
  (some (-2 : Int32))))
set_option maxHeartbeats 4000000 in
set_option maxRecDepth 100000 in
theorem ok_X10_next {X : mm_C} {RR : Nat → Nat → Option Nat} (hR : RRok RR) {v1 : Int32} {v2 : Int32}  {S : fS} {r : Int32} (h : f_X10_next v1 v2 S = some r) : mr X 2 mY_X10_next 0 (lv_args 0 [.ref 0, .int v1, .int v2]) [] (MM RR S) (some (.int r), MM RR S) := by
  unfold f_X10_next at h
  show mr X _ _ 0 [(0, .ref 0), (1, .int v1), (2, .int v2)] [] (MM RR S) _
  refine mr_aload_n (pc' := 1) dX10_next_0 rfl rfl ?_
  refine mr_iload_n (pc' := 2) dX10_next_1 rfl rfl ?_
  obtain ⟨q1, g2, h3⟩ := Option.bind_eq_some_iff.mp h
  refine mr_cv (pc' := 5) (a := 0) (d1 := 1) dX10_next_2 rfl rfl rfl rfl rfl rfl (by decide) rfl (by decide) (ok_X10_isFloor hR  g2) ?_
  show mr X _ _ 5 _ [.int q1] (MM RR S) _
  by_cases c4 : q1 = (0 : Int32)
  · rw [if_pos c4] at h3
    refine mr_if_eq_t (t := 16) dX10_next_5 (by decide) c4 ?_
    refine mr_iconst (pc' := 17) (v := (-1 : Int32)) dX10_next_16 rfl (by decide) ?_
    obtain rfl := Option.some.inj h3
    exact mr_ireturn dX10_next_17 rfl
  · rw [if_neg c4] at h3
    refine mr_if_eq_f (t := 16) (pc' := 8) dX10_next_5 (by decide) rfl c4 ?_
    refine mr_aload_n (pc' := 9) dX10_next_8 rfl rfl ?_
    refine mr_iload_n (pc' := 10) dX10_next_9 rfl rfl ?_
    obtain ⟨q5, g6, h7⟩ := Option.bind_eq_some_iff.mp h3
    refine mr_cv (pc' := 13) (a := 0) (d1 := 1) dX10_next_10 rfl rfl rfl rfl rfl rfl (by decide) rfl (by decide) (ok_X10_isFloor hR  g6) ?_
    show mr X _ _ 13 _ [.int q5] (MM RR S) _
    by_cases c8 : q5 = (0 : Int32)
    · rw [if_pos c8] at h7
      refine mr_if_ne_f (t := 18) (pc' := 16) dX10_next_13 (by decide) rfl (not_not_intro c8) ?_
      refine mr_iconst (pc' := 17) (v := (-1 : Int32)) dX10_next_16 rfl (by decide) ?_
      obtain rfl := Option.some.inj h7
      exact mr_ireturn dX10_next_17 rfl
    · rw [if_neg c8] at h7
      refine mr_if_ne_t (t := 18) dX10_next_13 (by decide) c8 ?_
      refine mr_aload_n (pc' := 19) dX10_next_18 rfl rfl ?_
      refine mr_getR (pc' := 22) (ci := 10) (j := 1) (b := 3) hR dX10_next_19 rfl rfl rfl (by decide) (by decide) (by decide) rfl rfl ?_
      refine mr_getR (pc' := 25) (ci := 6) (j := 0) (b := 4) hR dX10_next_22 rfl rfl rfl (by decide) (by decide) (by decide) rfl rfl ?_
      refine mr_iload_n (pc' := 26) dX10_next_25 rfl rfl ?_
      refine mr_iload_n (pc' := 27) dX10_next_26 rfl rfl ?_
      obtain ⟨q9, g10, h11⟩ := Option.bind_eq_some_iff.mp h7
      refine mr_cv (pc' := 30) (a := 4) (d1 := 1) dX10_next_27 rfl rfl rfl rfl rfl rfl (by decide) rfl (by decide) (ok_X8_firstStair hR rfl g10) ?_
      show mr X _ _ 30 _ [.int q9] (MM RR S) _
      refine mr_istore_n (pc' := 31) (lv' := [(3, .int q9), (0, .ref 0), (1, .int v1), (2, .int v2)]) dX10_next_30 rfl (by decide) rfl ?_
      refine mr_iload_n (pc' := 32) dX10_next_31 rfl rfl ?_
      by_cases c12 : (0 : Int32) ≤ q9
      · rw [if_pos c12] at h11
        refine mr_if_ge_t (t := 40) dX10_next_32 (by decide) c12 ?_
        refine mr_iload_n (pc' := 41) dX10_next_40 rfl rfl ?_
        obtain rfl := Option.some.inj h11
        exact mr_ireturn dX10_next_41 rfl
      · rw [if_neg c12] at h11
        refine mr_if_ge_f (t := 40) (pc' := 35) dX10_next_32 (by decide) rfl c12 ?_
        refine mr_bipush (pc' := 37) (v := (-2 : Int32)) dX10_next_35 rfl (by decide) ?_
        refine mr_goto (t := 41) dX10_next_37 (by decide) ?_
        obtain rfl := Option.some.inj h11
        exact mr_ireturn dX10_next_41 rfl
def f_X10_isHour (v0 : Int32) (S : fS) : Option (Int32) :=
  (f_X10_isFrom v0 (0 : Int32) (9999 : Int32) S).bind fun q1 =>
  (bZ q1).bind fun z4 => some z4
set_option maxHeartbeats 4000000 in
set_option maxRecDepth 100000 in
theorem ok_X10_isHour {X : mm_C} {RR : Nat → Nat → Option Nat} (hR : RRok RR) {v0 : Int32}  {S : fS} {r : Int32} (h : f_X10_isHour v0 S = some r) : mr X 1 mY_X10_isHour 0 (lv_args 0 [.int v0]) [] (MM RR S) (some (.int r), MM RR S) := by
  unfold f_X10_isHour at h
  show mr X _ _ 0 [(0, .int v0)] [] (MM RR S) _
  refine mr_iload_n (pc' := 1) dX10_isHour_0 rfl rfl ?_
  refine mr_iconst (pc' := 2) (v := (0 : Int32)) dX10_isHour_1 rfl (by decide) ?_
  refine mr_sipush (pc' := 5) (v := (9999 : Int32)) dX10_isHour_2 rfl (by decide) ?_
  obtain ⟨q1, g2, h3⟩ := Option.bind_eq_some_iff.mp h
  refine mr_cs (pc' := 8) (d1 := 0) dX10_isHour_5 rfl rfl rfl rfl (by decide) (Nat.le_of_ble_eq_true rfl) rfl rfl rfl (by decide) (ok_X10_isFrom hR  g2) ?_
  show mr X _ _ 8 _ [.int q1] (MM RR S) _
  obtain ⟨z4, g5, h6⟩ := Option.bind_eq_some_iff.mp h3
  obtain ⟨g7, e8⟩ := mm_ifs g5
  cases e8
  cases h6
  exact mr_zreturn dX10_isHour_8 rfl g7
def f_X8_clockAt (v0 : Nat) (v1 : Int32) (v2 : Int32) (S : fS) : Option (Int64) :=
  (gL S (v0 + 1) 10 v1).bind fun a1 =>
  some ((Int32.toInt64 v2) * a1)
set_option maxHeartbeats 4000000 in
set_option maxRecDepth 100000 in
theorem ok_X8_clockAt {X : mm_C} {RR : Nat → Nat → Option Nat} (hR : RRok RR) {v0 : Nat} {v1 : Int32} {v2 : Int32} (t0 : tg v0 = 8) {S : fS} {r : Int64} (h : f_X8_clockAt v0 v1 v2 S = some r) : mr X 0 mY_X8_clockAt 0 (lv_args 0 [.ref v0, .int v1, .int v2]) [] (MM RR S) (some (.long r), MM RR S) := by
  unfold f_X8_clockAt at h
  show mr X _ _ 0 [(0, .ref v0), (1, .int v1), (2, .int v2)] [] (MM RR S) _
  refine mr_iload_n (pc' := 1) dX8_clockAt_0 rfl rfl ?_
  refine mr_i2l (pc' := 2) dX8_clockAt_1 rfl ?_
  refine mr_aload_n (pc' := 3) dX8_clockAt_2 rfl rfl ?_
  refine mr_getR (pc' := 6) (ci := 8) (j := 0) (b := (v0 + 1)) hR dX8_clockAt_3 rfl rfl t0 (by decide) (by decide) (by decide) rfl (ly8_0 t0).1 ?_
  refine mr_iload_n (pc' := 7) dX8_clockAt_6 rfl rfl ?_
  obtain ⟨a1, g2, h3⟩ := Option.bind_eq_some_iff.mp h
  refine mr_lald (pc' := 8) dX8_clockAt_7 rfl (ly8_0 t0).2.1 (ly8_0 t0).2.2 g2 ?_
  refine mr_lmul (pc' := 9) dX8_clockAt_8 rfl ?_
  obtain rfl := Option.some.inj h3
  exact mr_lreturn dX8_clockAt_9 rfl
def f_X10_clock (v1 : Int32) (v2 : Int32) (v3 : Int32) (S : fS) : Option (Int64) :=
  (f_X10_isFloor v1 S).bind fun q1 =>
  if q1 = (0 : Int32) then (some (-1 : Int64)) else
  ((f_X10_isHour v2 S).bind fun q5 =>
  if q5 = (0 : Int32) then (some (-1 : Int64)) else
  ((f_X10_isPart v3 S).bind fun q9 =>
  if q9 = (0 : Int32) then (some (-1 : Int64)) else
  ((f_X8_clockAt 4 v1 v2 S).bind fun q13 =>
  (f_X10_lowest q13 (232792560 : Int64) v3 S).bind fun q16 =>
  some q16)))
set_option maxHeartbeats 4000000 in
set_option maxRecDepth 100000 in
theorem ok_X10_clock {X : mm_C} {RR : Nat → Nat → Option Nat} (hR : RRok RR) {v1 : Int32} {v2 : Int32} {v3 : Int32}  {S : fS} {r : Int64} (h : f_X10_clock v1 v2 v3 S = some r) : mr X 3 mY_X10_clock 0 (lv_args 0 [.ref 0, .int v1, .int v2, .int v3]) [] (MM RR S) (some (.long r), MM RR S) := by
  unfold f_X10_clock at h
  show mr X _ _ 0 [(0, .ref 0), (1, .int v1), (2, .int v2), (3, .int v3)] [] (MM RR S) _
  refine mr_aload_n (pc' := 1) dX10_clock_0 rfl rfl ?_
  refine mr_iload_n (pc' := 2) dX10_clock_1 rfl rfl ?_
  obtain ⟨q1, g2, h3⟩ := Option.bind_eq_some_iff.mp h
  refine mr_cv (pc' := 5) (a := 0) (d1 := 1) dX10_clock_2 rfl rfl rfl rfl rfl rfl (by decide) rfl (by decide) (ok_X10_isFloor hR  g2) ?_
  show mr X _ _ 5 _ [.int q1] (MM RR S) _
  by_cases c4 : q1 = (0 : Int32)
  · rw [if_pos c4] at h3
    refine mr_if_eq_t (t := 22) dX10_clock_5 (by decide) c4 ?_
    refine mr_ldc2 (pc' := 25) (v := (-1 : Int64)) dX10_clock_22 rfl rfl ?_
    obtain rfl := Option.some.inj h3
    exact mr_lreturn dX10_clock_25 rfl
  · rw [if_neg c4] at h3
    refine mr_if_eq_f (t := 22) (pc' := 8) dX10_clock_5 (by decide) rfl c4 ?_
    refine mr_iload_n (pc' := 9) dX10_clock_8 rfl rfl ?_
    obtain ⟨q5, g6, h7⟩ := Option.bind_eq_some_iff.mp h3
    refine mr_cs (pc' := 12) (d1 := 1) dX10_clock_9 rfl rfl rfl rfl (by decide) (Nat.le_of_ble_eq_true rfl) rfl rfl rfl (by decide) (ok_X10_isHour hR  g6) ?_
    show mr X _ _ 12 _ [.int q5] (MM RR S) _
    by_cases c8 : q5 = (0 : Int32)
    · rw [if_pos c8] at h7
      refine mr_if_eq_t (t := 22) dX10_clock_12 (by decide) c8 ?_
      refine mr_ldc2 (pc' := 25) (v := (-1 : Int64)) dX10_clock_22 rfl rfl ?_
      obtain rfl := Option.some.inj h7
      exact mr_lreturn dX10_clock_25 rfl
    · rw [if_neg c8] at h7
      refine mr_if_eq_f (t := 22) (pc' := 15) dX10_clock_12 (by decide) rfl c8 ?_
      refine mr_iload_n (pc' := 16) dX10_clock_15 rfl rfl ?_
      obtain ⟨q9, g10, h11⟩ := Option.bind_eq_some_iff.mp h7
      refine mr_cs (pc' := 19) (d1 := 1) dX10_clock_16 rfl rfl rfl rfl (by decide) (Nat.le_of_ble_eq_true rfl) rfl rfl rfl (by decide) (ok_X10_isPart hR  g10) ?_
      show mr X _ _ 19 _ [.int q9] (MM RR S) _
      by_cases c12 : q9 = (0 : Int32)
      · rw [if_pos c12] at h11
        refine mr_if_ne_f (t := 26) (pc' := 22) dX10_clock_19 (by decide) rfl (not_not_intro c12) ?_
        refine mr_ldc2 (pc' := 25) (v := (-1 : Int64)) dX10_clock_22 rfl rfl ?_
        obtain rfl := Option.some.inj h11
        exact mr_lreturn dX10_clock_25 rfl
      · rw [if_neg c12] at h11
        refine mr_if_ne_t (t := 26) dX10_clock_19 (by decide) c12 ?_
        refine mr_aload_n (pc' := 27) dX10_clock_26 rfl rfl ?_
        refine mr_getR (pc' := 30) (ci := 10) (j := 1) (b := 3) hR dX10_clock_27 rfl rfl rfl (by decide) (by decide) (by decide) rfl rfl ?_
        refine mr_getR (pc' := 33) (ci := 6) (j := 0) (b := 4) hR dX10_clock_30 rfl rfl rfl (by decide) (by decide) (by decide) rfl rfl ?_
        refine mr_iload_n (pc' := 34) dX10_clock_33 rfl rfl ?_
        refine mr_iload_n (pc' := 35) dX10_clock_34 rfl rfl ?_
        obtain ⟨q13, g14, h15⟩ := Option.bind_eq_some_iff.mp h11
        refine mr_cv (pc' := 38) (a := 4) (d1 := 0) dX10_clock_35 rfl rfl rfl rfl rfl rfl (by decide) rfl (by decide) (ok_X8_clockAt hR rfl g14) ?_
        show mr X _ _ 38 _ [.long q13] (MM RR S) _
        refine mr_ldc2 (pc' := 41) (v := (232792560 : Int64)) dX10_clock_38 rfl rfl ?_
        refine mr_iload_n (pc' := 42) dX10_clock_41 rfl rfl ?_
        obtain ⟨q16, g17, h18⟩ := Option.bind_eq_some_iff.mp h15
        refine mr_cs (pc' := 45) (d1 := 2) dX10_clock_42 rfl rfl rfl rfl (by decide) (Nat.le_of_ble_eq_true rfl) rfl rfl rfl (by decide) (ok_X10_lowest hR  g17) ?_
        show mr X _ _ 45 _ [.long q16] (MM RR S) _
        obtain rfl := Option.some.inj h18
        exact mr_lreturn dX10_clock_45 rfl
def f_X10_noons (v1 : Int32) (v2 : Int32) (v3 : Int32) (S : fS) : Option (Int64) :=
  (f_X10_isFloor v1 S).bind fun q1 =>
  if q1 = (0 : Int32) then (some (-1 : Int64)) else
  ((f_X10_isFloor v2 S).bind fun q5 =>
  if q5 = (0 : Int32) then (some (-1 : Int64)) else
  ((f_X10_isPart v3 S).bind fun q9 =>
  if q9 = (0 : Int32) then (some (-1 : Int64)) else
  ((gL S 5 10 v1).bind fun a13 =>
  (gL S 5 10 v2).bind fun a16 =>
  (f_X10_commonDivisor a13 a16 S).bind fun q19 =>
  if q19 = (0 : Int64) then (some (-2 : Int64)) else
  ((dL a13 q19).bind fun a23 =>
  (rL a23 (2 : Int64)).bind fun a26 =>
  if a26 = (0 : Int64) then (some (-2 : Int64)) else
  ((dL a16 q19).bind fun a30 =>
  (rL a30 (2 : Int64)).bind fun a33 =>
  if a33 = (0 : Int64) then (some (-2 : Int64)) else
  ((f_X10_lowest (2793510720 : Int64) q19 v3 S).bind fun q37 =>
  some q37))))))
set_option maxHeartbeats 4000000 in
set_option maxRecDepth 100000 in
theorem ok_X10_noons {X : mm_C} {RR : Nat → Nat → Option Nat} (hR : RRok RR) {v1 : Int32} {v2 : Int32} {v3 : Int32}  {S : fS} {r : Int64} (h : f_X10_noons v1 v2 v3 S = some r) : mr X 3 mY_X10_noons 0 (lv_args 0 [.ref 0, .int v1, .int v2, .int v3]) [] (MM RR S) (some (.long r), MM RR S) := by
  unfold f_X10_noons at h
  show mr X _ _ 0 [(0, .ref 0), (1, .int v1), (2, .int v2), (3, .int v3)] [] (MM RR S) _
  refine mr_aload_n (pc' := 1) dX10_noons_0 rfl rfl ?_
  refine mr_iload_n (pc' := 2) dX10_noons_1 rfl rfl ?_
  obtain ⟨q1, g2, h3⟩ := Option.bind_eq_some_iff.mp h
  refine mr_cv (pc' := 5) (a := 0) (d1 := 1) dX10_noons_2 rfl rfl rfl rfl rfl rfl (by decide) rfl (by decide) (ok_X10_isFloor hR  g2) ?_
  show mr X _ _ 5 _ [.int q1] (MM RR S) _
  by_cases c4 : q1 = (0 : Int32)
  · rw [if_pos c4] at h3
    refine mr_if_eq_t (t := 23) dX10_noons_5 (by decide) c4 ?_
    refine mr_ldc2 (pc' := 26) (v := (-1 : Int64)) dX10_noons_23 rfl rfl ?_
    obtain rfl := Option.some.inj h3
    exact mr_lreturn dX10_noons_26 rfl
  · rw [if_neg c4] at h3
    refine mr_if_eq_f (t := 23) (pc' := 8) dX10_noons_5 (by decide) rfl c4 ?_
    refine mr_aload_n (pc' := 9) dX10_noons_8 rfl rfl ?_
    refine mr_iload_n (pc' := 10) dX10_noons_9 rfl rfl ?_
    obtain ⟨q5, g6, h7⟩ := Option.bind_eq_some_iff.mp h3
    refine mr_cv (pc' := 13) (a := 0) (d1 := 1) dX10_noons_10 rfl rfl rfl rfl rfl rfl (by decide) rfl (by decide) (ok_X10_isFloor hR  g6) ?_
    show mr X _ _ 13 _ [.int q5] (MM RR S) _
    by_cases c8 : q5 = (0 : Int32)
    · rw [if_pos c8] at h7
      refine mr_if_eq_t (t := 23) dX10_noons_13 (by decide) c8 ?_
      refine mr_ldc2 (pc' := 26) (v := (-1 : Int64)) dX10_noons_23 rfl rfl ?_
      obtain rfl := Option.some.inj h7
      exact mr_lreturn dX10_noons_26 rfl
    · rw [if_neg c8] at h7
      refine mr_if_eq_f (t := 23) (pc' := 16) dX10_noons_13 (by decide) rfl c8 ?_
      refine mr_iload_n (pc' := 17) dX10_noons_16 rfl rfl ?_
      obtain ⟨q9, g10, h11⟩ := Option.bind_eq_some_iff.mp h7
      refine mr_cs (pc' := 20) (d1 := 1) dX10_noons_17 rfl rfl rfl rfl (by decide) (Nat.le_of_ble_eq_true rfl) rfl rfl rfl (by decide) (ok_X10_isPart hR  g10) ?_
      show mr X _ _ 20 _ [.int q9] (MM RR S) _
      by_cases c12 : q9 = (0 : Int32)
      · rw [if_pos c12] at h11
        refine mr_if_ne_f (t := 27) (pc' := 23) dX10_noons_20 (by decide) rfl (not_not_intro c12) ?_
        refine mr_ldc2 (pc' := 26) (v := (-1 : Int64)) dX10_noons_23 rfl rfl ?_
        obtain rfl := Option.some.inj h11
        exact mr_lreturn dX10_noons_26 rfl
      · rw [if_neg c12] at h11
        refine mr_if_ne_t (t := 27) dX10_noons_20 (by decide) c12 ?_
        refine mr_aload_n (pc' := 28) dX10_noons_27 rfl rfl ?_
        refine mr_getR (pc' := 31) (ci := 10) (j := 1) (b := 3) hR dX10_noons_28 rfl rfl rfl (by decide) (by decide) (by decide) rfl rfl ?_
        refine mr_getR (pc' := 34) (ci := 6) (j := 0) (b := 4) hR dX10_noons_31 rfl rfl rfl (by decide) (by decide) (by decide) rfl rfl ?_
        refine mr_getR (pc' := 37) (ci := 8) (j := 0) (b := 5) hR dX10_noons_34 rfl rfl rfl (by decide) (by decide) (by decide) rfl rfl ?_
        refine mr_iload_n (pc' := 38) dX10_noons_37 rfl rfl ?_
        obtain ⟨a13, g14, h15⟩ := Option.bind_eq_some_iff.mp h11
        refine mr_lald (pc' := 39) dX10_noons_38 rfl rfl rfl g14 ?_
        refine mr_lstore (pc' := 41) (lv' := [(4, .long a13), (0, .ref 0), (1, .int v1), (2, .int v2), (3, .int v3)]) dX10_noons_39 rfl (by decide) rfl ?_
        refine mr_aload_n (pc' := 42) dX10_noons_41 rfl rfl ?_
        refine mr_getR (pc' := 45) (ci := 10) (j := 1) (b := 3) hR dX10_noons_42 rfl rfl rfl (by decide) (by decide) (by decide) rfl rfl ?_
        refine mr_getR (pc' := 48) (ci := 6) (j := 0) (b := 4) hR dX10_noons_45 rfl rfl rfl (by decide) (by decide) (by decide) rfl rfl ?_
        refine mr_getR (pc' := 51) (ci := 8) (j := 0) (b := 5) hR dX10_noons_48 rfl rfl rfl (by decide) (by decide) (by decide) rfl rfl ?_
        refine mr_iload_n (pc' := 52) dX10_noons_51 rfl rfl ?_
        obtain ⟨a16, g17, h18⟩ := Option.bind_eq_some_iff.mp h15
        refine mr_lald (pc' := 53) dX10_noons_52 rfl rfl rfl g17 ?_
        refine mr_lstore (pc' := 55) (lv' := [(6, .long a16), (4, .long a13), (0, .ref 0), (1, .int v1), (2, .int v2), (3, .int v3)]) dX10_noons_53 rfl (by decide) rfl ?_
        refine mr_lload (pc' := 57) dX10_noons_55 rfl rfl ?_
        refine mr_lload (pc' := 59) dX10_noons_57 rfl rfl ?_
        obtain ⟨q19, g20, h21⟩ := Option.bind_eq_some_iff.mp h18
        refine mr_cs (pc' := 62) (d1 := 1) dX10_noons_59 rfl rfl rfl rfl (by decide) (Nat.le_of_ble_eq_true rfl) rfl rfl rfl (by decide) (ok_X10_commonDivisor hR  g20) ?_
        show mr X _ _ 62 _ [.long q19] (MM RR S) _
        refine mr_lstore (pc' := 64) (lv' := [(8, .long q19), (6, .long a16), (4, .long a13), (0, .ref 0), (1, .int v1), (2, .int v2), (3, .int v3)]) dX10_noons_62 rfl (by decide) rfl ?_
        refine mr_lload (pc' := 66) dX10_noons_64 rfl rfl ?_
        refine mr_lconst (pc' := 67) (v := (0 : Int64)) dX10_noons_66 rfl (by decide) ?_
        by_cases c22 : q19 = (0 : Int64)
        · rw [if_pos c22] at h21
          refine mr_lcmp_eq_t (t := 99) dX10_noons_67 rfl dX10_noons_68 (by decide) c22 ?_
          refine mr_ldc2 (pc' := 102) (v := (-2 : Int64)) dX10_noons_99 rfl rfl ?_
          obtain rfl := Option.some.inj h21
          exact mr_lreturn dX10_noons_102 rfl
        · rw [if_neg c22] at h21
          refine mr_lcmp_eq_f (t := 99) (pc' := 71) dX10_noons_67 rfl dX10_noons_68 (by decide) rfl c22 ?_
          refine mr_lload (pc' := 73) dX10_noons_71 rfl rfl ?_
          refine mr_lload (pc' := 75) dX10_noons_73 rfl rfl ?_
          obtain ⟨a23, g24, h25⟩ := Option.bind_eq_some_iff.mp h21
          refine mr_ldiv (pc' := 76) dX10_noons_75 rfl g24 ?_
          refine mr_ldc2 (pc' := 79) (v := (2 : Int64)) dX10_noons_76 rfl rfl ?_
          obtain ⟨a26, g27, h28⟩ := Option.bind_eq_some_iff.mp h25
          refine mr_lrem (pc' := 80) dX10_noons_79 rfl g27 ?_
          refine mr_lconst (pc' := 81) (v := (0 : Int64)) dX10_noons_80 rfl (by decide) ?_
          by_cases c29 : a26 = (0 : Int64)
          · rw [if_pos c29] at h28
            refine mr_lcmp_eq_t (t := 99) dX10_noons_81 rfl dX10_noons_82 (by decide) c29 ?_
            refine mr_ldc2 (pc' := 102) (v := (-2 : Int64)) dX10_noons_99 rfl rfl ?_
            obtain rfl := Option.some.inj h28
            exact mr_lreturn dX10_noons_102 rfl
          · rw [if_neg c29] at h28
            refine mr_lcmp_eq_f (t := 99) (pc' := 85) dX10_noons_81 rfl dX10_noons_82 (by decide) rfl c29 ?_
            refine mr_lload (pc' := 87) dX10_noons_85 rfl rfl ?_
            refine mr_lload (pc' := 89) dX10_noons_87 rfl rfl ?_
            obtain ⟨a30, g31, h32⟩ := Option.bind_eq_some_iff.mp h28
            refine mr_ldiv (pc' := 90) dX10_noons_89 rfl g31 ?_
            refine mr_ldc2 (pc' := 93) (v := (2 : Int64)) dX10_noons_90 rfl rfl ?_
            obtain ⟨a33, g34, h35⟩ := Option.bind_eq_some_iff.mp h32
            refine mr_lrem (pc' := 94) dX10_noons_93 rfl g34 ?_
            refine mr_lconst (pc' := 95) (v := (0 : Int64)) dX10_noons_94 rfl (by decide) ?_
            by_cases c36 : a33 = (0 : Int64)
            · rw [if_pos c36] at h35
              refine mr_lcmp_ne_f (t := 103) (pc' := 99) dX10_noons_95 rfl dX10_noons_96 (by decide) rfl (not_not_intro c36) ?_
              refine mr_ldc2 (pc' := 102) (v := (-2 : Int64)) dX10_noons_99 rfl rfl ?_
              obtain rfl := Option.some.inj h35
              exact mr_lreturn dX10_noons_102 rfl
            · rw [if_neg c36] at h35
              refine mr_lcmp_ne_t (t := 103) dX10_noons_95 rfl dX10_noons_96 (by decide) c36 ?_
              refine mr_ldc2 (pc' := 106) (v := (2793510720 : Int64)) dX10_noons_103 rfl rfl ?_
              refine mr_lload (pc' := 108) dX10_noons_106 rfl rfl ?_
              refine mr_iload_n (pc' := 109) dX10_noons_108 rfl rfl ?_
              obtain ⟨q37, g38, h39⟩ := Option.bind_eq_some_iff.mp h35
              refine mr_cs (pc' := 112) (d1 := 2) dX10_noons_109 rfl rfl rfl rfl (by decide) (Nat.le_of_ble_eq_true rfl) rfl rfl rfl (by decide) (ok_X10_lowest hR  g38) ?_
              show mr X _ _ 112 _ [.long q37] (MM RR S) _
              obtain rfl := Option.some.inj h39
              exact mr_lreturn dX10_noons_112 rfl
def f_X1_gainOf (v1 : Int32) (v2 : Int32) (S : fS) : Option (Int64) :=
  if v1 < (0 : Int32) then (some (-1 : Int64)) else
  (if v1 ≤ (120 : Int32) then ((gL S 44 1210 ((v1 * (10 : Int32)) + v2)).bind fun a3 =>
  some a3) else
  (some (-1 : Int64)))
set_option maxHeartbeats 4000000 in
set_option maxRecDepth 100000 in
theorem ok_X1_gainOf {X : mm_C} {RR : Nat → Nat → Option Nat} (hR : RRok RR) {v1 : Int32} {v2 : Int32}  {S : fS} {r : Int64} (h : f_X1_gainOf v1 v2 S = some r) : mr X 0 mY_X1_gainOf 0 (lv_args 0 [.ref 43, .int v1, .int v2]) [] (MM RR S) (some (.long r), MM RR S) := by
  unfold f_X1_gainOf at h
  show mr X _ _ 0 [(0, .ref 43), (1, .int v1), (2, .int v2)] [] (MM RR S) _
  refine mr_iload_n (pc' := 1) dX1_gainOf_0 rfl rfl ?_
  by_cases c1 : v1 < (0 : Int32)
  · rw [if_pos c1] at h
    refine mr_if_lt_t (t := 10) dX1_gainOf_1 (by decide) c1 ?_
    refine mr_ldc2 (pc' := 13) (v := (-1 : Int64)) dX1_gainOf_10 rfl rfl ?_
    refine mr_goto (t := 27) dX1_gainOf_13 (by decide) ?_
    obtain rfl := Option.some.inj h
    exact mr_lreturn dX1_gainOf_27 rfl
  · rw [if_neg c1] at h
    refine mr_if_lt_f (t := 10) (pc' := 4) dX1_gainOf_1 (by decide) rfl c1 ?_
    refine mr_iload_n (pc' := 5) dX1_gainOf_4 rfl rfl ?_
    refine mr_bipush (pc' := 7) (v := (120 : Int32)) dX1_gainOf_5 rfl (by decide) ?_
    by_cases c2 : v1 ≤ (120 : Int32)
    · rw [if_pos c2] at h
      refine mr_icmp_le_t (t := 16) dX1_gainOf_7 (by decide) c2 ?_
      refine mr_aload_n (pc' := 17) dX1_gainOf_16 rfl rfl ?_
      refine mr_getR (pc' := 20) (ci := 1) (j := 0) (b := 44) hR dX1_gainOf_17 rfl rfl rfl (by decide) (by decide) (by decide) rfl rfl ?_
      refine mr_iload_n (pc' := 21) dX1_gainOf_20 rfl rfl ?_
      refine mr_bipush (pc' := 23) (v := (10 : Int32)) dX1_gainOf_21 rfl (by decide) ?_
      refine mr_imul (pc' := 24) dX1_gainOf_23 rfl ?_
      refine mr_iload_n (pc' := 25) dX1_gainOf_24 rfl rfl ?_
      refine mr_iadd (pc' := 26) dX1_gainOf_25 rfl ?_
      obtain ⟨a3, g4, h5⟩ := Option.bind_eq_some_iff.mp h
      refine mr_lald (pc' := 27) dX1_gainOf_26 rfl rfl rfl g4 ?_
      obtain rfl := Option.some.inj h5
      exact mr_lreturn dX1_gainOf_27 rfl
    · rw [if_neg c2] at h
      refine mr_icmp_le_f (t := 16) (pc' := 10) dX1_gainOf_7 (by decide) rfl c2 ?_
      refine mr_ldc2 (pc' := 13) (v := (-1 : Int64)) dX1_gainOf_10 rfl rfl ?_
      refine mr_goto (t := 27) dX1_gainOf_13 (by decide) ?_
      obtain rfl := Option.some.inj h
      exact mr_lreturn dX1_gainOf_27 rfl
def f_X1_gainByStaying (v1 : Nat) (v2 : Int32) (v3 : Int32) (S : fS) : Option (Int64) :=
  (f_X1_gainOf (v2 - (1 : Int32)) v3 S).bind fun q1 =>
  if (0 : Int64) ≤ q1 then ((gL S (v1 + 1) 10 v3).bind fun a5 =>
  some (q1 + a5)) else
  (some (-1 : Int64))
set_option maxHeartbeats 4000000 in
set_option maxRecDepth 100000 in
theorem ok_X1_gainByStaying {X : mm_C} {RR : Nat → Nat → Option Nat} (hR : RRok RR) {v1 : Nat} {v2 : Int32} {v3 : Int32} (t1 : tg v1 = 8) {S : fS} {r : Int64} (h : f_X1_gainByStaying v1 v2 v3 S = some r) : mr X 1 mY_X1_gainByStaying 0 (lv_args 0 [.ref 43, .ref v1, .int v2, .int v3]) [] (MM RR S) (some (.long r), MM RR S) := by
  unfold f_X1_gainByStaying at h
  show mr X _ _ 0 [(0, .ref 43), (1, .ref v1), (2, .int v2), (3, .int v3)] [] (MM RR S) _
  refine mr_aload_n (pc' := 1) dX1_gainByStaying_0 rfl rfl ?_
  refine mr_iload_n (pc' := 2) dX1_gainByStaying_1 rfl rfl ?_
  refine mr_iconst (pc' := 3) (v := (1 : Int32)) dX1_gainByStaying_2 rfl (by decide) ?_
  refine mr_isub (pc' := 4) dX1_gainByStaying_3 rfl ?_
  refine mr_iload_n (pc' := 5) dX1_gainByStaying_4 rfl rfl ?_
  obtain ⟨q1, g2, h3⟩ := Option.bind_eq_some_iff.mp h
  refine mr_cv (pc' := 8) (a := 43) (d1 := 0) dX1_gainByStaying_5 rfl rfl rfl rfl rfl rfl (by decide) rfl (by decide) (ok_X1_gainOf hR  g2) ?_
  show mr X _ _ 8 _ [.long q1] (MM RR S) _
  refine mr_lstore (pc' := 10) (lv' := [(4, .long q1), (0, .ref 43), (1, .ref v1), (2, .int v2), (3, .int v3)]) dX1_gainByStaying_8 rfl (by decide) rfl ?_
  refine mr_lload (pc' := 12) dX1_gainByStaying_10 rfl rfl ?_
  refine mr_lconst (pc' := 13) (v := (0 : Int64)) dX1_gainByStaying_12 rfl (by decide) ?_
  by_cases c4 : (0 : Int64) ≤ q1
  · rw [if_pos c4] at h3
    refine mr_lcmp_ge_t (t := 23) dX1_gainByStaying_13 rfl dX1_gainByStaying_14 (by decide) c4 ?_
    refine mr_lload (pc' := 25) dX1_gainByStaying_23 rfl rfl ?_
    refine mr_aload_n (pc' := 26) dX1_gainByStaying_25 rfl rfl ?_
    refine mr_getR (pc' := 29) (ci := 8) (j := 0) (b := (v1 + 1)) hR dX1_gainByStaying_26 rfl rfl t1 (by decide) (by decide) (by decide) rfl (ly8_0 t1).1 ?_
    refine mr_iload_n (pc' := 30) dX1_gainByStaying_29 rfl rfl ?_
    obtain ⟨a5, g6, h7⟩ := Option.bind_eq_some_iff.mp h3
    refine mr_lald (pc' := 31) dX1_gainByStaying_30 rfl (ly8_0 t1).2.1 (ly8_0 t1).2.2 g6 ?_
    refine mr_ladd (pc' := 32) dX1_gainByStaying_31 rfl ?_
    obtain rfl := Option.some.inj h7
    exact mr_lreturn dX1_gainByStaying_32 rfl
  · rw [if_neg c4] at h3
    refine mr_lcmp_ge_f (t := 23) (pc' := 17) dX1_gainByStaying_13 rfl dX1_gainByStaying_14 (by decide) rfl c4 ?_
    refine mr_ldc2 (pc' := 20) (v := (-1 : Int64)) dX1_gainByStaying_17 rfl rfl ?_
    refine mr_goto (t := 32) dX1_gainByStaying_20 (by decide) ?_
    obtain rfl := Option.some.inj h3
    exact mr_lreturn dX1_gainByStaying_32 rfl
def f_X1_gainByStair (v1 : Nat) (v2 : Int32) (v3 : Int32) (v4 : Int32) (S : fS) : Option (Int64) :=
  (f_X8_otherEnd v1 v4 v3 S).bind fun q1 =>
  (gI S (v1 + 4) 12 v4).bind fun a4 =>
  if (0 : Int32) ≤ q1 then ((f_X1_gainOf (v2 - a4) q1 S).bind fun q8 =>
  if (0 : Int64) ≤ q8 then ((gL S (v1 + 5) 12 v4).bind fun a12 =>
  some (q8 + ((Int32.toInt64 a4) * a12))) else
  (some (-1 : Int64))) else
  (if (0 : Int64) ≤ (-1 : Int64) then ((gL S (v1 + 5) 12 v4).bind fun a16 =>
  some ((-1 : Int64) + ((Int32.toInt64 a4) * a16))) else
  (some (-1 : Int64)))
set_option maxHeartbeats 4000000 in
set_option maxRecDepth 100000 in
theorem ok_X1_gainByStair {X : mm_C} {RR : Nat → Nat → Option Nat} (hR : RRok RR) {v1 : Nat} {v2 : Int32} {v3 : Int32} {v4 : Int32} (t1 : tg v1 = 8) {S : fS} {r : Int64} (h : f_X1_gainByStair v1 v2 v3 v4 S = some r) : mr X 1 mY_X1_gainByStair 0 (lv_args 0 [.ref 43, .ref v1, .int v2, .int v3, .int v4]) [] (MM RR S) (some (.long r), MM RR S) := by
  unfold f_X1_gainByStair at h
  show mr X _ _ 0 [(0, .ref 43), (1, .ref v1), (2, .int v2), (3, .int v3), (4, .int v4)] [] (MM RR S) _
  refine mr_aload_n (pc' := 1) dX1_gainByStair_0 rfl rfl ?_
  refine mr_iload (pc' := 3) dX1_gainByStair_1 rfl rfl ?_
  refine mr_iload_n (pc' := 4) dX1_gainByStair_3 rfl rfl ?_
  obtain ⟨q1, g2, h3⟩ := Option.bind_eq_some_iff.mp h
  refine mr_cv (pc' := 7) (a := v1) (d1 := 0) dX1_gainByStair_4 rfl rfl rfl rfl rfl t1 (by decide) rfl (by decide) (ok_X8_otherEnd hR t1 g2) ?_
  show mr X _ _ 7 _ [.int q1] (MM RR S) _
  refine mr_istore (pc' := 9) (lv' := [(5, .int q1), (0, .ref 43), (1, .ref v1), (2, .int v2), (3, .int v3), (4, .int v4)]) dX1_gainByStair_7 rfl (by decide) rfl ?_
  refine mr_aload_n (pc' := 10) dX1_gainByStair_9 rfl rfl ?_
  refine mr_getR (pc' := 13) (ci := 8) (j := 3) (b := (v1 + 4)) hR dX1_gainByStair_10 rfl rfl t1 (by decide) (by decide) (by decide) rfl (ly8_3 t1).1 ?_
  refine mr_iload (pc' := 15) dX1_gainByStair_13 rfl rfl ?_
  obtain ⟨a4, g5, h6⟩ := Option.bind_eq_some_iff.mp h3
  refine mr_iald (pc' := 16) dX1_gainByStair_15 rfl (ly8_3 t1).2.1 (ly8_3 t1).2.2 g5 ?_
  refine mr_istore (pc' := 18) (lv' := [(6, .int a4), (5, .int q1), (0, .ref 43), (1, .ref v1), (2, .int v2), (3, .int v3), (4, .int v4)]) dX1_gainByStair_16 rfl (by decide) rfl ?_
  refine mr_iload (pc' := 20) dX1_gainByStair_18 rfl rfl ?_
  by_cases c7 : (0 : Int32) ≤ q1
  · rw [if_pos c7] at h6
    refine mr_if_ge_t (t := 29) dX1_gainByStair_20 (by decide) c7 ?_
    refine mr_aload_n (pc' := 30) dX1_gainByStair_29 rfl rfl ?_
    refine mr_iload_n (pc' := 31) dX1_gainByStair_30 rfl rfl ?_
    refine mr_iload (pc' := 33) dX1_gainByStair_31 rfl rfl ?_
    refine mr_isub (pc' := 34) dX1_gainByStair_33 rfl ?_
    refine mr_iload (pc' := 36) dX1_gainByStair_34 rfl rfl ?_
    obtain ⟨q8, g9, h10⟩ := Option.bind_eq_some_iff.mp h6
    refine mr_cv (pc' := 39) (a := 43) (d1 := 0) dX1_gainByStair_36 rfl rfl rfl rfl rfl rfl (by decide) rfl (by decide) (ok_X1_gainOf hR  g9) ?_
    show mr X _ _ 39 _ [.long q8] (MM RR S) _
    refine mr_lstore (pc' := 41) (lv' := [(7, .long q8), (6, .int a4), (5, .int q1), (0, .ref 43), (1, .ref v1), (2, .int v2), (3, .int v3), (4, .int v4)]) dX1_gainByStair_39 rfl (by decide) rfl ?_
    refine mr_lload (pc' := 43) dX1_gainByStair_41 rfl rfl ?_
    refine mr_lconst (pc' := 44) (v := (0 : Int64)) dX1_gainByStair_43 rfl (by decide) ?_
    by_cases c11 : (0 : Int64) ≤ q8
    · rw [if_pos c11] at h10
      refine mr_lcmp_ge_t (t := 54) dX1_gainByStair_44 rfl dX1_gainByStair_45 (by decide) c11 ?_
      refine mr_lload (pc' := 56) dX1_gainByStair_54 rfl rfl ?_
      refine mr_iload (pc' := 58) dX1_gainByStair_56 rfl rfl ?_
      refine mr_i2l (pc' := 59) dX1_gainByStair_58 rfl ?_
      refine mr_aload_n (pc' := 60) dX1_gainByStair_59 rfl rfl ?_
      refine mr_getR (pc' := 63) (ci := 8) (j := 4) (b := (v1 + 5)) hR dX1_gainByStair_60 rfl rfl t1 (by decide) (by decide) (by decide) rfl (ly8_4 t1).1 ?_
      refine mr_iload (pc' := 65) dX1_gainByStair_63 rfl rfl ?_
      obtain ⟨a12, g13, h14⟩ := Option.bind_eq_some_iff.mp h10
      refine mr_lald (pc' := 66) dX1_gainByStair_65 rfl (ly8_4 t1).2.1 (ly8_4 t1).2.2 g13 ?_
      refine mr_lmul (pc' := 67) dX1_gainByStair_66 rfl ?_
      refine mr_ladd (pc' := 68) dX1_gainByStair_67 rfl ?_
      obtain rfl := Option.some.inj h14
      exact mr_lreturn dX1_gainByStair_68 rfl
    · rw [if_neg c11] at h10
      refine mr_lcmp_ge_f (t := 54) (pc' := 48) dX1_gainByStair_44 rfl dX1_gainByStair_45 (by decide) rfl c11 ?_
      refine mr_ldc2 (pc' := 51) (v := (-1 : Int64)) dX1_gainByStair_48 rfl rfl ?_
      refine mr_goto (t := 68) dX1_gainByStair_51 (by decide) ?_
      obtain rfl := Option.some.inj h10
      exact mr_lreturn dX1_gainByStair_68 rfl
  · rw [if_neg c7] at h6
    refine mr_if_ge_f (t := 29) (pc' := 23) dX1_gainByStair_20 (by decide) rfl c7 ?_
    refine mr_ldc2 (pc' := 26) (v := (-1 : Int64)) dX1_gainByStair_23 rfl rfl ?_
    refine mr_goto (t := 39) dX1_gainByStair_26 (by decide) ?_
    refine mr_lstore (pc' := 41) (lv' := [(7, .long (-1 : Int64)), (6, .int a4), (5, .int q1), (0, .ref 43), (1, .ref v1), (2, .int v2), (3, .int v3), (4, .int v4)]) dX1_gainByStair_39 rfl (by decide) rfl ?_
    refine mr_lload (pc' := 43) dX1_gainByStair_41 rfl rfl ?_
    refine mr_lconst (pc' := 44) (v := (0 : Int64)) dX1_gainByStair_43 rfl (by decide) ?_
    by_cases c15 : (0 : Int64) ≤ (-1 : Int64)
    · rw [if_pos c15] at h6
      refine mr_lcmp_ge_t (t := 54) dX1_gainByStair_44 rfl dX1_gainByStair_45 (by decide) c15 ?_
      refine mr_lload (pc' := 56) dX1_gainByStair_54 rfl rfl ?_
      refine mr_iload (pc' := 58) dX1_gainByStair_56 rfl rfl ?_
      refine mr_i2l (pc' := 59) dX1_gainByStair_58 rfl ?_
      refine mr_aload_n (pc' := 60) dX1_gainByStair_59 rfl rfl ?_
      refine mr_getR (pc' := 63) (ci := 8) (j := 4) (b := (v1 + 5)) hR dX1_gainByStair_60 rfl rfl t1 (by decide) (by decide) (by decide) rfl (ly8_4 t1).1 ?_
      refine mr_iload (pc' := 65) dX1_gainByStair_63 rfl rfl ?_
      obtain ⟨a16, g17, h18⟩ := Option.bind_eq_some_iff.mp h6
      refine mr_lald (pc' := 66) dX1_gainByStair_65 rfl (ly8_4 t1).2.1 (ly8_4 t1).2.2 g17 ?_
      refine mr_lmul (pc' := 67) dX1_gainByStair_66 rfl ?_
      refine mr_ladd (pc' := 68) dX1_gainByStair_67 rfl ?_
      obtain rfl := Option.some.inj h18
      exact mr_lreturn dX1_gainByStair_68 rfl
    · rw [if_neg c15] at h6
      refine mr_lcmp_ge_f (t := 54) (pc' := 48) dX1_gainByStair_44 rfl dX1_gainByStair_45 (by decide) rfl c15 ?_
      refine mr_ldc2 (pc' := 51) (v := (-1 : Int64)) dX1_gainByStair_48 rfl rfl ?_
      refine mr_goto (t := 68) dX1_gainByStair_51 (by decide) ?_
      obtain rfl := Option.some.inj h6
      exact mr_lreturn dX1_gainByStair_68 rfl
