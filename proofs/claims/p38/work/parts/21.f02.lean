def lp_X1_bestFloor_6 (p1 : Nat) (p2 : Int32) (p3 : Int32) (S : fS) (K : Int32 → Option (Int32)) : Nat → Int32 → Int32 → Option (Int32)
  | 0, _, _ => none
  | n + 1, p4, p5 =>
    if (S.1 p1 6) ≤ p5 then (K p4) else
    ((f_X1_gainOf p2 p5 S).bind fun q2 =>
    (f_X1_gainOf p2 p4 S).bind fun q5 =>
    (f_X1_isBetter q2 q5 p3 S).bind fun q8 =>
    if q8 = (0 : Int32) then (lp_X1_bestFloor_6 p1 p2 p3 S K n p4 (p5 + (1 : Int32))) else
    (lp_X1_bestFloor_6 p1 p2 p3 S K n p5 (p5 + (1 : Int32))))
set_option maxHeartbeats 4000000 in
set_option maxRecDepth 100000 in
theorem ok_lp_X1_bestFloor_6 {X : mm_C} {RR : Nat → Nat → Option Nat} (hR : RRok RR) {p1 : Nat} {p2 : Int32} {p3 : Int32} (t1 : tg p1 = 8) {S : fS} {K : Int32 → Option (Int32)} {r : Int32} (hK : ∀ (k4 : Int32), K k4 = some r → mr X 1 mY_X1_bestFloor 51 [(4, .int k4)] [] (MM RR S) (some (.int r), MM RR S)) : ∀ (n : Nat) (p4 : Int32) (p5 : Int32), lp_X1_bestFloor_6 p1 p2 p3 S K n p4 p5 = some r → mr X 1 mY_X1_bestFloor 6 [(0, .ref 43), (1, .ref p1), (2, .int p2), (3, .int p3), (4, .int p4), (5, .int p5)] [] (MM RR S) (some (.int r), MM RR S) := by
  intro n
  induction n with
  | zero => intro p4 p5 h; exact mm_no h
  | succ n ih =>
    intro p4 p5 h
    unfold lp_X1_bestFloor_6 at h
    refine mr_iload (pc' := 8) dX1_bestFloor_6 rfl rfl ?_
    refine mr_aload_n (pc' := 9) dX1_bestFloor_8 rfl rfl ?_
    refine mr_getI (pc' := 12) (ci := 8) (j := 6) dX1_bestFloor_9 rfl rfl t1 (by decide) (by decide) rfl ?_
    by_cases c1 : (S.1 p1 6) ≤ p5
    · rw [if_pos c1] at h
      refine mr_icmp_ge_t (t := 51) dX1_bestFloor_12 (by decide) c1 ?_
      exact mr_sub [(4, .int p4)] ⟨rfl, trivial⟩ rfl (hK _  h)
    · rw [if_neg c1] at h
      refine mr_icmp_ge_f (t := 51) (pc' := 15) dX1_bestFloor_12 (by decide) rfl c1 ?_
      refine mr_aload_n (pc' := 16) dX1_bestFloor_15 rfl rfl ?_
      refine mr_iload_n (pc' := 17) dX1_bestFloor_16 rfl rfl ?_
      refine mr_iload (pc' := 19) dX1_bestFloor_17 rfl rfl ?_
      obtain ⟨q2, g3, h4⟩ := Option.bind_eq_some_iff.mp h
      refine mr_cv (pc' := 22) (a := 43) (d1 := 0) dX1_bestFloor_19 rfl rfl rfl rfl rfl rfl (by decide) rfl (by decide) (ok_X1_gainOf hR  g3) ?_
      show mr X _ _ 22 _ [.long q2] (MM RR S) _
      refine mr_aload_n (pc' := 23) dX1_bestFloor_22 rfl rfl ?_
      refine mr_iload_n (pc' := 24) dX1_bestFloor_23 rfl rfl ?_
      refine mr_iload (pc' := 26) dX1_bestFloor_24 rfl rfl ?_
      obtain ⟨q5, g6, h7⟩ := Option.bind_eq_some_iff.mp h4
      refine mr_cv (pc' := 29) (a := 43) (d1 := 0) dX1_bestFloor_26 rfl rfl rfl rfl rfl rfl (by decide) rfl (by decide) (ok_X1_gainOf hR  g6) ?_
      show mr X _ _ 29 _ [.long q5, .long q2] (MM RR S) _
      refine mr_iload_n (pc' := 30) dX1_bestFloor_29 rfl rfl ?_
      obtain ⟨q8, g9, h10⟩ := Option.bind_eq_some_iff.mp h7
      refine mr_cs (pc' := 33) (d1 := 0) dX1_bestFloor_30 rfl rfl rfl rfl (by decide) (Nat.le_of_ble_eq_true rfl) rfl rfl rfl (by decide) (ok_X1_isBetter hR  g9) ?_
      show mr X _ _ 33 _ [.int q8] (MM RR S) _
      by_cases c11 : q8 = (0 : Int32)
      · rw [if_pos c11] at h10
        refine mr_if_eq_t (t := 41) dX1_bestFloor_33 (by decide) c11 ?_
        refine mr_iload (pc' := 43) dX1_bestFloor_41 rfl rfl ?_
        refine mr_istore (pc' := 45) (lv' := [(4, .int p4), (0, .ref 43), (1, .ref p1), (2, .int p2), (3, .int p3), (5, .int p5)]) dX1_bestFloor_43 rfl (by decide) rfl ?_
        refine mr_iinc (pc' := 48) (x' := (p5 + (1 : Int32))) (lv' := [(5, .int (p5 + (1 : Int32))), (4, .int p4), (0, .ref 43), (1, .ref p1), (2, .int p2), (3, .int p3)]) dX1_bestFloor_45 rfl (by decide) rfl rfl rfl ?_
        refine mr_goto (t := 6) dX1_bestFloor_48 (by decide) ?_
        exact mr_sub [(0, .ref 43), (1, .ref p1), (2, .int p2), (3, .int p3), (4, .int p4), (5, .int (p5 + (1 : Int32)))] ⟨rfl, rfl, rfl, rfl, rfl, rfl, trivial⟩ rfl (ih _ _  h10)
      · rw [if_neg c11] at h10
        refine mr_if_eq_f (t := 41) (pc' := 36) dX1_bestFloor_33 (by decide) rfl c11 ?_
        refine mr_iload (pc' := 38) dX1_bestFloor_36 rfl rfl ?_
        refine mr_goto (t := 43) dX1_bestFloor_38 (by decide) ?_
        refine mr_istore (pc' := 45) (lv' := [(4, .int p5), (0, .ref 43), (1, .ref p1), (2, .int p2), (3, .int p3), (5, .int p5)]) dX1_bestFloor_43 rfl (by decide) rfl ?_
        refine mr_iinc (pc' := 48) (x' := (p5 + (1 : Int32))) (lv' := [(5, .int (p5 + (1 : Int32))), (4, .int p5), (0, .ref 43), (1, .ref p1), (2, .int p2), (3, .int p3)]) dX1_bestFloor_45 rfl (by decide) rfl rfl rfl ?_
        refine mr_goto (t := 6) dX1_bestFloor_48 (by decide) ?_
        exact mr_sub [(0, .ref 43), (1, .ref p1), (2, .int p2), (3, .int p3), (4, .int p5), (5, .int (p5 + (1 : Int32)))] ⟨rfl, rfl, rfl, rfl, rfl, rfl, trivial⟩ rfl (ih _ _  h10)
def f_X1_bestFloor (v1 : Nat) (v2 : Int32) (v3 : Int32) (S : fS) : Option (Int32) :=
  lp_X1_bestFloor_6 v1 v2 v3 S (fun u12 => some u12) FU (0 : Int32) (1 : Int32)
set_option maxHeartbeats 4000000 in
set_option maxRecDepth 100000 in
theorem ok_X1_bestFloor {X : mm_C} {RR : Nat → Nat → Option Nat} (hR : RRok RR) {v1 : Nat} {v2 : Int32} {v3 : Int32} (t1 : tg v1 = 8) {S : fS} {r : Int32} (h : f_X1_bestFloor v1 v2 v3 S = some r) : mr X 1 mY_X1_bestFloor 0 (lv_args 0 [.ref 43, .ref v1, .int v2, .int v3]) [] (MM RR S) (some (.int r), MM RR S) := by
  unfold f_X1_bestFloor at h
  show mr X _ _ 0 [(0, .ref 43), (1, .ref v1), (2, .int v2), (3, .int v3)] [] (MM RR S) _
  refine mr_iconst (pc' := 1) (v := (0 : Int32)) dX1_bestFloor_0 rfl (by decide) ?_
  refine mr_istore (pc' := 3) (lv' := [(4, .int (0 : Int32)), (0, .ref 43), (1, .ref v1), (2, .int v2), (3, .int v3)]) dX1_bestFloor_1 rfl (by decide) rfl ?_
  refine mr_iconst (pc' := 4) (v := (1 : Int32)) dX1_bestFloor_3 rfl (by decide) ?_
  refine mr_istore (pc' := 6) (lv' := [(5, .int (1 : Int32)), (4, .int (0 : Int32)), (0, .ref 43), (1, .ref v1), (2, .int v2), (3, .int v3)]) dX1_bestFloor_4 rfl (by decide) rfl ?_
  refine mr_sub [(0, .ref 43), (1, .ref v1), (2, .int v2), (3, .int v3), (4, .int (0 : Int32)), (5, .int (1 : Int32))] ⟨rfl, rfl, rfl, rfl, rfl, rfl, trivial⟩ rfl ?_
  refine ok_lp_X1_bestFloor_6 hR t1 (fun u12 h13 => ?_) FU _ _  h
  refine mr_iload (pc' := 53) dX1_bestFloor_51 rfl rfl ?_
  obtain rfl := Option.some.inj h13
  exact mr_ireturn dX1_bestFloor_53 rfl
def f_X10_waiting (v1 : Int32) (v2 : Int32) (v3 : Int32) (S : fS) : Option (Int32 × fS) :=
  (f_X10_isStanding v1 S).bind fun q1 =>
  if q1 = (0 : Int32) then (some ((-1 : Int32), S)) else
  ((f_X10_isFrom v2 (0 : Int32) (120 : Int32) S).bind fun q5 =>
  if q5 = (0 : Int32) then (some ((-1 : Int32), S)) else
  ((gI S 12 8 v1).bind fun a9 =>
  (f_X1_measure 4 a9 v2 v3 S).bind fun q12 =>
  (f_X1_bestFloor 4 v2 v3 q12).bind fun q15 =>
  some (q15, q12)))
set_option maxHeartbeats 4000000 in
set_option maxRecDepth 100000 in
theorem ok_X10_waiting {X : mm_C} {RR : Nat → Nat → Option Nat} (hR : RRok RR) {v1 : Int32} {v2 : Int32} {v3 : Int32}  {S : fS} {r : Int32 × fS} (h : f_X10_waiting v1 v2 v3 S = some r) : mr X 4 mY_X10_waiting 0 (lv_args 0 [.ref 0, .int v1, .int v2, .int v3]) [] (MM RR S) (some (.int r.1), MM RR r.2) := by
  unfold f_X10_waiting at h
  show mr X _ _ 0 [(0, .ref 0), (1, .int v1), (2, .int v2), (3, .int v3)] [] (MM RR S) _
  refine mr_aload_n (pc' := 1) dX10_waiting_0 rfl rfl ?_
  refine mr_iload_n (pc' := 2) dX10_waiting_1 rfl rfl ?_
  obtain ⟨q1, g2, h3⟩ := Option.bind_eq_some_iff.mp h
  refine mr_cv (pc' := 5) (a := 0) (d1 := 2) dX10_waiting_2 rfl rfl rfl rfl rfl rfl (by decide) rfl (by decide) (ok_X10_isStanding hR  g2) ?_
  show mr X _ _ 5 _ [.int q1] (MM RR S) _
  by_cases c4 : q1 = (0 : Int32)
  · rw [if_pos c4] at h3
    refine mr_if_eq_t (t := 18) dX10_waiting_5 (by decide) c4 ?_
    refine mr_iconst (pc' := 19) (v := (-1 : Int32)) dX10_waiting_18 rfl (by decide) ?_
    obtain rfl := Option.some.inj h3
    exact mr_ireturn dX10_waiting_19 rfl
  · rw [if_neg c4] at h3
    refine mr_if_eq_f (t := 18) (pc' := 8) dX10_waiting_5 (by decide) rfl c4 ?_
    refine mr_iload_n (pc' := 9) dX10_waiting_8 rfl rfl ?_
    refine mr_iconst (pc' := 10) (v := (0 : Int32)) dX10_waiting_9 rfl (by decide) ?_
    refine mr_bipush (pc' := 12) (v := (120 : Int32)) dX10_waiting_10 rfl (by decide) ?_
    obtain ⟨q5, g6, h7⟩ := Option.bind_eq_some_iff.mp h3
    refine mr_cs (pc' := 15) (d1 := 0) dX10_waiting_12 rfl rfl rfl rfl (by decide) (Nat.le_of_ble_eq_true rfl) rfl rfl rfl (by decide) (ok_X10_isFrom hR  g6) ?_
    show mr X _ _ 15 _ [.int q5] (MM RR S) _
    by_cases c8 : q5 = (0 : Int32)
    · rw [if_pos c8] at h7
      refine mr_if_ne_f (t := 20) (pc' := 18) dX10_waiting_15 (by decide) rfl (not_not_intro c8) ?_
      refine mr_iconst (pc' := 19) (v := (-1 : Int32)) dX10_waiting_18 rfl (by decide) ?_
      obtain rfl := Option.some.inj h7
      exact mr_ireturn dX10_waiting_19 rfl
    · rw [if_neg c8] at h7
      refine mr_if_ne_t (t := 20) dX10_waiting_15 (by decide) c8 ?_
      refine mr_aload_n (pc' := 21) dX10_waiting_20 rfl rfl ?_
      refine mr_getR (pc' := 24) (ci := 10) (j := 8) (b := 43) hR dX10_waiting_21 rfl rfl rfl (by decide) (by decide) (by decide) rfl rfl ?_
      refine mr_aload_n (pc' := 25) dX10_waiting_24 rfl rfl ?_
      refine mr_getR (pc' := 28) (ci := 10) (j := 1) (b := 3) hR dX10_waiting_25 rfl rfl rfl (by decide) (by decide) (by decide) rfl rfl ?_
      refine mr_getR (pc' := 31) (ci := 6) (j := 0) (b := 4) hR dX10_waiting_28 rfl rfl rfl (by decide) (by decide) (by decide) rfl rfl ?_
      refine mr_aload_n (pc' := 32) dX10_waiting_31 rfl rfl ?_
      refine mr_getR (pc' := 35) (ci := 10) (j := 1) (b := 3) hR dX10_waiting_32 rfl rfl rfl (by decide) (by decide) (by decide) rfl rfl ?_
      refine mr_getR (pc' := 38) (ci := 6) (j := 1) (b := 11) hR dX10_waiting_35 rfl rfl rfl (by decide) (by decide) (by decide) rfl rfl ?_
      refine mr_getR (pc' := 41) (ci := 0) (j := 0) (b := 12) hR dX10_waiting_38 rfl rfl rfl (by decide) (by decide) (by decide) rfl rfl ?_
      refine mr_iload_n (pc' := 42) dX10_waiting_41 rfl rfl ?_
      obtain ⟨a9, g10, h11⟩ := Option.bind_eq_some_iff.mp h7
      refine mr_iald (pc' := 43) dX10_waiting_42 rfl rfl rfl g10 ?_
      refine mr_iload_n (pc' := 44) dX10_waiting_43 rfl rfl ?_
      refine mr_iload_n (pc' := 45) dX10_waiting_44 rfl rfl ?_
      obtain ⟨q12, g13, h14⟩ := Option.bind_eq_some_iff.mp h11
      refine mr_cv (pc' := 48) (a := 43) (d1 := 3) dX10_waiting_45 rfl rfl rfl rfl rfl rfl (by decide) rfl (by decide) (ok_X1_measure hR rfl g13) ?_
      show mr X _ _ 48 _ [] (MM RR q12) _
      refine mr_aload_n (pc' := 49) dX10_waiting_48 rfl rfl ?_
      refine mr_getR (pc' := 52) (ci := 10) (j := 8) (b := 43) hR dX10_waiting_49 rfl rfl rfl (by decide) (by decide) (by decide) rfl rfl ?_
      refine mr_aload_n (pc' := 53) dX10_waiting_52 rfl rfl ?_
      refine mr_getR (pc' := 56) (ci := 10) (j := 1) (b := 3) hR dX10_waiting_53 rfl rfl rfl (by decide) (by decide) (by decide) rfl rfl ?_
      refine mr_getR (pc' := 59) (ci := 6) (j := 0) (b := 4) hR dX10_waiting_56 rfl rfl rfl (by decide) (by decide) (by decide) rfl rfl ?_
      refine mr_iload_n (pc' := 60) dX10_waiting_59 rfl rfl ?_
      refine mr_iload_n (pc' := 61) dX10_waiting_60 rfl rfl ?_
      obtain ⟨q15, g16, h17⟩ := Option.bind_eq_some_iff.mp h14
      refine mr_cv (pc' := 64) (a := 43) (d1 := 1) dX10_waiting_61 rfl rfl rfl rfl rfl rfl (by decide) rfl (by decide) (ok_X1_bestFloor hR rfl g16) ?_
      show mr X _ _ 64 _ [.int q15] (MM RR q12) _
      obtain rfl := Option.some.inj h17
      exact mr_ireturn dX10_waiting_64 rfl
def f_X10_when (v1 : Int32) (v2 : Int32) (v3 : Int32) (v4 : Int32) (S : fS) : Option (Int64) :=
  (f_X10_isThing v1 S).bind fun q1 =>
  if q1 = (0 : Int32) then (some (-1 : Int64)) else
  ((f_X10_isFloor v2 S).bind fun q5 =>
  if q5 = (0 : Int32) then (some (-1 : Int64)) else
  ((f_X10_isFrom v3 (0 : Int32) (9999 : Int32) S).bind fun q9 =>
  if q9 = (0 : Int32) then (some (-1 : Int64)) else
  ((f_X10_isPart v4 S).bind fun q13 =>
  if q13 = (0 : Int32) then (some (-1 : Int64)) else
  ((gL S 16 8 v1).bind fun a17 =>
  if (0 : Int64) ≤ (((Int32.toInt64 v3) * (232792560 : Int64)) - a17) then ((gL S 5 10 v2).bind fun a21 =>
  (f_X10_lowest (((Int32.toInt64 v3) * (232792560 : Int64)) - a17) a21 v4 S).bind fun q24 =>
  some q24) else
  (some (-2 : Int64))))))
set_option maxHeartbeats 4000000 in
set_option maxRecDepth 100000 in
theorem ok_X10_when {X : mm_C} {RR : Nat → Nat → Option Nat} (hR : RRok RR) {v1 : Int32} {v2 : Int32} {v3 : Int32} {v4 : Int32}  {S : fS} {r : Int64} (h : f_X10_when v1 v2 v3 v4 S = some r) : mr X 3 mY_X10_when 0 (lv_args 0 [.ref 0, .int v1, .int v2, .int v3, .int v4]) [] (MM RR S) (some (.long r), MM RR S) := by
  unfold f_X10_when at h
  show mr X _ _ 0 [(0, .ref 0), (1, .int v1), (2, .int v2), (3, .int v3), (4, .int v4)] [] (MM RR S) _
  refine mr_aload_n (pc' := 1) dX10_when_0 rfl rfl ?_
  refine mr_iload_n (pc' := 2) dX10_when_1 rfl rfl ?_
  obtain ⟨q1, g2, h3⟩ := Option.bind_eq_some_iff.mp h
  refine mr_cv (pc' := 5) (a := 0) (d1 := 1) dX10_when_2 rfl rfl rfl rfl rfl rfl (by decide) rfl (by decide) (ok_X10_isThing hR  g2) ?_
  show mr X _ _ 5 _ [.int q1] (MM RR S) _
  by_cases c4 : q1 = (0 : Int32)
  · rw [if_pos c4] at h3
    refine mr_if_eq_t (t := 35) dX10_when_5 (by decide) c4 ?_
    refine mr_ldc2 (pc' := 38) (v := (-1 : Int64)) dX10_when_35 rfl rfl ?_
    obtain rfl := Option.some.inj h3
    exact mr_lreturn dX10_when_38 rfl
  · rw [if_neg c4] at h3
    refine mr_if_eq_f (t := 35) (pc' := 8) dX10_when_5 (by decide) rfl c4 ?_
    refine mr_aload_n (pc' := 9) dX10_when_8 rfl rfl ?_
    refine mr_iload_n (pc' := 10) dX10_when_9 rfl rfl ?_
    obtain ⟨q5, g6, h7⟩ := Option.bind_eq_some_iff.mp h3
    refine mr_cv (pc' := 13) (a := 0) (d1 := 1) dX10_when_10 rfl rfl rfl rfl rfl rfl (by decide) rfl (by decide) (ok_X10_isFloor hR  g6) ?_
    show mr X _ _ 13 _ [.int q5] (MM RR S) _
    by_cases c8 : q5 = (0 : Int32)
    · rw [if_pos c8] at h7
      refine mr_if_eq_t (t := 35) dX10_when_13 (by decide) c8 ?_
      refine mr_ldc2 (pc' := 38) (v := (-1 : Int64)) dX10_when_35 rfl rfl ?_
      obtain rfl := Option.some.inj h7
      exact mr_lreturn dX10_when_38 rfl
    · rw [if_neg c8] at h7
      refine mr_if_eq_f (t := 35) (pc' := 16) dX10_when_13 (by decide) rfl c8 ?_
      refine mr_iload_n (pc' := 17) dX10_when_16 rfl rfl ?_
      refine mr_iconst (pc' := 18) (v := (0 : Int32)) dX10_when_17 rfl (by decide) ?_
      refine mr_sipush (pc' := 21) (v := (9999 : Int32)) dX10_when_18 rfl (by decide) ?_
      obtain ⟨q9, g10, h11⟩ := Option.bind_eq_some_iff.mp h7
      refine mr_cs (pc' := 24) (d1 := 0) dX10_when_21 rfl rfl rfl rfl (by decide) (Nat.le_of_ble_eq_true rfl) rfl rfl rfl (by decide) (ok_X10_isFrom hR  g10) ?_
      show mr X _ _ 24 _ [.int q9] (MM RR S) _
      by_cases c12 : q9 = (0 : Int32)
      · rw [if_pos c12] at h11
        refine mr_if_eq_t (t := 35) dX10_when_24 (by decide) c12 ?_
        refine mr_ldc2 (pc' := 38) (v := (-1 : Int64)) dX10_when_35 rfl rfl ?_
        obtain rfl := Option.some.inj h11
        exact mr_lreturn dX10_when_38 rfl
      · rw [if_neg c12] at h11
        refine mr_if_eq_f (t := 35) (pc' := 27) dX10_when_24 (by decide) rfl c12 ?_
        refine mr_iload (pc' := 29) dX10_when_27 rfl rfl ?_
        obtain ⟨q13, g14, h15⟩ := Option.bind_eq_some_iff.mp h11
        refine mr_cs (pc' := 32) (d1 := 1) dX10_when_29 rfl rfl rfl rfl (by decide) (Nat.le_of_ble_eq_true rfl) rfl rfl rfl (by decide) (ok_X10_isPart hR  g14) ?_
        show mr X _ _ 32 _ [.int q13] (MM RR S) _
        by_cases c16 : q13 = (0 : Int32)
        · rw [if_pos c16] at h15
          refine mr_if_ne_f (t := 39) (pc' := 35) dX10_when_32 (by decide) rfl (not_not_intro c16) ?_
          refine mr_ldc2 (pc' := 38) (v := (-1 : Int64)) dX10_when_35 rfl rfl ?_
          obtain rfl := Option.some.inj h15
          exact mr_lreturn dX10_when_38 rfl
        · rw [if_neg c16] at h15
          refine mr_if_ne_t (t := 39) dX10_when_32 (by decide) c16 ?_
          refine mr_iload_n (pc' := 40) dX10_when_39 rfl rfl ?_
          refine mr_i2l (pc' := 41) dX10_when_40 rfl ?_
          refine mr_ldc2 (pc' := 44) (v := (232792560 : Int64)) dX10_when_41 rfl rfl ?_
          refine mr_lmul (pc' := 45) dX10_when_44 rfl ?_
          refine mr_aload_n (pc' := 46) dX10_when_45 rfl rfl ?_
          refine mr_getR (pc' := 49) (ci := 10) (j := 1) (b := 3) hR dX10_when_46 rfl rfl rfl (by decide) (by decide) (by decide) rfl rfl ?_
          refine mr_getR (pc' := 52) (ci := 6) (j := 1) (b := 11) hR dX10_when_49 rfl rfl rfl (by decide) (by decide) (by decide) rfl rfl ?_
          refine mr_getR (pc' := 55) (ci := 0) (j := 4) (b := 16) hR dX10_when_52 rfl rfl rfl (by decide) (by decide) (by decide) rfl rfl ?_
          refine mr_iload_n (pc' := 56) dX10_when_55 rfl rfl ?_
          obtain ⟨a17, g18, h19⟩ := Option.bind_eq_some_iff.mp h15
          refine mr_lald (pc' := 57) dX10_when_56 rfl rfl rfl g18 ?_
          refine mr_lsub (pc' := 58) dX10_when_57 rfl ?_
          refine mr_lstore (pc' := 60) (lv' := [(5, .long (((Int32.toInt64 v3) * (232792560 : Int64)) - a17)), (0, .ref 0), (1, .int v1), (2, .int v2), (3, .int v3), (4, .int v4)]) dX10_when_58 rfl (by decide) rfl ?_
          refine mr_lload (pc' := 62) dX10_when_60 rfl rfl ?_
          refine mr_lconst (pc' := 63) (v := (0 : Int64)) dX10_when_62 rfl (by decide) ?_
          by_cases c20 : (0 : Int64) ≤ (((Int32.toInt64 v3) * (232792560 : Int64)) - a17)
          · rw [if_pos c20] at h19
            refine mr_lcmp_ge_t (t := 71) dX10_when_63 rfl dX10_when_64 (by decide) c20 ?_
            refine mr_lload (pc' := 73) dX10_when_71 rfl rfl ?_
            refine mr_aload_n (pc' := 74) dX10_when_73 rfl rfl ?_
            refine mr_getR (pc' := 77) (ci := 10) (j := 1) (b := 3) hR dX10_when_74 rfl rfl rfl (by decide) (by decide) (by decide) rfl rfl ?_
            refine mr_getR (pc' := 80) (ci := 6) (j := 0) (b := 4) hR dX10_when_77 rfl rfl rfl (by decide) (by decide) (by decide) rfl rfl ?_
            refine mr_getR (pc' := 83) (ci := 8) (j := 0) (b := 5) hR dX10_when_80 rfl rfl rfl (by decide) (by decide) (by decide) rfl rfl ?_
            refine mr_iload_n (pc' := 84) dX10_when_83 rfl rfl ?_
            obtain ⟨a21, g22, h23⟩ := Option.bind_eq_some_iff.mp h19
            refine mr_lald (pc' := 85) dX10_when_84 rfl rfl rfl g22 ?_
            refine mr_iload (pc' := 87) dX10_when_85 rfl rfl ?_
            obtain ⟨q24, g25, h26⟩ := Option.bind_eq_some_iff.mp h23
            refine mr_cs (pc' := 90) (d1 := 2) dX10_when_87 rfl rfl rfl rfl (by decide) (Nat.le_of_ble_eq_true rfl) rfl rfl rfl (by decide) (ok_X10_lowest hR  g25) ?_
            show mr X _ _ 90 _ [.long q24] (MM RR S) _
            obtain rfl := Option.some.inj h26
            exact mr_lreturn dX10_when_90 rfl
          · rw [if_neg c20] at h19
            refine mr_lcmp_ge_f (t := 71) (pc' := 67) dX10_when_63 rfl dX10_when_64 (by decide) rfl c20 ?_
            refine mr_ldc2 (pc' := 70) (v := (-2 : Int64)) dX10_when_67 rfl rfl ?_
            obtain rfl := Option.some.inj h19
            exact mr_lreturn dX10_when_70 rfl
def f_X10_shown (v1 : Int32) (v2 : Int32) (v3 : Int32) (S : fS) : Option (Int32) :=
  (f_X10_isFloor v1 S).bind fun q1 =>
  if q1 = (0 : Int32) then (some (-1 : Int32)) else
  ((f_X10_isHour v2 S).bind fun q5 =>
  if q5 = (0 : Int32) then (some (-1 : Int32)) else
  ((f_X10_isFrom v3 (0 : Int32) (1 : Int32) S).bind fun q9 =>
  if q9 = (0 : Int32) then (some (-1 : Int32)) else
  ((f_X8_clockAt 4 v1 v2 S).bind fun q13 =>
  if v3 = (0 : Int32) then ((dL q13 (5587021440 : Int64)).bind fun a23 =>
  some (Int64.toInt32 a23)) else
  ((rL q13 (5587021440 : Int64)).bind fun a17 =>
  (dL a17 (232792560 : Int64)).bind fun a20 =>
  some (Int64.toInt32 a20)))))
set_option maxHeartbeats 4000000 in
set_option maxRecDepth 100000 in
theorem ok_X10_shown {X : mm_C} {RR : Nat → Nat → Option Nat} (hR : RRok RR) {v1 : Int32} {v2 : Int32} {v3 : Int32}  {S : fS} {r : Int32} (h : f_X10_shown v1 v2 v3 S = some r) : mr X 2 mY_X10_shown 0 (lv_args 0 [.ref 0, .int v1, .int v2, .int v3]) [] (MM RR S) (some (.int r), MM RR S) := by
  unfold f_X10_shown at h
  show mr X _ _ 0 [(0, .ref 0), (1, .int v1), (2, .int v2), (3, .int v3)] [] (MM RR S) _
  refine mr_aload_n (pc' := 1) dX10_shown_0 rfl rfl ?_
  refine mr_iload_n (pc' := 2) dX10_shown_1 rfl rfl ?_
  obtain ⟨q1, g2, h3⟩ := Option.bind_eq_some_iff.mp h
  refine mr_cv (pc' := 5) (a := 0) (d1 := 1) dX10_shown_2 rfl rfl rfl rfl rfl rfl (by decide) rfl (by decide) (ok_X10_isFloor hR  g2) ?_
  show mr X _ _ 5 _ [.int q1] (MM RR S) _
  by_cases c4 : q1 = (0 : Int32)
  · rw [if_pos c4] at h3
    refine mr_if_eq_t (t := 24) dX10_shown_5 (by decide) c4 ?_
    refine mr_iconst (pc' := 25) (v := (-1 : Int32)) dX10_shown_24 rfl (by decide) ?_
    obtain rfl := Option.some.inj h3
    exact mr_ireturn dX10_shown_25 rfl
  · rw [if_neg c4] at h3
    refine mr_if_eq_f (t := 24) (pc' := 8) dX10_shown_5 (by decide) rfl c4 ?_
    refine mr_iload_n (pc' := 9) dX10_shown_8 rfl rfl ?_
    obtain ⟨q5, g6, h7⟩ := Option.bind_eq_some_iff.mp h3
    refine mr_cs (pc' := 12) (d1 := 1) dX10_shown_9 rfl rfl rfl rfl (by decide) (Nat.le_of_ble_eq_true rfl) rfl rfl rfl (by decide) (ok_X10_isHour hR  g6) ?_
    show mr X _ _ 12 _ [.int q5] (MM RR S) _
    by_cases c8 : q5 = (0 : Int32)
    · rw [if_pos c8] at h7
      refine mr_if_eq_t (t := 24) dX10_shown_12 (by decide) c8 ?_
      refine mr_iconst (pc' := 25) (v := (-1 : Int32)) dX10_shown_24 rfl (by decide) ?_
      obtain rfl := Option.some.inj h7
      exact mr_ireturn dX10_shown_25 rfl
    · rw [if_neg c8] at h7
      refine mr_if_eq_f (t := 24) (pc' := 15) dX10_shown_12 (by decide) rfl c8 ?_
      refine mr_iload_n (pc' := 16) dX10_shown_15 rfl rfl ?_
      refine mr_iconst (pc' := 17) (v := (0 : Int32)) dX10_shown_16 rfl (by decide) ?_
      refine mr_iconst (pc' := 18) (v := (1 : Int32)) dX10_shown_17 rfl (by decide) ?_
      obtain ⟨q9, g10, h11⟩ := Option.bind_eq_some_iff.mp h7
      refine mr_cs (pc' := 21) (d1 := 0) dX10_shown_18 rfl rfl rfl rfl (by decide) (Nat.le_of_ble_eq_true rfl) rfl rfl rfl (by decide) (ok_X10_isFrom hR  g10) ?_
      show mr X _ _ 21 _ [.int q9] (MM RR S) _
      by_cases c12 : q9 = (0 : Int32)
      · rw [if_pos c12] at h11
        refine mr_if_ne_f (t := 26) (pc' := 24) dX10_shown_21 (by decide) rfl (not_not_intro c12) ?_
        refine mr_iconst (pc' := 25) (v := (-1 : Int32)) dX10_shown_24 rfl (by decide) ?_
        obtain rfl := Option.some.inj h11
        exact mr_ireturn dX10_shown_25 rfl
      · rw [if_neg c12] at h11
        refine mr_if_ne_t (t := 26) dX10_shown_21 (by decide) c12 ?_
        refine mr_aload_n (pc' := 27) dX10_shown_26 rfl rfl ?_
        refine mr_getR (pc' := 30) (ci := 10) (j := 1) (b := 3) hR dX10_shown_27 rfl rfl rfl (by decide) (by decide) (by decide) rfl rfl ?_
        refine mr_getR (pc' := 33) (ci := 6) (j := 0) (b := 4) hR dX10_shown_30 rfl rfl rfl (by decide) (by decide) (by decide) rfl rfl ?_
        refine mr_iload_n (pc' := 34) dX10_shown_33 rfl rfl ?_
        refine mr_iload_n (pc' := 35) dX10_shown_34 rfl rfl ?_
        obtain ⟨q13, g14, h15⟩ := Option.bind_eq_some_iff.mp h11
        refine mr_cv (pc' := 38) (a := 4) (d1 := 0) dX10_shown_35 rfl rfl rfl rfl rfl rfl (by decide) rfl (by decide) (ok_X8_clockAt hR rfl g14) ?_
        show mr X _ _ 38 _ [.long q13] (MM RR S) _
        refine mr_lstore (pc' := 40) (lv' := [(4, .long q13), (0, .ref 0), (1, .int v1), (2, .int v2), (3, .int v3)]) dX10_shown_38 rfl (by decide) rfl ?_
        refine mr_iload_n (pc' := 41) dX10_shown_40 rfl rfl ?_
        by_cases c16 : v3 = (0 : Int32)
        · rw [if_pos c16] at h15
          refine mr_if_ne_f (t := 53) (pc' := 44) dX10_shown_41 (by decide) rfl (not_not_intro c16) ?_
          refine mr_lload (pc' := 46) dX10_shown_44 rfl rfl ?_
          refine mr_ldc2 (pc' := 49) (v := (5587021440 : Int64)) dX10_shown_46 rfl rfl ?_
          obtain ⟨a23, g24, h25⟩ := Option.bind_eq_some_iff.mp h15
          refine mr_ldiv (pc' := 50) dX10_shown_49 rfl g24 ?_
          refine mr_goto (t := 63) dX10_shown_50 (by decide) ?_
          refine mr_l2i (pc' := 64) dX10_shown_63 rfl ?_
          obtain rfl := Option.some.inj h25
          exact mr_ireturn dX10_shown_64 rfl
        · rw [if_neg c16] at h15
          refine mr_if_ne_t (t := 53) dX10_shown_41 (by decide) c16 ?_
          refine mr_lload (pc' := 55) dX10_shown_53 rfl rfl ?_
          refine mr_ldc2 (pc' := 58) (v := (5587021440 : Int64)) dX10_shown_55 rfl rfl ?_
          obtain ⟨a17, g18, h19⟩ := Option.bind_eq_some_iff.mp h15
          refine mr_lrem (pc' := 59) dX10_shown_58 rfl g18 ?_
          refine mr_ldc2 (pc' := 62) (v := (232792560 : Int64)) dX10_shown_59 rfl rfl ?_
          obtain ⟨a20, g21, h22⟩ := Option.bind_eq_some_iff.mp h19
          refine mr_ldiv (pc' := 63) dX10_shown_62 rfl g21 ?_
          refine mr_l2i (pc' := 64) dX10_shown_63 rfl ?_
          obtain rfl := Option.some.inj h22
          exact mr_ireturn dX10_shown_64 rfl
def f_X10_noonsUpTo (v0 : Int64) (S : fS) : Option (Int64) :=
  if (2793510720 : Int64) ≤ v0 then ((dL (v0 - (2793510720 : Int64)) (5587021440 : Int64)).bind fun a2 =>
  some (a2 + (1 : Int64))) else
  (some (0 : Int64))
set_option maxHeartbeats 4000000 in
set_option maxRecDepth 100000 in
theorem ok_X10_noonsUpTo {X : mm_C} {RR : Nat → Nat → Option Nat} (hR : RRok RR) {v0 : Int64}  {S : fS} {r : Int64} (h : f_X10_noonsUpTo v0 S = some r) : mr X 0 mY_X10_noonsUpTo 0 (lv_args 0 [.long v0]) [] (MM RR S) (some (.long r), MM RR S) := by
  unfold f_X10_noonsUpTo at h
  show mr X _ _ 0 [(0, .long v0)] [] (MM RR S) _
  refine mr_lload_n (pc' := 1) dX10_noonsUpTo_0 rfl rfl ?_
  refine mr_ldc2 (pc' := 4) (v := (2793510720 : Int64)) dX10_noonsUpTo_1 rfl rfl ?_
  by_cases c1 : (2793510720 : Int64) ≤ v0
  · rw [if_pos c1] at h
    refine mr_lcmp_ge_t (t := 12) dX10_noonsUpTo_4 rfl dX10_noonsUpTo_5 (by decide) c1 ?_
    refine mr_lload_n (pc' := 13) dX10_noonsUpTo_12 rfl rfl ?_
    refine mr_ldc2 (pc' := 16) (v := (2793510720 : Int64)) dX10_noonsUpTo_13 rfl rfl ?_
    refine mr_lsub (pc' := 17) dX10_noonsUpTo_16 rfl ?_
    refine mr_ldc2 (pc' := 20) (v := (5587021440 : Int64)) dX10_noonsUpTo_17 rfl rfl ?_
    obtain ⟨a2, g3, h4⟩ := Option.bind_eq_some_iff.mp h
    refine mr_ldiv (pc' := 21) dX10_noonsUpTo_20 rfl g3 ?_
    refine mr_lconst (pc' := 22) (v := (1 : Int64)) dX10_noonsUpTo_21 rfl (by decide) ?_
    refine mr_ladd (pc' := 23) dX10_noonsUpTo_22 rfl ?_
    obtain rfl := Option.some.inj h4
    exact mr_lreturn dX10_noonsUpTo_23 rfl
  · rw [if_neg c1] at h
    refine mr_lcmp_ge_f (t := 12) (pc' := 8) dX10_noonsUpTo_4 rfl dX10_noonsUpTo_5 (by decide) rfl c1 ?_
    refine mr_lconst (pc' := 9) (v := (0 : Int64)) dX10_noonsUpTo_8 rfl (by decide) ?_
    refine mr_goto (t := 23) dX10_noonsUpTo_9 (by decide) ?_
    obtain rfl := Option.some.inj h
    exact mr_lreturn dX10_noonsUpTo_23 rfl
def f_X10_noonsIn (v1 : Int32) (v2 : Int32) (v3 : Int32) (S : fS) : Option (Int32) :=
  (f_X10_isFloor v1 S).bind fun q1 =>
  if q1 = (0 : Int32) then (some (-1 : Int32)) else
  ((f_X10_isHour v2 S).bind fun q5 =>
  if q5 = (0 : Int32) then (some (-1 : Int32)) else
  ((f_X10_isFrom v3 v2 (9999 : Int32) S).bind fun q9 =>
  if q9 = (0 : Int32) then (some (-1 : Int32)) else
  ((f_X8_clockAt 4 v1 v2 S).bind fun q13 =>
  (f_X8_clockAt 4 v1 v3 S).bind fun q16 =>
  (f_X10_noonsUpTo q16 S).bind fun q19 =>
  (f_X10_noonsUpTo (q13 - (1 : Int64)) S).bind fun q22 =>
  some (Int64.toInt32 (q19 - q22)))))
set_option maxHeartbeats 4000000 in
set_option maxRecDepth 100000 in
theorem ok_X10_noonsIn {X : mm_C} {RR : Nat → Nat → Option Nat} (hR : RRok RR) {v1 : Int32} {v2 : Int32} {v3 : Int32}  {S : fS} {r : Int32} (h : f_X10_noonsIn v1 v2 v3 S = some r) : mr X 2 mY_X10_noonsIn 0 (lv_args 0 [.ref 0, .int v1, .int v2, .int v3]) [] (MM RR S) (some (.int r), MM RR S) := by
  unfold f_X10_noonsIn at h
  show mr X _ _ 0 [(0, .ref 0), (1, .int v1), (2, .int v2), (3, .int v3)] [] (MM RR S) _
  refine mr_aload_n (pc' := 1) dX10_noonsIn_0 rfl rfl ?_
  refine mr_iload_n (pc' := 2) dX10_noonsIn_1 rfl rfl ?_
  obtain ⟨q1, g2, h3⟩ := Option.bind_eq_some_iff.mp h
  refine mr_cv (pc' := 5) (a := 0) (d1 := 1) dX10_noonsIn_2 rfl rfl rfl rfl rfl rfl (by decide) rfl (by decide) (ok_X10_isFloor hR  g2) ?_
  show mr X _ _ 5 _ [.int q1] (MM RR S) _
  by_cases c4 : q1 = (0 : Int32)
  · rw [if_pos c4] at h3
    refine mr_if_eq_t (t := 26) dX10_noonsIn_5 (by decide) c4 ?_
    refine mr_iconst (pc' := 27) (v := (-1 : Int32)) dX10_noonsIn_26 rfl (by decide) ?_
    obtain rfl := Option.some.inj h3
    exact mr_ireturn dX10_noonsIn_27 rfl
  · rw [if_neg c4] at h3
    refine mr_if_eq_f (t := 26) (pc' := 8) dX10_noonsIn_5 (by decide) rfl c4 ?_
    refine mr_iload_n (pc' := 9) dX10_noonsIn_8 rfl rfl ?_
    obtain ⟨q5, g6, h7⟩ := Option.bind_eq_some_iff.mp h3
    refine mr_cs (pc' := 12) (d1 := 1) dX10_noonsIn_9 rfl rfl rfl rfl (by decide) (Nat.le_of_ble_eq_true rfl) rfl rfl rfl (by decide) (ok_X10_isHour hR  g6) ?_
    show mr X _ _ 12 _ [.int q5] (MM RR S) _
    by_cases c8 : q5 = (0 : Int32)
    · rw [if_pos c8] at h7
      refine mr_if_eq_t (t := 26) dX10_noonsIn_12 (by decide) c8 ?_
      refine mr_iconst (pc' := 27) (v := (-1 : Int32)) dX10_noonsIn_26 rfl (by decide) ?_
      obtain rfl := Option.some.inj h7
      exact mr_ireturn dX10_noonsIn_27 rfl
    · rw [if_neg c8] at h7
      refine mr_if_eq_f (t := 26) (pc' := 15) dX10_noonsIn_12 (by decide) rfl c8 ?_
      refine mr_iload_n (pc' := 16) dX10_noonsIn_15 rfl rfl ?_
      refine mr_iload_n (pc' := 17) dX10_noonsIn_16 rfl rfl ?_
      refine mr_sipush (pc' := 20) (v := (9999 : Int32)) dX10_noonsIn_17 rfl (by decide) ?_
      obtain ⟨q9, g10, h11⟩ := Option.bind_eq_some_iff.mp h7
      refine mr_cs (pc' := 23) (d1 := 0) dX10_noonsIn_20 rfl rfl rfl rfl (by decide) (Nat.le_of_ble_eq_true rfl) rfl rfl rfl (by decide) (ok_X10_isFrom hR  g10) ?_
      show mr X _ _ 23 _ [.int q9] (MM RR S) _
      by_cases c12 : q9 = (0 : Int32)
      · rw [if_pos c12] at h11
        refine mr_if_ne_f (t := 28) (pc' := 26) dX10_noonsIn_23 (by decide) rfl (not_not_intro c12) ?_
        refine mr_iconst (pc' := 27) (v := (-1 : Int32)) dX10_noonsIn_26 rfl (by decide) ?_
        obtain rfl := Option.some.inj h11
        exact mr_ireturn dX10_noonsIn_27 rfl
      · rw [if_neg c12] at h11
        refine mr_if_ne_t (t := 28) dX10_noonsIn_23 (by decide) c12 ?_
        refine mr_aload_n (pc' := 29) dX10_noonsIn_28 rfl rfl ?_
        refine mr_getR (pc' := 32) (ci := 10) (j := 1) (b := 3) hR dX10_noonsIn_29 rfl rfl rfl (by decide) (by decide) (by decide) rfl rfl ?_
        refine mr_getR (pc' := 35) (ci := 6) (j := 0) (b := 4) hR dX10_noonsIn_32 rfl rfl rfl (by decide) (by decide) (by decide) rfl rfl ?_
        refine mr_iload_n (pc' := 36) dX10_noonsIn_35 rfl rfl ?_
        refine mr_iload_n (pc' := 37) dX10_noonsIn_36 rfl rfl ?_
        obtain ⟨q13, g14, h15⟩ := Option.bind_eq_some_iff.mp h11
        refine mr_cv (pc' := 40) (a := 4) (d1 := 0) dX10_noonsIn_37 rfl rfl rfl rfl rfl rfl (by decide) rfl (by decide) (ok_X8_clockAt hR rfl g14) ?_
        show mr X _ _ 40 _ [.long q13] (MM RR S) _
        refine mr_lconst (pc' := 41) (v := (1 : Int64)) dX10_noonsIn_40 rfl (by decide) ?_
        refine mr_lsub (pc' := 42) dX10_noonsIn_41 rfl ?_
        refine mr_lstore (pc' := 44) (lv' := [(4, .long (q13 - (1 : Int64))), (0, .ref 0), (1, .int v1), (2, .int v2), (3, .int v3)]) dX10_noonsIn_42 rfl (by decide) rfl ?_
        refine mr_aload_n (pc' := 45) dX10_noonsIn_44 rfl rfl ?_
        refine mr_getR (pc' := 48) (ci := 10) (j := 1) (b := 3) hR dX10_noonsIn_45 rfl rfl rfl (by decide) (by decide) (by decide) rfl rfl ?_
        refine mr_getR (pc' := 51) (ci := 6) (j := 0) (b := 4) hR dX10_noonsIn_48 rfl rfl rfl (by decide) (by decide) (by decide) rfl rfl ?_
        refine mr_iload_n (pc' := 52) dX10_noonsIn_51 rfl rfl ?_
        refine mr_iload_n (pc' := 53) dX10_noonsIn_52 rfl rfl ?_
        obtain ⟨q16, g17, h18⟩ := Option.bind_eq_some_iff.mp h15
        refine mr_cv (pc' := 56) (a := 4) (d1 := 0) dX10_noonsIn_53 rfl rfl rfl rfl rfl rfl (by decide) rfl (by decide) (ok_X8_clockAt hR rfl g17) ?_
        show mr X _ _ 56 _ [.long q16] (MM RR S) _
        obtain ⟨q19, g20, h21⟩ := Option.bind_eq_some_iff.mp h18
        refine mr_cs (pc' := 59) (d1 := 0) dX10_noonsIn_56 rfl rfl rfl rfl (by decide) (Nat.le_of_ble_eq_true rfl) rfl rfl rfl (by decide) (ok_X10_noonsUpTo hR  g20) ?_
        show mr X _ _ 59 _ [.long q19] (MM RR S) _
        refine mr_lload (pc' := 61) dX10_noonsIn_59 rfl rfl ?_
        obtain ⟨q22, g23, h24⟩ := Option.bind_eq_some_iff.mp h21
        refine mr_cs (pc' := 64) (d1 := 0) dX10_noonsIn_61 rfl rfl rfl rfl (by decide) (Nat.le_of_ble_eq_true rfl) rfl rfl rfl (by decide) (ok_X10_noonsUpTo hR  g23) ?_
        show mr X _ _ 64 _ [.long q22, .long q19] (MM RR S) _
        refine mr_lsub (pc' := 65) dX10_noonsIn_64 rfl ?_
        refine mr_l2i (pc' := 66) dX10_noonsIn_65 rfl ?_
        obtain rfl := Option.some.inj h24
        exact mr_ireturn dX10_noonsIn_66 rfl
def f_X10_due (v1 : Int32) (v2 : Int32) (S : fS) : Option (Int32) :=
  (f_X10_isFloor v1 S).bind fun q1 =>
  if q1 = (0 : Int32) then (some (-1 : Int32)) else
  ((f_X10_isFrom v2 (0 : Int32) (9999 : Int32) S).bind fun q5 =>
  if q5 = (0 : Int32) then (some (-1 : Int32)) else
  ((gL S 5 10 v1).bind fun a9 =>
  (f_X10_upwards ((Int32.toInt64 v2) * (5587021440 : Int64)) a9 S).bind fun q12 =>
  some (Int64.toInt32 q12)))
set_option maxHeartbeats 4000000 in
set_option maxRecDepth 100000 in
theorem ok_X10_due {X : mm_C} {RR : Nat → Nat → Option Nat} (hR : RRok RR) {v1 : Int32} {v2 : Int32}  {S : fS} {r : Int32} (h : f_X10_due v1 v2 S = some r) : mr X 2 mY_X10_due 0 (lv_args 0 [.ref 0, .int v1, .int v2]) [] (MM RR S) (some (.int r), MM RR S) := by
  unfold f_X10_due at h
  show mr X _ _ 0 [(0, .ref 0), (1, .int v1), (2, .int v2)] [] (MM RR S) _
  refine mr_aload_n (pc' := 1) dX10_due_0 rfl rfl ?_
  refine mr_iload_n (pc' := 2) dX10_due_1 rfl rfl ?_
  obtain ⟨q1, g2, h3⟩ := Option.bind_eq_some_iff.mp h
  refine mr_cv (pc' := 5) (a := 0) (d1 := 1) dX10_due_2 rfl rfl rfl rfl rfl rfl (by decide) rfl (by decide) (ok_X10_isFloor hR  g2) ?_
  show mr X _ _ 5 _ [.int q1] (MM RR S) _
  by_cases c4 : q1 = (0 : Int32)
  · rw [if_pos c4] at h3
    refine mr_if_eq_t (t := 19) dX10_due_5 (by decide) c4 ?_
    refine mr_iconst (pc' := 20) (v := (-1 : Int32)) dX10_due_19 rfl (by decide) ?_
    obtain rfl := Option.some.inj h3
    exact mr_ireturn dX10_due_20 rfl
  · rw [if_neg c4] at h3
    refine mr_if_eq_f (t := 19) (pc' := 8) dX10_due_5 (by decide) rfl c4 ?_
    refine mr_iload_n (pc' := 9) dX10_due_8 rfl rfl ?_
    refine mr_iconst (pc' := 10) (v := (0 : Int32)) dX10_due_9 rfl (by decide) ?_
    refine mr_sipush (pc' := 13) (v := (9999 : Int32)) dX10_due_10 rfl (by decide) ?_
    obtain ⟨q5, g6, h7⟩ := Option.bind_eq_some_iff.mp h3
    refine mr_cs (pc' := 16) (d1 := 0) dX10_due_13 rfl rfl rfl rfl (by decide) (Nat.le_of_ble_eq_true rfl) rfl rfl rfl (by decide) (ok_X10_isFrom hR  g6) ?_
    show mr X _ _ 16 _ [.int q5] (MM RR S) _
    by_cases c8 : q5 = (0 : Int32)
    · rw [if_pos c8] at h7
      refine mr_if_ne_f (t := 21) (pc' := 19) dX10_due_16 (by decide) rfl (not_not_intro c8) ?_
      refine mr_iconst (pc' := 20) (v := (-1 : Int32)) dX10_due_19 rfl (by decide) ?_
      obtain rfl := Option.some.inj h7
      exact mr_ireturn dX10_due_20 rfl
    · rw [if_neg c8] at h7
      refine mr_if_ne_t (t := 21) dX10_due_16 (by decide) c8 ?_
      refine mr_iload_n (pc' := 22) dX10_due_21 rfl rfl ?_
      refine mr_i2l (pc' := 23) dX10_due_22 rfl ?_
      refine mr_ldc2 (pc' := 26) (v := (5587021440 : Int64)) dX10_due_23 rfl rfl ?_
      refine mr_lmul (pc' := 27) dX10_due_26 rfl ?_
      refine mr_aload_n (pc' := 28) dX10_due_27 rfl rfl ?_
      refine mr_getR (pc' := 31) (ci := 10) (j := 1) (b := 3) hR dX10_due_28 rfl rfl rfl (by decide) (by decide) (by decide) rfl rfl ?_
      refine mr_getR (pc' := 34) (ci := 6) (j := 0) (b := 4) hR dX10_due_31 rfl rfl rfl (by decide) (by decide) (by decide) rfl rfl ?_
      refine mr_getR (pc' := 37) (ci := 8) (j := 0) (b := 5) hR dX10_due_34 rfl rfl rfl (by decide) (by decide) (by decide) rfl rfl ?_
      refine mr_iload_n (pc' := 38) dX10_due_37 rfl rfl ?_
      obtain ⟨a9, g10, h11⟩ := Option.bind_eq_some_iff.mp h7
      refine mr_lald (pc' := 39) dX10_due_38 rfl rfl rfl g10 ?_
      obtain ⟨q12, g13, h14⟩ := Option.bind_eq_some_iff.mp h11
      refine mr_cs (pc' := 42) (d1 := 0) dX10_due_39 rfl rfl rfl rfl (by decide) (Nat.le_of_ble_eq_true rfl) rfl rfl rfl (by decide) (ok_X10_upwards hR  g13) ?_
      show mr X _ _ 42 _ [.long q12] (MM RR S) _
      refine mr_l2i (pc' := 43) dX10_due_42 rfl ?_
      obtain rfl := Option.some.inj h14
      exact mr_ireturn dX10_due_43 rfl
def lp_X8_isWayAround_22 (p0 : Nat) (p1 : Int32) (p3 : Int32) (S : fS) (K : Int32 → Option (Int32)) : Nat → Int32 → Int32 → Option (Int32)
  | 0, _, _ => none
  | n + 1, p2, p4 =>
    if (S.1 p0 7) ≤ p4 then (K p2) else
    ((gI S (p0 + 2) 12 p4).bind fun a6 =>
    (gI S (p0 + 3) 12 p4).bind fun a9 =>
    if p4 = p1 then (lp_X8_isWayAround_22 p0 p1 p3 S K n p2 (p4 + (1 : Int32))) else
    (if (p2 &&& (((1 : Int32) <<< (a6 &&& 31)) ||| ((1 : Int32) <<< (a9 &&& 31)))) = (0 : Int32) then (lp_X8_isWayAround_22 p0 p1 p3 S K n p2 (p4 + (1 : Int32))) else
    (lp_X8_isWayAround_22 p0 p1 p3 S K n (p2 ||| (((1 : Int32) <<< (a6 &&& 31)) ||| ((1 : Int32) <<< (a9 &&& 31)))) (p4 + (1 : Int32)))))
set_option maxHeartbeats 4000000 in
set_option maxRecDepth 100000 in
theorem ok_lp_X8_isWayAround_22 {X : mm_C} {RR : Nat → Nat → Option Nat} (hR : RRok RR) {p0 : Nat} {p1 : Int32} {p3 : Int32} (t0 : tg p0 = 8) {S : fS} {K : Int32 → Option (Int32)} {r : Int32} (hK : ∀ (k2 : Int32), K k2 = some r → mr X 0 mY_X8_isWayAround 76 [(0, .ref p0), (1, .int p1), (2, .int k2), (3, .int p3)] [] (MM RR S) (some (.int r), MM RR S)) : ∀ (n : Nat) (p2 : Int32) (p4 : Int32), lp_X8_isWayAround_22 p0 p1 p3 S K n p2 p4 = some r → mr X 0 mY_X8_isWayAround 22 [(0, .ref p0), (1, .int p1), (2, .int p2), (3, .int p3), (4, .int p4)] [] (MM RR S) (some (.int r), MM RR S) := by
  intro n
  induction n with
  | zero => intro p2 p4 h; exact mm_no h
  | succ n ih =>
    intro p2 p4 h
    unfold lp_X8_isWayAround_22 at h
    refine mr_iload (pc' := 24) dX8_isWayAround_22 rfl rfl ?_
    refine mr_aload_n (pc' := 25) dX8_isWayAround_24 rfl rfl ?_
    refine mr_getI (pc' := 28) (ci := 8) (j := 7) dX8_isWayAround_25 rfl rfl t0 (by decide) (by decide) rfl ?_
    by_cases c5 : (S.1 p0 7) ≤ p4
    · rw [if_pos c5] at h
      refine mr_icmp_ge_t (t := 76) dX8_isWayAround_28 (by decide) c5 ?_
      exact mr_sub [(0, .ref p0), (1, .int p1), (2, .int p2), (3, .int p3)] ⟨rfl, rfl, rfl, rfl, trivial⟩ rfl (hK _  h)
    · rw [if_neg c5] at h
      refine mr_icmp_ge_f (t := 76) (pc' := 31) dX8_isWayAround_28 (by decide) rfl c5 ?_
      refine mr_iconst (pc' := 32) (v := (1 : Int32)) dX8_isWayAround_31 rfl (by decide) ?_
      refine mr_aload_n (pc' := 33) dX8_isWayAround_32 rfl rfl ?_
      refine mr_getR (pc' := 36) (ci := 8) (j := 1) (b := (p0 + 2)) hR dX8_isWayAround_33 rfl rfl t0 (by decide) (by decide) (by decide) rfl (ly8_1 t0).1 ?_
      refine mr_iload (pc' := 38) dX8_isWayAround_36 rfl rfl ?_
      obtain ⟨a6, g7, h8⟩ := Option.bind_eq_some_iff.mp h
      refine mr_iald (pc' := 39) dX8_isWayAround_38 rfl (ly8_1 t0).2.1 (ly8_1 t0).2.2 g7 ?_
      refine mr_ishl (pc' := 40) dX8_isWayAround_39 rfl ?_
      refine mr_iconst (pc' := 41) (v := (1 : Int32)) dX8_isWayAround_40 rfl (by decide) ?_
      refine mr_aload_n (pc' := 42) dX8_isWayAround_41 rfl rfl ?_
      refine mr_getR (pc' := 45) (ci := 8) (j := 2) (b := (p0 + 3)) hR dX8_isWayAround_42 rfl rfl t0 (by decide) (by decide) (by decide) rfl (ly8_2 t0).1 ?_
      refine mr_iload (pc' := 47) dX8_isWayAround_45 rfl rfl ?_
      obtain ⟨a9, g10, h11⟩ := Option.bind_eq_some_iff.mp h8
      refine mr_iald (pc' := 48) dX8_isWayAround_47 rfl (ly8_2 t0).2.1 (ly8_2 t0).2.2 g10 ?_
      refine mr_ishl (pc' := 49) dX8_isWayAround_48 rfl ?_
      refine mr_ior (pc' := 50) dX8_isWayAround_49 rfl ?_
      refine mr_istore (pc' := 52) (lv' := [(5, .int (((1 : Int32) <<< (a6 &&& 31)) ||| ((1 : Int32) <<< (a9 &&& 31)))), (0, .ref p0), (1, .int p1), (2, .int p2), (3, .int p3), (4, .int p4)]) dX8_isWayAround_50 rfl (by decide) rfl ?_
      refine mr_iload (pc' := 54) dX8_isWayAround_52 rfl rfl ?_
      refine mr_iload_n (pc' := 55) dX8_isWayAround_54 rfl rfl ?_
      by_cases c12 : p4 = p1
      · rw [if_pos c12] at h11
        refine mr_icmp_eq_t (t := 70) dX8_isWayAround_55 (by decide) c12 ?_
        refine mr_iinc (pc' := 73) (x' := (p4 + (1 : Int32))) (lv' := [(4, .int (p4 + (1 : Int32))), (5, .int (((1 : Int32) <<< (a6 &&& 31)) ||| ((1 : Int32) <<< (a9 &&& 31)))), (0, .ref p0), (1, .int p1), (2, .int p2), (3, .int p3)]) dX8_isWayAround_70 rfl (by decide) rfl rfl rfl ?_
        refine mr_goto (t := 22) dX8_isWayAround_73 (by decide) ?_
        exact mr_sub [(0, .ref p0), (1, .int p1), (2, .int p2), (3, .int p3), (4, .int (p4 + (1 : Int32)))] ⟨rfl, rfl, rfl, rfl, rfl, trivial⟩ rfl (ih _ _  h11)
      · rw [if_neg c12] at h11
        refine mr_icmp_eq_f (t := 70) (pc' := 58) dX8_isWayAround_55 (by decide) rfl c12 ?_
        refine mr_iload_n (pc' := 59) dX8_isWayAround_58 rfl rfl ?_
        refine mr_iload (pc' := 61) dX8_isWayAround_59 rfl rfl ?_
        refine mr_iand (pc' := 62) dX8_isWayAround_61 rfl ?_
        by_cases c13 : (p2 &&& (((1 : Int32) <<< (a6 &&& 31)) ||| ((1 : Int32) <<< (a9 &&& 31)))) = (0 : Int32)
        · rw [if_pos c13] at h11
          refine mr_if_eq_t (t := 70) dX8_isWayAround_62 (by decide) c13 ?_
          refine mr_iinc (pc' := 73) (x' := (p4 + (1 : Int32))) (lv' := [(4, .int (p4 + (1 : Int32))), (5, .int (((1 : Int32) <<< (a6 &&& 31)) ||| ((1 : Int32) <<< (a9 &&& 31)))), (0, .ref p0), (1, .int p1), (2, .int p2), (3, .int p3)]) dX8_isWayAround_70 rfl (by decide) rfl rfl rfl ?_
          refine mr_goto (t := 22) dX8_isWayAround_73 (by decide) ?_
          exact mr_sub [(0, .ref p0), (1, .int p1), (2, .int p2), (3, .int p3), (4, .int (p4 + (1 : Int32)))] ⟨rfl, rfl, rfl, rfl, rfl, trivial⟩ rfl (ih _ _  h11)
        · rw [if_neg c13] at h11
          refine mr_if_eq_f (t := 70) (pc' := 65) dX8_isWayAround_62 (by decide) rfl c13 ?_
          refine mr_iload_n (pc' := 66) dX8_isWayAround_65 rfl rfl ?_
          refine mr_iload (pc' := 68) dX8_isWayAround_66 rfl rfl ?_
          refine mr_ior (pc' := 69) dX8_isWayAround_68 rfl ?_
          refine mr_istore_n (pc' := 70) (lv' := [(2, .int (p2 ||| (((1 : Int32) <<< (a6 &&& 31)) ||| ((1 : Int32) <<< (a9 &&& 31))))), (5, .int (((1 : Int32) <<< (a6 &&& 31)) ||| ((1 : Int32) <<< (a9 &&& 31)))), (0, .ref p0), (1, .int p1), (3, .int p3), (4, .int p4)]) dX8_isWayAround_69 rfl (by decide) rfl ?_
          refine mr_iinc (pc' := 73) (x' := (p4 + (1 : Int32))) (lv' := [(4, .int (p4 + (1 : Int32))), (2, .int (p2 ||| (((1 : Int32) <<< (a6 &&& 31)) ||| ((1 : Int32) <<< (a9 &&& 31))))), (5, .int (((1 : Int32) <<< (a6 &&& 31)) ||| ((1 : Int32) <<< (a9 &&& 31)))), (0, .ref p0), (1, .int p1), (3, .int p3)]) dX8_isWayAround_70 rfl (by decide) rfl rfl rfl ?_
          refine mr_goto (t := 22) dX8_isWayAround_73 (by decide) ?_
          exact mr_sub [(0, .ref p0), (1, .int p1), (2, .int (p2 ||| (((1 : Int32) <<< (a6 &&& 31)) ||| ((1 : Int32) <<< (a9 &&& 31))))), (3, .int p3), (4, .int (p4 + (1 : Int32)))] ⟨rfl, rfl, rfl, rfl, rfl, trivial⟩ rfl (ih _ _  h11)
def lp_X8_isWayAround_11 (p0 : Nat) (p1 : Int32) (S : fS) (K : Int32 → Option (Int32)) : Nat → Int32 → Int32 → Option (Int32)
  | 0, _, _ => none
  | n + 1, p2, p3 =>
    if (S.1 p0 6) ≤ p3 then (K p2) else
    (lp_X8_isWayAround_22 p0 p1 p3 S (fun u14 => lp_X8_isWayAround_11 p0 p1 S K n u14 (p3 + (1 : Int32))) FU p2 (0 : Int32))
set_option maxHeartbeats 4000000 in
set_option maxRecDepth 100000 in
theorem ok_lp_X8_isWayAround_11 {X : mm_C} {RR : Nat → Nat → Option Nat} (hR : RRok RR) {p0 : Nat} {p1 : Int32} (t0 : tg p0 = 8) {S : fS} {K : Int32 → Option (Int32)} {r : Int32} (hK : ∀ (k2 : Int32), K k2 = some r → mr X 0 mY_X8_isWayAround 82 [(0, .ref p0), (1, .int p1), (2, .int k2)] [] (MM RR S) (some (.int r), MM RR S)) : ∀ (n : Nat) (p2 : Int32) (p3 : Int32), lp_X8_isWayAround_11 p0 p1 S K n p2 p3 = some r → mr X 0 mY_X8_isWayAround 11 [(0, .ref p0), (1, .int p1), (2, .int p2), (3, .int p3)] [] (MM RR S) (some (.int r), MM RR S) := by
  intro n
  induction n with
  | zero => intro p2 p3 h; exact mm_no h
  | succ n ih =>
    intro p2 p3 h
    unfold lp_X8_isWayAround_11 at h
    refine mr_iload_n (pc' := 12) dX8_isWayAround_11 rfl rfl ?_
    refine mr_aload_n (pc' := 13) dX8_isWayAround_12 rfl rfl ?_
    refine mr_getI (pc' := 16) (ci := 8) (j := 6) dX8_isWayAround_13 rfl rfl t0 (by decide) (by decide) rfl ?_
    by_cases c4 : (S.1 p0 6) ≤ p3
    · rw [if_pos c4] at h
      refine mr_icmp_ge_t (t := 82) dX8_isWayAround_16 (by decide) c4 ?_
      exact mr_sub [(0, .ref p0), (1, .int p1), (2, .int p2)] ⟨rfl, rfl, rfl, trivial⟩ rfl (hK _  h)
    · rw [if_neg c4] at h
      refine mr_icmp_ge_f (t := 82) (pc' := 19) dX8_isWayAround_16 (by decide) rfl c4 ?_
      refine mr_iconst (pc' := 20) (v := (0 : Int32)) dX8_isWayAround_19 rfl (by decide) ?_
      refine mr_istore (pc' := 22) (lv' := [(4, .int (0 : Int32)), (0, .ref p0), (1, .int p1), (2, .int p2), (3, .int p3)]) dX8_isWayAround_20 rfl (by decide) rfl ?_
      refine mr_sub [(0, .ref p0), (1, .int p1), (2, .int p2), (3, .int p3), (4, .int (0 : Int32))] ⟨rfl, rfl, rfl, rfl, rfl, trivial⟩ rfl ?_
      refine ok_lp_X8_isWayAround_22 hR t0 (fun u14 h15 => ?_) FU _ _  h
      refine mr_iinc (pc' := 79) (x' := (p3 + (1 : Int32))) (lv' := [(3, .int (p3 + (1 : Int32))), (0, .ref p0), (1, .int p1), (2, .int u14)]) dX8_isWayAround_76 rfl (by decide) rfl rfl rfl ?_
      refine mr_goto (t := 11) dX8_isWayAround_79 (by decide) ?_
      exact mr_sub [(0, .ref p0), (1, .int p1), (2, .int u14), (3, .int (p3 + (1 : Int32)))] ⟨rfl, rfl, rfl, rfl, trivial⟩ rfl (ih _ _  h15)
def f_X8_isWayAround (v0 : Nat) (v1 : Int32) (S : fS) : Option (Int32) :=
  (gI S (v0 + 2) 12 v1).bind fun a1 =>
  lp_X8_isWayAround_11 v0 v1 S (fun u16 => (gI S (v0 + 3) 12 v1).bind fun a18 =>
  if (u16 &&& ((1 : Int32) <<< (a18 &&& 31))) = (0 : Int32) then (some (0 : Int32)) else
  (some (1 : Int32))) FU ((1 : Int32) <<< (a1 &&& 31)) (0 : Int32)
set_option maxHeartbeats 4000000 in
set_option maxRecDepth 100000 in
theorem ok_X8_isWayAround {X : mm_C} {RR : Nat → Nat → Option Nat} (hR : RRok RR) {v0 : Nat} {v1 : Int32} (t0 : tg v0 = 8) {S : fS} {r : Int32} (h : f_X8_isWayAround v0 v1 S = some r) : mr X 0 mY_X8_isWayAround 0 (lv_args 0 [.ref v0, .int v1]) [] (MM RR S) (some (.int r), MM RR S) := by
  unfold f_X8_isWayAround at h
  show mr X _ _ 0 [(0, .ref v0), (1, .int v1)] [] (MM RR S) _
  refine mr_iconst (pc' := 1) (v := (1 : Int32)) dX8_isWayAround_0 rfl (by decide) ?_
  refine mr_aload_n (pc' := 2) dX8_isWayAround_1 rfl rfl ?_
  refine mr_getR (pc' := 5) (ci := 8) (j := 1) (b := (v0 + 2)) hR dX8_isWayAround_2 rfl rfl t0 (by decide) (by decide) (by decide) rfl (ly8_1 t0).1 ?_
  refine mr_iload_n (pc' := 6) dX8_isWayAround_5 rfl rfl ?_
  obtain ⟨a1, g2, h3⟩ := Option.bind_eq_some_iff.mp h
  refine mr_iald (pc' := 7) dX8_isWayAround_6 rfl (ly8_1 t0).2.1 (ly8_1 t0).2.2 g2 ?_
  refine mr_ishl (pc' := 8) dX8_isWayAround_7 rfl ?_
  refine mr_istore_n (pc' := 9) (lv' := [(2, .int ((1 : Int32) <<< (a1 &&& 31))), (0, .ref v0), (1, .int v1)]) dX8_isWayAround_8 rfl (by decide) rfl ?_
  refine mr_iconst (pc' := 10) (v := (0 : Int32)) dX8_isWayAround_9 rfl (by decide) ?_
  refine mr_istore_n (pc' := 11) (lv' := [(3, .int (0 : Int32)), (2, .int ((1 : Int32) <<< (a1 &&& 31))), (0, .ref v0), (1, .int v1)]) dX8_isWayAround_10 rfl (by decide) rfl ?_
  refine mr_sub [(0, .ref v0), (1, .int v1), (2, .int ((1 : Int32) <<< (a1 &&& 31))), (3, .int (0 : Int32))] ⟨rfl, rfl, rfl, rfl, trivial⟩ rfl ?_
  refine ok_lp_X8_isWayAround_11 hR t0 (fun u16 h17 => ?_) FU _ _  h3
  refine mr_iload_n (pc' := 83) dX8_isWayAround_82 rfl rfl ?_
  refine mr_iconst (pc' := 84) (v := (1 : Int32)) dX8_isWayAround_83 rfl (by decide) ?_
  refine mr_aload_n (pc' := 85) dX8_isWayAround_84 rfl rfl ?_
  refine mr_getR (pc' := 88) (ci := 8) (j := 2) (b := (v0 + 3)) hR dX8_isWayAround_85 rfl rfl t0 (by decide) (by decide) (by decide) rfl (ly8_2 t0).1 ?_
  refine mr_iload_n (pc' := 89) dX8_isWayAround_88 rfl rfl ?_
  obtain ⟨a18, g19, h20⟩ := Option.bind_eq_some_iff.mp h17
  refine mr_iald (pc' := 90) dX8_isWayAround_89 rfl (ly8_2 t0).2.1 (ly8_2 t0).2.2 g19 ?_
  refine mr_ishl (pc' := 91) dX8_isWayAround_90 rfl ?_
  refine mr_iand (pc' := 92) dX8_isWayAround_91 rfl ?_
  by_cases c21 : (u16 &&& ((1 : Int32) <<< (a18 &&& 31))) = (0 : Int32)
  · rw [if_pos c21] at h20
    refine mr_if_eq_t (t := 99) dX8_isWayAround_92 (by decide) c21 ?_
    refine mr_iconst (pc' := 100) (v := (0 : Int32)) dX8_isWayAround_99 rfl (by decide) ?_
    obtain rfl := Option.some.inj h20
    exact mr_zreturn dX8_isWayAround_100 rfl (by decide)
  · rw [if_neg c21] at h20
    refine mr_if_eq_f (t := 99) (pc' := 95) dX8_isWayAround_92 (by decide) rfl c21 ?_
    refine mr_iconst (pc' := 96) (v := (1 : Int32)) dX8_isWayAround_95 rfl (by decide) ?_
    refine mr_goto (t := 100) dX8_isWayAround_96 (by decide) ?_
    obtain rfl := Option.some.inj h20
    exact mr_zreturn dX8_isWayAround_100 rfl (by decide)
def lp_X10_needed_4  (S : fS) (K : Int32 → Option (Int32)) : Nat → Int32 → Int32 → Option (Int32)
  | 0, _, _ => none
  | n + 1, p1, p2 =>
    if (S.1 4 7) ≤ p2 then (K p1) else
    ((f_X8_isWayAround 4 p2 S).bind fun q2 =>
    if q2 = (0 : Int32) then (lp_X10_needed_4  S K n (p1 ||| ((1 : Int32) <<< (p2 &&& 31))) (p2 + (1 : Int32))) else
    (lp_X10_needed_4  S K n p1 (p2 + (1 : Int32))))
set_option maxHeartbeats 4000000 in
set_option maxRecDepth 100000 in
theorem ok_lp_X10_needed_4 {X : mm_C} {RR : Nat → Nat → Option Nat} (hR : RRok RR)   {S : fS} {K : Int32 → Option (Int32)} {r : Int32} (hK : ∀ (k1 : Int32), K k1 = some r → mr X 1 mY_X10_needed 44 [(1, .int k1)] [] (MM RR S) (some (.int r), MM RR S)) : ∀ (n : Nat) (p1 : Int32) (p2 : Int32), lp_X10_needed_4  S K n p1 p2 = some r → mr X 1 mY_X10_needed 4 [(0, .ref 0), (1, .int p1), (2, .int p2)] [] (MM RR S) (some (.int r), MM RR S) := by
  intro n
  induction n with
  | zero => intro p1 p2 h; exact mm_no h
  | succ n ih =>
    intro p1 p2 h
    unfold lp_X10_needed_4 at h
    refine mr_iload_n (pc' := 5) dX10_needed_4 rfl rfl ?_
    refine mr_aload_n (pc' := 6) dX10_needed_5 rfl rfl ?_
    refine mr_getR (pc' := 9) (ci := 10) (j := 1) (b := 3) hR dX10_needed_6 rfl rfl rfl (by decide) (by decide) (by decide) rfl rfl ?_
    refine mr_getR (pc' := 12) (ci := 6) (j := 0) (b := 4) hR dX10_needed_9 rfl rfl rfl (by decide) (by decide) (by decide) rfl rfl ?_
    refine mr_getI (pc' := 15) (ci := 8) (j := 7) dX10_needed_12 rfl rfl rfl (by decide) (by decide) rfl ?_
    by_cases c1 : (S.1 4 7) ≤ p2
    · rw [if_pos c1] at h
      refine mr_icmp_ge_t (t := 44) dX10_needed_15 (by decide) c1 ?_
      exact mr_sub [(1, .int p1)] ⟨rfl, trivial⟩ rfl (hK _  h)
    · rw [if_neg c1] at h
      refine mr_icmp_ge_f (t := 44) (pc' := 18) dX10_needed_15 (by decide) rfl c1 ?_
      refine mr_aload_n (pc' := 19) dX10_needed_18 rfl rfl ?_
      refine mr_getR (pc' := 22) (ci := 10) (j := 1) (b := 3) hR dX10_needed_19 rfl rfl rfl (by decide) (by decide) (by decide) rfl rfl ?_
      refine mr_getR (pc' := 25) (ci := 6) (j := 0) (b := 4) hR dX10_needed_22 rfl rfl rfl (by decide) (by decide) (by decide) rfl rfl ?_
      refine mr_iload_n (pc' := 26) dX10_needed_25 rfl rfl ?_
      obtain ⟨q2, g3, h4⟩ := Option.bind_eq_some_iff.mp h
      refine mr_cv (pc' := 29) (a := 4) (d1 := 0) dX10_needed_26 rfl rfl rfl rfl rfl rfl (by decide) rfl (by decide) (ok_X8_isWayAround hR rfl g3) ?_
      show mr X _ _ 29 _ [.int q2] (MM RR S) _
      by_cases c5 : q2 = (0 : Int32)
      · rw [if_pos c5] at h4
        refine mr_if_ne_f (t := 38) (pc' := 32) dX10_needed_29 (by decide) rfl (not_not_intro c5) ?_
        refine mr_iload_n (pc' := 33) dX10_needed_32 rfl rfl ?_
        refine mr_iconst (pc' := 34) (v := (1 : Int32)) dX10_needed_33 rfl (by decide) ?_
        refine mr_iload_n (pc' := 35) dX10_needed_34 rfl rfl ?_
        refine mr_ishl (pc' := 36) dX10_needed_35 rfl ?_
        refine mr_ior (pc' := 37) dX10_needed_36 rfl ?_
        refine mr_istore_n (pc' := 38) (lv' := [(1, .int (p1 ||| ((1 : Int32) <<< (p2 &&& 31)))), (0, .ref 0), (2, .int p2)]) dX10_needed_37 rfl (by decide) rfl ?_
        refine mr_iinc (pc' := 41) (x' := (p2 + (1 : Int32))) (lv' := [(2, .int (p2 + (1 : Int32))), (1, .int (p1 ||| ((1 : Int32) <<< (p2 &&& 31)))), (0, .ref 0)]) dX10_needed_38 rfl (by decide) rfl rfl rfl ?_
        refine mr_goto (t := 4) dX10_needed_41 (by decide) ?_
        exact mr_sub [(0, .ref 0), (1, .int (p1 ||| ((1 : Int32) <<< (p2 &&& 31)))), (2, .int (p2 + (1 : Int32)))] ⟨rfl, rfl, rfl, trivial⟩ rfl (ih _ _  h4)
      · rw [if_neg c5] at h4
        refine mr_if_ne_t (t := 38) dX10_needed_29 (by decide) c5 ?_
        refine mr_iinc (pc' := 41) (x' := (p2 + (1 : Int32))) (lv' := [(2, .int (p2 + (1 : Int32))), (0, .ref 0), (1, .int p1)]) dX10_needed_38 rfl (by decide) rfl rfl rfl ?_
        refine mr_goto (t := 4) dX10_needed_41 (by decide) ?_
        exact mr_sub [(0, .ref 0), (1, .int p1), (2, .int (p2 + (1 : Int32)))] ⟨rfl, rfl, rfl, trivial⟩ rfl (ih _ _  h4)
def f_X10_needed  (S : fS) : Option (Int32) :=
  lp_X10_needed_4  S (fun u6 => some u6) FU (0 : Int32) (0 : Int32)
set_option maxHeartbeats 4000000 in
set_option maxRecDepth 100000 in
theorem ok_X10_needed {X : mm_C} {RR : Nat → Nat → Option Nat} (hR : RRok RR)   {S : fS} {r : Int32} (h : f_X10_needed  S = some r) : mr X 1 mY_X10_needed 0 (lv_args 0 [.ref 0]) [] (MM RR S) (some (.int r), MM RR S) := by
  unfold f_X10_needed at h
  show mr X _ _ 0 [(0, .ref 0)] [] (MM RR S) _
  refine mr_iconst (pc' := 1) (v := (0 : Int32)) dX10_needed_0 rfl (by decide) ?_
  refine mr_istore_n (pc' := 2) (lv' := [(1, .int (0 : Int32)), (0, .ref 0)]) dX10_needed_1 rfl (by decide) rfl ?_
  refine mr_iconst (pc' := 3) (v := (0 : Int32)) dX10_needed_2 rfl (by decide) ?_
  refine mr_istore_n (pc' := 4) (lv' := [(2, .int (0 : Int32)), (1, .int (0 : Int32)), (0, .ref 0)]) dX10_needed_3 rfl (by decide) rfl ?_
  refine mr_sub [(0, .ref 0), (1, .int (0 : Int32)), (2, .int (0 : Int32))] ⟨rfl, rfl, rfl, trivial⟩ rfl ?_
  refine ok_lp_X10_needed_4 hR  (fun u6 h7 => ?_) FU _ _  h
  refine mr_iload_n (pc' := 45) dX10_needed_44 rfl rfl ?_
  obtain rfl := Option.some.inj h7
  exact mr_ireturn dX10_needed_45 rfl
def f_X10_elder (v1 : Int32) (v2 : Int32) (v3 : Int32) (S : fS) : Option (Int64 × fS) :=
  (f_X10_isRuleOrNone v1 S).bind fun q1 =>
  if q1 = (0 : Int32) then (some ((-1 : Int64), S)) else
  ((f_X10_isFrom v2 (0 : Int32) (200 : Int32) S).bind fun q5 =>
  if q5 = (0 : Int32) then (some ((-1 : Int64), S)) else
  (if (S.1 11 5) = (0 : Int32) then (some ((-1 : Int64), S)) else
  ((f_X10_isFrom v3 (0 : Int32) (3 : Int32) S).bind fun q10 =>
  if q10 = (0 : Int32) then (some ((-1 : Int64), S)) else
  ((f_X10_lookAhead v1 v2 S).bind fun q14 =>
  (f_X0_eldest 31 q14).bind fun q17 =>
  (f_X0_youngest 31 q14).bind fun q20 =>
  if (2 : Int32) ≤ v3 then ((gL q14 36 8 q17).bind fun a24 =>
  (gL q14 36 8 q20).bind fun a27 =>
  (f_X10_lowest (a24 - a27) (232792560 : Int64) (v3 - (2 : Int32)) q14).bind fun q30 =>
  some (q30, q14)) else
  (if v3 = (0 : Int32) then (some ((Int32.toInt64 q17), q14)) else
  (some ((Int32.toInt64 q20), q14)))))))
set_option maxHeartbeats 4000000 in
set_option maxRecDepth 100000 in
theorem ok_X10_elder {X : mm_C} {RR : Nat → Nat → Option Nat} (hR : RRok RR) {v1 : Int32} {v2 : Int32} {v3 : Int32}  {S : fS} {r : Int64 × fS} (h : f_X10_elder v1 v2 v3 S = some r) : mr X 6 mY_X10_elder 0 (lv_args 0 [.ref 0, .int v1, .int v2, .int v3]) [] (MM RR S) (some (.long r.1), MM RR r.2) := by
  unfold f_X10_elder at h
  show mr X _ _ 0 [(0, .ref 0), (1, .int v1), (2, .int v2), (3, .int v3)] [] (MM RR S) _
  refine mr_aload_n (pc' := 1) dX10_elder_0 rfl rfl ?_
  refine mr_iload_n (pc' := 2) dX10_elder_1 rfl rfl ?_
  obtain ⟨q1, g2, h3⟩ := Option.bind_eq_some_iff.mp h
  refine mr_cv (pc' := 5) (a := 0) (d1 := 1) dX10_elder_2 rfl rfl rfl rfl rfl rfl (by decide) rfl (by decide) (ok_X10_isRuleOrNone hR  g2) ?_
  show mr X _ _ 5 _ [.int q1] (MM RR S) _
  by_cases c4 : q1 = (0 : Int32)
  · rw [if_pos c4] at h3
    refine mr_if_eq_t (t := 19) dX10_elder_5 (by decide) c4 ?_
    refine mr_ldc2 (pc' := 22) (v := (-1 : Int64)) dX10_elder_19 rfl rfl ?_
    obtain rfl := Option.some.inj h3
    exact mr_lreturn dX10_elder_22 rfl
  · rw [if_neg c4] at h3
    refine mr_if_eq_f (t := 19) (pc' := 8) dX10_elder_5 (by decide) rfl c4 ?_
    refine mr_iload_n (pc' := 9) dX10_elder_8 rfl rfl ?_
    refine mr_iconst (pc' := 10) (v := (0 : Int32)) dX10_elder_9 rfl (by decide) ?_
    refine mr_sipush (pc' := 13) (v := (200 : Int32)) dX10_elder_10 rfl (by decide) ?_
    obtain ⟨q5, g6, h7⟩ := Option.bind_eq_some_iff.mp h3
    refine mr_cs (pc' := 16) (d1 := 0) dX10_elder_13 rfl rfl rfl rfl (by decide) (Nat.le_of_ble_eq_true rfl) rfl rfl rfl (by decide) (ok_X10_isFrom hR  g6) ?_
    show mr X _ _ 16 _ [.int q5] (MM RR S) _
    by_cases c8 : q5 = (0 : Int32)
    · rw [if_pos c8] at h7
      refine mr_if_ne_f (t := 23) (pc' := 19) dX10_elder_16 (by decide) rfl (not_not_intro c8) ?_
      refine mr_ldc2 (pc' := 22) (v := (-1 : Int64)) dX10_elder_19 rfl rfl ?_
      obtain rfl := Option.some.inj h7
      exact mr_lreturn dX10_elder_22 rfl
    · rw [if_neg c8] at h7
      refine mr_if_ne_t (t := 23) dX10_elder_16 (by decide) c8 ?_
      refine mr_aload_n (pc' := 24) dX10_elder_23 rfl rfl ?_
      refine mr_getR (pc' := 27) (ci := 10) (j := 1) (b := 3) hR dX10_elder_24 rfl rfl rfl (by decide) (by decide) (by decide) rfl rfl ?_
      refine mr_getR (pc' := 30) (ci := 6) (j := 1) (b := 11) hR dX10_elder_27 rfl rfl rfl (by decide) (by decide) (by decide) rfl rfl ?_
      refine mr_getI (pc' := 33) (ci := 0) (j := 5) dX10_elder_30 rfl rfl rfl (by decide) (by decide) rfl ?_
      by_cases c9 : (S.1 11 5) = (0 : Int32)
      · rw [if_pos c9] at h7
        refine mr_if_eq_t (t := 45) dX10_elder_33 (by decide) c9 ?_
        refine mr_ldc2 (pc' := 48) (v := (-1 : Int64)) dX10_elder_45 rfl rfl ?_
        obtain rfl := Option.some.inj h7
        exact mr_lreturn dX10_elder_48 rfl
      · rw [if_neg c9] at h7
        refine mr_if_eq_f (t := 45) (pc' := 36) dX10_elder_33 (by decide) rfl c9 ?_
        refine mr_iload_n (pc' := 37) dX10_elder_36 rfl rfl ?_
        refine mr_iconst (pc' := 38) (v := (0 : Int32)) dX10_elder_37 rfl (by decide) ?_
        refine mr_iconst (pc' := 39) (v := (3 : Int32)) dX10_elder_38 rfl (by decide) ?_
        obtain ⟨q10, g11, h12⟩ := Option.bind_eq_some_iff.mp h7
        refine mr_cs (pc' := 42) (d1 := 0) dX10_elder_39 rfl rfl rfl rfl (by decide) (Nat.le_of_ble_eq_true rfl) rfl rfl rfl (by decide) (ok_X10_isFrom hR  g11) ?_
        show mr X _ _ 42 _ [.int q10] (MM RR S) _
        by_cases c13 : q10 = (0 : Int32)
        · rw [if_pos c13] at h12
          refine mr_if_ne_f (t := 49) (pc' := 45) dX10_elder_42 (by decide) rfl (not_not_intro c13) ?_
          refine mr_ldc2 (pc' := 48) (v := (-1 : Int64)) dX10_elder_45 rfl rfl ?_
          obtain rfl := Option.some.inj h12
          exact mr_lreturn dX10_elder_48 rfl
        · rw [if_neg c13] at h12
          refine mr_if_ne_t (t := 49) dX10_elder_42 (by decide) c13 ?_
          refine mr_aload_n (pc' := 50) dX10_elder_49 rfl rfl ?_
          refine mr_iload_n (pc' := 51) dX10_elder_50 rfl rfl ?_
          refine mr_iload_n (pc' := 52) dX10_elder_51 rfl rfl ?_
          obtain ⟨q14, g15, h16⟩ := Option.bind_eq_some_iff.mp h12
          refine mr_cv (pc' := 55) (a := 0) (d1 := 5) dX10_elder_52 rfl rfl rfl rfl rfl rfl (by decide) rfl (by decide) (ok_X10_lookAhead hR  g15) ?_
          show mr X _ _ 55 _ [] (MM RR q14) _
          refine mr_aload_n (pc' := 56) dX10_elder_55 rfl rfl ?_
          refine mr_getR (pc' := 59) (ci := 10) (j := 5) (b := 31) hR dX10_elder_56 rfl rfl rfl (by decide) (by decide) (by decide) rfl rfl ?_
          obtain ⟨q17, g18, h19⟩ := Option.bind_eq_some_iff.mp h16
          refine mr_cv (pc' := 62) (a := 31) (d1 := 0) dX10_elder_59 rfl rfl rfl rfl rfl rfl (by decide) rfl (by decide) (ok_X0_eldest hR rfl g18) ?_
          show mr X _ _ 62 _ [.int q17] (MM RR q14) _
          refine mr_istore (pc' := 64) (lv' := [(4, .int q17), (0, .ref 0), (1, .int v1), (2, .int v2), (3, .int v3)]) dX10_elder_62 rfl (by decide) rfl ?_
          refine mr_aload_n (pc' := 65) dX10_elder_64 rfl rfl ?_
          refine mr_getR (pc' := 68) (ci := 10) (j := 5) (b := 31) hR dX10_elder_65 rfl rfl rfl (by decide) (by decide) (by decide) rfl rfl ?_
          obtain ⟨q20, g21, h22⟩ := Option.bind_eq_some_iff.mp h19
          refine mr_cv (pc' := 71) (a := 31) (d1 := 0) dX10_elder_68 rfl rfl rfl rfl rfl rfl (by decide) rfl (by decide) (ok_X0_youngest hR rfl g21) ?_
          show mr X _ _ 71 _ [.int q20] (MM RR q14) _
          refine mr_istore (pc' := 73) (lv' := [(5, .int q20), (4, .int q17), (0, .ref 0), (1, .int v1), (2, .int v2), (3, .int v3)]) dX10_elder_71 rfl (by decide) rfl ?_
          refine mr_iload_n (pc' := 74) dX10_elder_73 rfl rfl ?_
          refine mr_iconst (pc' := 75) (v := (2 : Int32)) dX10_elder_74 rfl (by decide) ?_
          by_cases c23 : (2 : Int32) ≤ v3
          · rw [if_pos c23] at h22
            refine mr_icmp_ge_t (t := 92) dX10_elder_75 (by decide) c23 ?_
            refine mr_aload_n (pc' := 93) dX10_elder_92 rfl rfl ?_
            refine mr_getR (pc' := 96) (ci := 10) (j := 5) (b := 31) hR dX10_elder_93 rfl rfl rfl (by decide) (by decide) (by decide) rfl rfl ?_
            refine mr_getR (pc' := 99) (ci := 0) (j := 4) (b := 36) hR dX10_elder_96 rfl rfl rfl (by decide) (by decide) (by decide) rfl rfl ?_
            refine mr_iload (pc' := 101) dX10_elder_99 rfl rfl ?_
            obtain ⟨a24, g25, h26⟩ := Option.bind_eq_some_iff.mp h22
            refine mr_lald (pc' := 102) dX10_elder_101 rfl rfl rfl g25 ?_
            refine mr_aload_n (pc' := 103) dX10_elder_102 rfl rfl ?_
            refine mr_getR (pc' := 106) (ci := 10) (j := 5) (b := 31) hR dX10_elder_103 rfl rfl rfl (by decide) (by decide) (by decide) rfl rfl ?_
            refine mr_getR (pc' := 109) (ci := 0) (j := 4) (b := 36) hR dX10_elder_106 rfl rfl rfl (by decide) (by decide) (by decide) rfl rfl ?_
            refine mr_iload (pc' := 111) dX10_elder_109 rfl rfl ?_
            obtain ⟨a27, g28, h29⟩ := Option.bind_eq_some_iff.mp h26
            refine mr_lald (pc' := 112) dX10_elder_111 rfl rfl rfl g28 ?_
            refine mr_lsub (pc' := 113) dX10_elder_112 rfl ?_
            refine mr_ldc2 (pc' := 116) (v := (232792560 : Int64)) dX10_elder_113 rfl rfl ?_
            refine mr_iload_n (pc' := 117) dX10_elder_116 rfl rfl ?_
            refine mr_iconst (pc' := 118) (v := (2 : Int32)) dX10_elder_117 rfl (by decide) ?_
            refine mr_isub (pc' := 119) dX10_elder_118 rfl ?_
            obtain ⟨q30, g31, h32⟩ := Option.bind_eq_some_iff.mp h29
            refine mr_cs (pc' := 122) (d1 := 2) dX10_elder_119 rfl rfl rfl rfl (by decide) (Nat.le_of_ble_eq_true rfl) rfl rfl rfl (by decide) (ok_X10_lowest hR  g31) ?_
            show mr X _ _ 122 _ [.long q30] (MM RR q14) _
            obtain rfl := Option.some.inj h32
            exact mr_lreturn dX10_elder_122 rfl
          · rw [if_neg c23] at h22
            refine mr_icmp_ge_f (t := 92) (pc' := 78) dX10_elder_75 (by decide) rfl c23 ?_
            refine mr_iload_n (pc' := 79) dX10_elder_78 rfl rfl ?_
            by_cases c33 : v3 = (0 : Int32)
            · rw [if_pos c33] at h22
              refine mr_if_ne_f (t := 88) (pc' := 82) dX10_elder_79 (by decide) rfl (not_not_intro c33) ?_
              refine mr_iload (pc' := 84) dX10_elder_82 rfl rfl ?_
              refine mr_i2l (pc' := 85) dX10_elder_84 rfl ?_
              refine mr_goto (t := 91) dX10_elder_85 (by decide) ?_
              obtain rfl := Option.some.inj h22
              exact mr_lreturn dX10_elder_91 rfl
            · rw [if_neg c33] at h22
              refine mr_if_ne_t (t := 88) dX10_elder_79 (by decide) c33 ?_
              refine mr_iload (pc' := 90) dX10_elder_88 rfl rfl ?_
              refine mr_i2l (pc' := 91) dX10_elder_90 rfl ?_
              obtain rfl := Option.some.inj h22
              exact mr_lreturn dX10_elder_91 rfl
def f_X2_send (v0 : Nat) (v1 : Int32) (v2 : Int32) (v3 : Int32) (v4 : Int32) (S : fS) : Option (fS) :=
  if (12 : Int32) ≤ (S.1 v0 4) then (some S) else
  ((sI S (v0 + 1) 12 (S.1 v0 4) v1).bind fun S2 =>
  (sI S2 (v0 + 2) 12 (S2.1 v0 4) v2).bind fun S5 =>
  (sI S5 (v0 + 3) 12 (S5.1 v0 4) v3).bind fun S8 =>
  (sI S8 (v0 + 4) 12 (S8.1 v0 4) v4).bind fun S11 =>
  (some (pI S11 v0 4 ((S11.1 v0 4) + (1 : Int32)))).bind fun S14 =>
  some S14)
set_option maxHeartbeats 4000000 in
set_option maxRecDepth 100000 in
theorem ok_X2_send {X : mm_C} {RR : Nat → Nat → Option Nat} (hR : RRok RR) {v0 : Nat} {v1 : Int32} {v2 : Int32} {v3 : Int32} {v4 : Int32} (t0 : tg v0 = 2) {S : fS} {r : fS} (h : f_X2_send v0 v1 v2 v3 v4 S = some r) : mr X 0 mY_X2_send 0 (lv_args 0 [.ref v0, .int v1, .int v2, .int v3, .int v4]) [] (MM RR S) (none, MM RR r) := by
  unfold f_X2_send at h
  show mr X _ _ 0 [(0, .ref v0), (1, .int v1), (2, .int v2), (3, .int v3), (4, .int v4)] [] (MM RR S) _
  refine mr_aload_n (pc' := 1) dX2_send_0 rfl rfl ?_
  refine mr_getI (pc' := 4) (ci := 2) (j := 4) dX2_send_1 rfl rfl t0 (by decide) (by decide) rfl ?_
  refine mr_bipush (pc' := 6) (v := (12 : Int32)) dX2_send_4 rfl (by decide) ?_
  by_cases c1 : (12 : Int32) ≤ (S.1 v0 4)
  · rw [if_pos c1] at h
    refine mr_icmp_ge_t (t := 60) dX2_send_6 (by decide) c1 ?_
    obtain rfl := Option.some.inj h
    exact mr_return dX2_send_60 rfl
  · rw [if_neg c1] at h
    refine mr_icmp_ge_f (t := 60) (pc' := 9) dX2_send_6 (by decide) rfl c1 ?_
    refine mr_aload_n (pc' := 10) dX2_send_9 rfl rfl ?_
    refine mr_getR (pc' := 13) (ci := 2) (j := 0) (b := (v0 + 1)) hR dX2_send_10 rfl rfl t0 (by decide) (by decide) (by decide) rfl (ly2_0 t0).1 ?_
    refine mr_aload_n (pc' := 14) dX2_send_13 rfl rfl ?_
    refine mr_getI (pc' := 17) (ci := 2) (j := 4) dX2_send_14 rfl rfl t0 (by decide) (by decide) rfl ?_
    refine mr_iload_n (pc' := 18) dX2_send_17 rfl rfl ?_
    obtain ⟨S2, g3, h4⟩ := Option.bind_eq_some_iff.mp h
    refine mr_iast (pc' := 19) dX2_send_18 rfl (ly2_0 t0).2.1 (ly2_0 t0).2.2 g3 ?_
    refine mr_aload_n (pc' := 20) dX2_send_19 rfl rfl ?_
    refine mr_getR (pc' := 23) (ci := 2) (j := 1) (b := (v0 + 2)) hR dX2_send_20 rfl rfl t0 (by decide) (by decide) (by decide) rfl (ly2_1 t0).1 ?_
    refine mr_aload_n (pc' := 24) dX2_send_23 rfl rfl ?_
    refine mr_getI (pc' := 27) (ci := 2) (j := 4) dX2_send_24 rfl rfl t0 (by decide) (by decide) rfl ?_
    refine mr_iload_n (pc' := 28) dX2_send_27 rfl rfl ?_
    obtain ⟨S5, g6, h7⟩ := Option.bind_eq_some_iff.mp h4
    refine mr_iast (pc' := 29) dX2_send_28 rfl (ly2_1 t0).2.1 (ly2_1 t0).2.2 g6 ?_
    refine mr_aload_n (pc' := 30) dX2_send_29 rfl rfl ?_
    refine mr_getR (pc' := 33) (ci := 2) (j := 2) (b := (v0 + 3)) hR dX2_send_30 rfl rfl t0 (by decide) (by decide) (by decide) rfl (ly2_2 t0).1 ?_
    refine mr_aload_n (pc' := 34) dX2_send_33 rfl rfl ?_
    refine mr_getI (pc' := 37) (ci := 2) (j := 4) dX2_send_34 rfl rfl t0 (by decide) (by decide) rfl ?_
    refine mr_iload_n (pc' := 38) dX2_send_37 rfl rfl ?_
    obtain ⟨S8, g9, h10⟩ := Option.bind_eq_some_iff.mp h7
    refine mr_iast (pc' := 39) dX2_send_38 rfl (ly2_2 t0).2.1 (ly2_2 t0).2.2 g9 ?_
    refine mr_aload_n (pc' := 40) dX2_send_39 rfl rfl ?_
    refine mr_getR (pc' := 43) (ci := 2) (j := 3) (b := (v0 + 4)) hR dX2_send_40 rfl rfl t0 (by decide) (by decide) (by decide) rfl (ly2_3 t0).1 ?_
    refine mr_aload_n (pc' := 44) dX2_send_43 rfl rfl ?_
    refine mr_getI (pc' := 47) (ci := 2) (j := 4) dX2_send_44 rfl rfl t0 (by decide) (by decide) rfl ?_
    refine mr_iload (pc' := 49) dX2_send_47 rfl rfl ?_
    obtain ⟨S11, g12, h13⟩ := Option.bind_eq_some_iff.mp h10
    refine mr_iast (pc' := 50) dX2_send_49 rfl (ly2_3 t0).2.1 (ly2_3 t0).2.2 g12 ?_
    refine mr_aload_n (pc' := 51) dX2_send_50 rfl rfl ?_
    refine mr_dup_ref (pc' := 52) dX2_send_51 rfl ?_
    refine mr_getI (pc' := 55) (ci := 2) (j := 4) dX2_send_52 rfl rfl t0 (by decide) (by decide) rfl ?_
    refine mr_iconst (pc' := 56) (v := (1 : Int32)) dX2_send_55 rfl (by decide) ?_
    refine mr_iadd (pc' := 57) dX2_send_56 rfl ?_
    obtain ⟨S14, g15, h16⟩ := Option.bind_eq_some_iff.mp h13
    refine mr_putI (pc' := 60) (ci := 2) (j := 4) dX2_send_57 rfl rfl t0 (by decide) (by decide) rfl rfl ?_
    rw [Option.some.inj g15]
    obtain rfl := Option.some.inj h16
    exact mr_return dX2_send_60 rfl
def f_X10_letter (v1 : Int32) (v2 : Int32) (v3 : Int32) (S : fS) : Option (Int32 × fS) :=
  if v1 = (-1 : Int32) then ((some (pI S 17 4 (0 : Int32))).bind fun S22 =>
  some ((0 : Int32), S22)) else
  ((f_X10_isFloor v1 S).bind fun q2 =>
  if q2 = (0 : Int32) then (some ((-2 : Int32), S)) else
  ((f_X10_isFloor v2 S).bind fun q6 =>
  if q6 = (0 : Int32) then (some ((-2 : Int32), S)) else
  ((f_X10_isHour v3 S).bind fun q10 =>
  if q10 = (0 : Int32) then (some ((-2 : Int32), S)) else
  (if (S.1 17 4) < (12 : Int32) then ((f_X8_hoursBetween 4 v1 v2 S).bind fun q15 =>
  if (0 : Int32) ≤ q15 then ((f_X2_send 17 v1 v2 v3 (v3 + q15) S).bind fun q19 =>
  some ((q19.1 17 4), q19)) else
  (some ((-2 : Int32), S))) else
  (some ((-2 : Int32), S))))))
set_option maxHeartbeats 4000000 in
set_option maxRecDepth 100000 in
theorem ok_X10_letter {X : mm_C} {RR : Nat → Nat → Option Nat} (hR : RRok RR) {v1 : Int32} {v2 : Int32} {v3 : Int32}  {S : fS} {r : Int32 × fS} (h : f_X10_letter v1 v2 v3 S = some r) : mr X 2 mY_X10_letter 0 (lv_args 0 [.ref 0, .int v1, .int v2, .int v3]) [] (MM RR S) (some (.int r.1), MM RR r.2) := by
  unfold f_X10_letter at h
  show mr X _ _ 0 [(0, .ref 0), (1, .int v1), (2, .int v2), (3, .int v3)] [] (MM RR S) _
  refine mr_aload_n (pc' := 1) dX10_letter_0 rfl rfl ?_
  refine mr_getR (pc' := 4) (ci := 10) (j := 1) (b := 3) hR dX10_letter_1 rfl rfl rfl (by decide) (by decide) (by decide) rfl rfl ?_
  refine mr_getR (pc' := 7) (ci := 6) (j := 2) (b := 17) hR dX10_letter_4 rfl rfl rfl (by decide) (by decide) (by decide) rfl rfl ?_
  refine mr_astore (pc' := 9) (lv' := [(4, .ref 17), (0, .ref 0), (1, .int v1), (2, .int v2), (3, .int v3)]) dX10_letter_7 rfl (by decide) rfl ?_
  refine mr_iload_n (pc' := 10) dX10_letter_9 rfl rfl ?_
  refine mr_iconst (pc' := 11) (v := (-1 : Int32)) dX10_letter_10 rfl (by decide) ?_
  by_cases c1 : v1 = (-1 : Int32)
  · rw [if_pos c1] at h
    refine mr_icmp_ne_f (t := 22) (pc' := 14) dX10_letter_11 (by decide) rfl (not_not_intro c1) ?_
    refine mr_aload (pc' := 16) dX10_letter_14 rfl rfl ?_
    refine mr_iconst (pc' := 17) (v := (0 : Int32)) dX10_letter_16 rfl (by decide) ?_
    obtain ⟨S22, g23, h24⟩ := Option.bind_eq_some_iff.mp h
    refine mr_putI (pc' := 20) (ci := 2) (j := 4) dX10_letter_17 rfl rfl rfl (by decide) (by decide) rfl rfl ?_
    rw [Option.some.inj g23]
    refine mr_iconst (pc' := 21) (v := (0 : Int32)) dX10_letter_20 rfl (by decide) ?_
    obtain rfl := Option.some.inj h24
    exact mr_ireturn dX10_letter_21 rfl
  · rw [if_neg c1] at h
    refine mr_icmp_ne_t (t := 22) dX10_letter_11 (by decide) c1 ?_
    refine mr_aload_n (pc' := 23) dX10_letter_22 rfl rfl ?_
    refine mr_iload_n (pc' := 24) dX10_letter_23 rfl rfl ?_
    obtain ⟨q2, g3, h4⟩ := Option.bind_eq_some_iff.mp h
    refine mr_cv (pc' := 27) (a := 0) (d1 := 1) dX10_letter_24 rfl rfl rfl rfl rfl rfl (by decide) rfl (by decide) (ok_X10_isFloor hR  g3) ?_
    show mr X _ _ 27 _ [.int q2] (MM RR S) _
    by_cases c5 : q2 = (0 : Int32)
    · rw [if_pos c5] at h4
      refine mr_if_eq_t (t := 55) dX10_letter_27 (by decide) c5 ?_
      refine mr_bipush (pc' := 57) (v := (-2 : Int32)) dX10_letter_55 rfl (by decide) ?_
      obtain rfl := Option.some.inj h4
      exact mr_ireturn dX10_letter_57 rfl
    · rw [if_neg c5] at h4
      refine mr_if_eq_f (t := 55) (pc' := 30) dX10_letter_27 (by decide) rfl c5 ?_
      refine mr_aload_n (pc' := 31) dX10_letter_30 rfl rfl ?_
      refine mr_iload_n (pc' := 32) dX10_letter_31 rfl rfl ?_
      obtain ⟨q6, g7, h8⟩ := Option.bind_eq_some_iff.mp h4
      refine mr_cv (pc' := 35) (a := 0) (d1 := 1) dX10_letter_32 rfl rfl rfl rfl rfl rfl (by decide) rfl (by decide) (ok_X10_isFloor hR  g7) ?_
      show mr X _ _ 35 _ [.int q6] (MM RR S) _
      by_cases c9 : q6 = (0 : Int32)
      · rw [if_pos c9] at h8
        refine mr_if_eq_t (t := 55) dX10_letter_35 (by decide) c9 ?_
        refine mr_bipush (pc' := 57) (v := (-2 : Int32)) dX10_letter_55 rfl (by decide) ?_
        obtain rfl := Option.some.inj h8
        exact mr_ireturn dX10_letter_57 rfl
      · rw [if_neg c9] at h8
        refine mr_if_eq_f (t := 55) (pc' := 38) dX10_letter_35 (by decide) rfl c9 ?_
        refine mr_iload_n (pc' := 39) dX10_letter_38 rfl rfl ?_
        obtain ⟨q10, g11, h12⟩ := Option.bind_eq_some_iff.mp h8
        refine mr_cs (pc' := 42) (d1 := 1) dX10_letter_39 rfl rfl rfl rfl (by decide) (Nat.le_of_ble_eq_true rfl) rfl rfl rfl (by decide) (ok_X10_isHour hR  g11) ?_
        show mr X _ _ 42 _ [.int q10] (MM RR S) _
        by_cases c13 : q10 = (0 : Int32)
        · rw [if_pos c13] at h12
          refine mr_if_eq_t (t := 55) dX10_letter_42 (by decide) c13 ?_
          refine mr_bipush (pc' := 57) (v := (-2 : Int32)) dX10_letter_55 rfl (by decide) ?_
          obtain rfl := Option.some.inj h12
          exact mr_ireturn dX10_letter_57 rfl
        · rw [if_neg c13] at h12
          refine mr_if_eq_f (t := 55) (pc' := 45) dX10_letter_42 (by decide) rfl c13 ?_
          refine mr_aload (pc' := 47) dX10_letter_45 rfl rfl ?_
          refine mr_getI (pc' := 50) (ci := 2) (j := 4) dX10_letter_47 rfl rfl rfl (by decide) (by decide) rfl ?_
          refine mr_bipush (pc' := 52) (v := (12 : Int32)) dX10_letter_50 rfl (by decide) ?_
          by_cases c14 : (S.1 17 4) < (12 : Int32)
          · rw [if_pos c14] at h12
            refine mr_icmp_lt_t (t := 58) dX10_letter_52 (by decide) c14 ?_
            refine mr_aload_n (pc' := 59) dX10_letter_58 rfl rfl ?_
            refine mr_getR (pc' := 62) (ci := 10) (j := 1) (b := 3) hR dX10_letter_59 rfl rfl rfl (by decide) (by decide) (by decide) rfl rfl ?_
            refine mr_getR (pc' := 65) (ci := 6) (j := 0) (b := 4) hR dX10_letter_62 rfl rfl rfl (by decide) (by decide) (by decide) rfl rfl ?_
            refine mr_iload_n (pc' := 66) dX10_letter_65 rfl rfl ?_
            refine mr_iload_n (pc' := 67) dX10_letter_66 rfl rfl ?_
            obtain ⟨q15, g16, h17⟩ := Option.bind_eq_some_iff.mp h12
            refine mr_cv (pc' := 70) (a := 4) (d1 := 0) dX10_letter_67 rfl rfl rfl rfl rfl rfl (by decide) rfl (by decide) (ok_X8_hoursBetween hR rfl g16) ?_
            show mr X _ _ 70 _ [.int q15] (MM RR S) _
            refine mr_istore (pc' := 72) (lv' := [(5, .int q15), (4, .ref 17), (0, .ref 0), (1, .int v1), (2, .int v2), (3, .int v3)]) dX10_letter_70 rfl (by decide) rfl ?_
            refine mr_iload (pc' := 74) dX10_letter_72 rfl rfl ?_
            by_cases c18 : (0 : Int32) ≤ q15
            · rw [if_pos c18] at h17
              refine mr_if_ge_t (t := 80) dX10_letter_74 (by decide) c18 ?_
              refine mr_aload (pc' := 82) dX10_letter_80 rfl rfl ?_
              refine mr_iload_n (pc' := 83) dX10_letter_82 rfl rfl ?_
              refine mr_iload_n (pc' := 84) dX10_letter_83 rfl rfl ?_
              refine mr_iload_n (pc' := 85) dX10_letter_84 rfl rfl ?_
              refine mr_iload_n (pc' := 86) dX10_letter_85 rfl rfl ?_
              refine mr_iload (pc' := 88) dX10_letter_86 rfl rfl ?_
              refine mr_iadd (pc' := 89) dX10_letter_88 rfl ?_
              obtain ⟨q19, g20, h21⟩ := Option.bind_eq_some_iff.mp h17
              refine mr_cv (pc' := 92) (a := 17) (d1 := 0) dX10_letter_89 rfl rfl rfl rfl rfl rfl (by decide) rfl (by decide) (ok_X2_send hR rfl g20) ?_
              show mr X _ _ 92 _ [] (MM RR q19) _
              refine mr_aload (pc' := 94) dX10_letter_92 rfl rfl ?_
              refine mr_getI (pc' := 97) (ci := 2) (j := 4) dX10_letter_94 rfl rfl rfl (by decide) (by decide) rfl ?_
              obtain rfl := Option.some.inj h21
              exact mr_ireturn dX10_letter_97 rfl
            · rw [if_neg c18] at h17
              refine mr_if_ge_f (t := 80) (pc' := 77) dX10_letter_74 (by decide) rfl c18 ?_
              refine mr_bipush (pc' := 79) (v := (-2 : Int32)) dX10_letter_77 rfl (by decide) ?_
              obtain rfl := Option.some.inj h17
              exact mr_ireturn dX10_letter_79 rfl
          · rw [if_neg c14] at h12
            refine mr_icmp_lt_f (t := 58) (pc' := 55) dX10_letter_52 (by decide) rfl c14 ?_
            refine mr_bipush (pc' := 57) (v := (-2 : Int32)) dX10_letter_55 rfl (by decide) ?_
            obtain rfl := Option.some.inj h12
            exact mr_ireturn dX10_letter_57 rfl
def f_X2_sentByClock (v0 : Nat) (v1 : Nat) (v2 : Int32) (S : fS) : Option (Int64) :=
  (gI S (v0 + 1) 12 v2).bind fun a1 =>
  (gI S (v0 + 3) 12 v2).bind fun a4 =>
  (f_X8_clockAt v1 a1 a4 S).bind fun q7 =>
  some q7
set_option maxHeartbeats 4000000 in
set_option maxRecDepth 100000 in
theorem ok_X2_sentByClock {X : mm_C} {RR : Nat → Nat → Option Nat} (hR : RRok RR) {v0 : Nat} {v1 : Nat} {v2 : Int32} (t0 : tg v0 = 2) (t1 : tg v1 = 8) {S : fS} {r : Int64} (h : f_X2_sentByClock v0 v1 v2 S = some r) : mr X 1 mY_X2_sentByClock 0 (lv_args 0 [.ref v0, .ref v1, .int v2]) [] (MM RR S) (some (.long r), MM RR S) := by
  unfold f_X2_sentByClock at h
  show mr X _ _ 0 [(0, .ref v0), (1, .ref v1), (2, .int v2)] [] (MM RR S) _
  refine mr_aload_n (pc' := 1) dX2_sentByClock_0 rfl rfl ?_
  refine mr_aload_n (pc' := 2) dX2_sentByClock_1 rfl rfl ?_
  refine mr_getR (pc' := 5) (ci := 2) (j := 0) (b := (v0 + 1)) hR dX2_sentByClock_2 rfl rfl t0 (by decide) (by decide) (by decide) rfl (ly2_0 t0).1 ?_
  refine mr_iload_n (pc' := 6) dX2_sentByClock_5 rfl rfl ?_
  obtain ⟨a1, g2, h3⟩ := Option.bind_eq_some_iff.mp h
  refine mr_iald (pc' := 7) dX2_sentByClock_6 rfl (ly2_0 t0).2.1 (ly2_0 t0).2.2 g2 ?_
  refine mr_aload_n (pc' := 8) dX2_sentByClock_7 rfl rfl ?_
  refine mr_getR (pc' := 11) (ci := 2) (j := 2) (b := (v0 + 3)) hR dX2_sentByClock_8 rfl rfl t0 (by decide) (by decide) (by decide) rfl (ly2_2 t0).1 ?_
  refine mr_iload_n (pc' := 12) dX2_sentByClock_11 rfl rfl ?_
  obtain ⟨a4, g5, h6⟩ := Option.bind_eq_some_iff.mp h3
  refine mr_iald (pc' := 13) dX2_sentByClock_12 rfl (ly2_2 t0).2.1 (ly2_2 t0).2.2 g5 ?_
  obtain ⟨q7, g8, h9⟩ := Option.bind_eq_some_iff.mp h6
  refine mr_cv (pc' := 16) (a := v1) (d1 := 0) dX2_sentByClock_13 rfl rfl rfl rfl rfl t1 (by decide) rfl (by decide) (ok_X8_clockAt hR t1 g8) ?_
  show mr X _ _ 16 _ [.long q7] (MM RR S) _
  obtain rfl := Option.some.inj h9
  exact mr_lreturn dX2_sentByClock_16 rfl
def f_X2_isEarly (v0 : Nat) (v1 : Nat) (v2 : Int32) (S : fS) : Option (Int32) :=
  (gI S (v0 + 2) 12 v2).bind fun a1 =>
  (gI S (v0 + 4) 12 v2).bind fun a4 =>
  (f_X8_clockAt v1 a1 a4 S).bind fun q7 =>
  (f_X2_sentByClock v0 v1 v2 S).bind fun q10 =>
  if q10 ≤ q7 then (some (0 : Int32)) else
  (some (1 : Int32))
set_option maxHeartbeats 4000000 in
set_option maxRecDepth 100000 in
theorem ok_X2_isEarly {X : mm_C} {RR : Nat → Nat → Option Nat} (hR : RRok RR) {v0 : Nat} {v1 : Nat} {v2 : Int32} (t0 : tg v0 = 2) (t1 : tg v1 = 8) {S : fS} {r : Int32} (h : f_X2_isEarly v0 v1 v2 S = some r) : mr X 2 mY_X2_isEarly 0 (lv_args 0 [.ref v0, .ref v1, .int v2]) [] (MM RR S) (some (.int r), MM RR S) := by
  unfold f_X2_isEarly at h
  show mr X _ _ 0 [(0, .ref v0), (1, .ref v1), (2, .int v2)] [] (MM RR S) _
  refine mr_aload_n (pc' := 1) dX2_isEarly_0 rfl rfl ?_
  refine mr_aload_n (pc' := 2) dX2_isEarly_1 rfl rfl ?_
  refine mr_getR (pc' := 5) (ci := 2) (j := 1) (b := (v0 + 2)) hR dX2_isEarly_2 rfl rfl t0 (by decide) (by decide) (by decide) rfl (ly2_1 t0).1 ?_
  refine mr_iload_n (pc' := 6) dX2_isEarly_5 rfl rfl ?_
  obtain ⟨a1, g2, h3⟩ := Option.bind_eq_some_iff.mp h
  refine mr_iald (pc' := 7) dX2_isEarly_6 rfl (ly2_1 t0).2.1 (ly2_1 t0).2.2 g2 ?_
  refine mr_aload_n (pc' := 8) dX2_isEarly_7 rfl rfl ?_
  refine mr_getR (pc' := 11) (ci := 2) (j := 3) (b := (v0 + 4)) hR dX2_isEarly_8 rfl rfl t0 (by decide) (by decide) (by decide) rfl (ly2_3 t0).1 ?_
  refine mr_iload_n (pc' := 12) dX2_isEarly_11 rfl rfl ?_
  obtain ⟨a4, g5, h6⟩ := Option.bind_eq_some_iff.mp h3
  refine mr_iald (pc' := 13) dX2_isEarly_12 rfl (ly2_3 t0).2.1 (ly2_3 t0).2.2 g5 ?_
  obtain ⟨q7, g8, h9⟩ := Option.bind_eq_some_iff.mp h6
  refine mr_cv (pc' := 16) (a := v1) (d1 := 0) dX2_isEarly_13 rfl rfl rfl rfl rfl t1 (by decide) rfl (by decide) (ok_X8_clockAt hR t1 g8) ?_
  show mr X _ _ 16 _ [.long q7] (MM RR S) _
  refine mr_aload_n (pc' := 17) dX2_isEarly_16 rfl rfl ?_
  refine mr_aload_n (pc' := 18) dX2_isEarly_17 rfl rfl ?_
  refine mr_iload_n (pc' := 19) dX2_isEarly_18 rfl rfl ?_
  obtain ⟨q10, g11, h12⟩ := Option.bind_eq_some_iff.mp h9
  refine mr_cv (pc' := 22) (a := v0) (d1 := 1) dX2_isEarly_19 rfl rfl rfl rfl rfl t0 (by decide) rfl (by decide) (ok_X2_sentByClock hR t0 t1 g11) ?_
  show mr X _ _ 22 _ [.long q10, .long q7] (MM RR S) _
  by_cases c13 : q10 ≤ q7
  · rw [if_pos c13] at h12
    refine mr_lcmp_ge_t (t := 30) dX2_isEarly_22 rfl dX2_isEarly_23 (by decide) c13 ?_
    refine mr_iconst (pc' := 31) (v := (0 : Int32)) dX2_isEarly_30 rfl (by decide) ?_
    obtain rfl := Option.some.inj h12
    exact mr_zreturn dX2_isEarly_31 rfl (by decide)
  · rw [if_neg c13] at h12
    refine mr_lcmp_ge_f (t := 30) (pc' := 26) dX2_isEarly_22 rfl dX2_isEarly_23 (by decide) rfl c13 ?_
    refine mr_iconst (pc' := 27) (v := (1 : Int32)) dX2_isEarly_26 rfl (by decide) ?_
    refine mr_goto (t := 31) dX2_isEarly_27 (by decide) ?_
    obtain rfl := Option.some.inj h12
    exact mr_zreturn dX2_isEarly_31 rfl (by decide)
def f_X10_letters (v1 : Int32) (v2 : Int32) (S : fS) : Option (Int32) :=
  (f_X10_isFrom v1 (0 : Int32) ((S.1 17 4) - (1 : Int32)) S).bind fun q1 =>
  if q1 = (0 : Int32) then (some (-1 : Int32)) else
  ((f_X10_isFrom v2 (0 : Int32) (4 : Int32) S).bind fun q5 =>
  if q5 = (0 : Int32) then (some (-1 : Int32)) else
  (if v2 = (0 : Int32) then ((gI S 18 12 v1).bind fun a10 =>
  some a10) else
  if v2 = (1 : Int32) then ((gI S 19 12 v1).bind fun a14 =>
  some a14) else
  if v2 = (2 : Int32) then ((gI S 20 12 v1).bind fun a18 =>
  some a18) else
  if v2 = (3 : Int32) then ((gI S 21 12 v1).bind fun a22 =>
  some a22) else
  ((f_X2_isEarly 17 4 v1 S).bind fun q25 =>
  if q25 = (0 : Int32) then (some (0 : Int32)) else
  (some (1 : Int32)))))
set_option maxHeartbeats 4000000 in
set_option maxRecDepth 100000 in
theorem ok_X10_letters {X : mm_C} {RR : Nat → Nat → Option Nat} (hR : RRok RR) {v1 : Int32} {v2 : Int32}  {S : fS} {r : Int32} (h : f_X10_letters v1 v2 S = some r) : mr X 3 mY_X10_letters 0 (lv_args 0 [.ref 0, .int v1, .int v2]) [] (MM RR S) (some (.int r), MM RR S) := by
  unfold f_X10_letters at h
  show mr X _ _ 0 [(0, .ref 0), (1, .int v1), (2, .int v2)] [] (MM RR S) _
  refine mr_aload_n (pc' := 1) dX10_letters_0 rfl rfl ?_
  refine mr_getR (pc' := 4) (ci := 10) (j := 1) (b := 3) hR dX10_letters_1 rfl rfl rfl (by decide) (by decide) (by decide) rfl rfl ?_
  refine mr_getR (pc' := 7) (ci := 6) (j := 2) (b := 17) hR dX10_letters_4 rfl rfl rfl (by decide) (by decide) (by decide) rfl rfl ?_
  refine mr_astore_n (pc' := 8) (lv' := [(3, .ref 17), (0, .ref 0), (1, .int v1), (2, .int v2)]) dX10_letters_7 rfl (by decide) rfl ?_
  refine mr_iload_n (pc' := 9) dX10_letters_8 rfl rfl ?_
  refine mr_iconst (pc' := 10) (v := (0 : Int32)) dX10_letters_9 rfl (by decide) ?_
  refine mr_aload_n (pc' := 11) dX10_letters_10 rfl rfl ?_
  refine mr_getI (pc' := 14) (ci := 2) (j := 4) dX10_letters_11 rfl rfl rfl (by decide) (by decide) rfl ?_
  refine mr_iconst (pc' := 15) (v := (1 : Int32)) dX10_letters_14 rfl (by decide) ?_
  refine mr_isub (pc' := 16) dX10_letters_15 rfl ?_
  obtain ⟨q1, g2, h3⟩ := Option.bind_eq_some_iff.mp h
  refine mr_cs (pc' := 19) (d1 := 0) dX10_letters_16 rfl rfl rfl rfl (by decide) (Nat.le_of_ble_eq_true rfl) rfl rfl rfl (by decide) (ok_X10_isFrom hR  g2) ?_
  show mr X _ _ 19 _ [.int q1] (MM RR S) _
  by_cases c4 : q1 = (0 : Int32)
  · rw [if_pos c4] at h3
    refine mr_if_eq_t (t := 31) dX10_letters_19 (by decide) c4 ?_
    refine mr_iconst (pc' := 32) (v := (-1 : Int32)) dX10_letters_31 rfl (by decide) ?_
    obtain rfl := Option.some.inj h3
    exact mr_ireturn dX10_letters_32 rfl
  · rw [if_neg c4] at h3
    refine mr_if_eq_f (t := 31) (pc' := 22) dX10_letters_19 (by decide) rfl c4 ?_
    refine mr_iload_n (pc' := 23) dX10_letters_22 rfl rfl ?_
    refine mr_iconst (pc' := 24) (v := (0 : Int32)) dX10_letters_23 rfl (by decide) ?_
    refine mr_iconst (pc' := 25) (v := (4 : Int32)) dX10_letters_24 rfl (by decide) ?_
    obtain ⟨q5, g6, h7⟩ := Option.bind_eq_some_iff.mp h3
    refine mr_cs (pc' := 28) (d1 := 0) dX10_letters_25 rfl rfl rfl rfl (by decide) (Nat.le_of_ble_eq_true rfl) rfl rfl rfl (by decide) (ok_X10_isFrom hR  g6) ?_
    show mr X _ _ 28 _ [.int q5] (MM RR S) _
    by_cases c8 : q5 = (0 : Int32)
    · rw [if_pos c8] at h7
      refine mr_if_ne_f (t := 33) (pc' := 31) dX10_letters_28 (by decide) rfl (not_not_intro c8) ?_
      refine mr_iconst (pc' := 32) (v := (-1 : Int32)) dX10_letters_31 rfl (by decide) ?_
      obtain rfl := Option.some.inj h7
      exact mr_ireturn dX10_letters_32 rfl
    · rw [if_neg c8] at h7
      refine mr_if_ne_t (t := 33) dX10_letters_28 (by decide) c8 ?_
      refine mr_iload_n (pc' := 34) dX10_letters_33 rfl rfl ?_
      by_cases c9 : v2 = (0 : Int32)
      · rw [if_pos c9] at h7
        refine mr_sw_in (t := 64) (v := (0 : Int32)) dX10_letters_34 c9 rfl ?_
        refine mr_aload_n (pc' := 65) dX10_letters_64 rfl rfl ?_
        refine mr_getR (pc' := 68) (ci := 2) (j := 0) (b := 18) hR dX10_letters_65 rfl rfl rfl (by decide) (by decide) (by decide) rfl rfl ?_
        refine mr_iload_n (pc' := 69) dX10_letters_68 rfl rfl ?_
        obtain ⟨a10, g11, h12⟩ := Option.bind_eq_some_iff.mp h7
        refine mr_iald (pc' := 70) dX10_letters_69 rfl rfl rfl g11 ?_
        obtain rfl := Option.some.inj h12
        exact mr_ireturn dX10_letters_70 rfl
      rw [if_neg c9] at h7
      by_cases c13 : v2 = (1 : Int32)
      · rw [if_pos c13] at h7
        refine mr_sw_in (t := 71) (v := (1 : Int32)) dX10_letters_34 c13 rfl ?_
        refine mr_aload_n (pc' := 72) dX10_letters_71 rfl rfl ?_
        refine mr_getR (pc' := 75) (ci := 2) (j := 1) (b := 19) hR dX10_letters_72 rfl rfl rfl (by decide) (by decide) (by decide) rfl rfl ?_
        refine mr_iload_n (pc' := 76) dX10_letters_75 rfl rfl ?_
        obtain ⟨a14, g15, h16⟩ := Option.bind_eq_some_iff.mp h7
        refine mr_iald (pc' := 77) dX10_letters_76 rfl rfl rfl g15 ?_
        obtain rfl := Option.some.inj h16
        exact mr_ireturn dX10_letters_77 rfl
      rw [if_neg c13] at h7
      by_cases c17 : v2 = (2 : Int32)
      · rw [if_pos c17] at h7
        refine mr_sw_in (t := 78) (v := (2 : Int32)) dX10_letters_34 c17 rfl ?_
        refine mr_aload_n (pc' := 79) dX10_letters_78 rfl rfl ?_
        refine mr_getR (pc' := 82) (ci := 2) (j := 2) (b := 20) hR dX10_letters_79 rfl rfl rfl (by decide) (by decide) (by decide) rfl rfl ?_
        refine mr_iload_n (pc' := 83) dX10_letters_82 rfl rfl ?_
        obtain ⟨a18, g19, h20⟩ := Option.bind_eq_some_iff.mp h7
        refine mr_iald (pc' := 84) dX10_letters_83 rfl rfl rfl g19 ?_
        obtain rfl := Option.some.inj h20
        exact mr_ireturn dX10_letters_84 rfl
      rw [if_neg c17] at h7
      by_cases c21 : v2 = (3 : Int32)
      · rw [if_pos c21] at h7
        refine mr_sw_in (t := 85) (v := (3 : Int32)) dX10_letters_34 c21 rfl ?_
        refine mr_aload_n (pc' := 86) dX10_letters_85 rfl rfl ?_
        refine mr_getR (pc' := 89) (ci := 2) (j := 3) (b := 21) hR dX10_letters_86 rfl rfl rfl (by decide) (by decide) (by decide) rfl rfl ?_
        refine mr_iload_n (pc' := 90) dX10_letters_89 rfl rfl ?_
        obtain ⟨a22, g23, h24⟩ := Option.bind_eq_some_iff.mp h7
        refine mr_iald (pc' := 91) dX10_letters_90 rfl rfl rfl g23 ?_
        obtain rfl := Option.some.inj h24
        exact mr_ireturn dX10_letters_91 rfl
      rw [if_neg c21] at h7
      refine mr_sw_out (t := 92) dX10_letters_34 (by have := i32ne c9 (k := 0) (by decide); have := i32ne c13 (k := 1) (by decide); have := i32ne c17 (k := 2) (by decide); have := i32ne c21 (k := 3) (by decide); omega) (by decide) ?_
      refine mr_aload_n (pc' := 93) dX10_letters_92 rfl rfl ?_
      refine mr_aload_n (pc' := 94) dX10_letters_93 rfl rfl ?_
      refine mr_getR (pc' := 97) (ci := 10) (j := 1) (b := 3) hR dX10_letters_94 rfl rfl rfl (by decide) (by decide) (by decide) rfl rfl ?_
      refine mr_getR (pc' := 100) (ci := 6) (j := 0) (b := 4) hR dX10_letters_97 rfl rfl rfl (by decide) (by decide) (by decide) rfl rfl ?_
      refine mr_iload_n (pc' := 101) dX10_letters_100 rfl rfl ?_
      obtain ⟨q25, g26, h27⟩ := Option.bind_eq_some_iff.mp h7
      refine mr_cv (pc' := 104) (a := 17) (d1 := 2) dX10_letters_101 rfl rfl rfl rfl rfl rfl (by decide) rfl (by decide) (ok_X2_isEarly hR rfl rfl g26) ?_
      show mr X _ _ 104 _ [.int q25] (MM RR S) _
      by_cases c28 : q25 = (0 : Int32)
      · rw [if_pos c28] at h27
        refine mr_if_eq_t (t := 111) dX10_letters_104 (by decide) c28 ?_
        refine mr_iconst (pc' := 112) (v := (0 : Int32)) dX10_letters_111 rfl (by decide) ?_
        obtain rfl := Option.some.inj h27
        exact mr_ireturn dX10_letters_112 rfl
      · rw [if_neg c28] at h27
        refine mr_if_eq_f (t := 111) (pc' := 107) dX10_letters_104 (by decide) rfl c28 ?_
        refine mr_iconst (pc' := 108) (v := (1 : Int32)) dX10_letters_107 rfl (by decide) ?_
        refine mr_goto (t := 112) dX10_letters_108 (by decide) ?_
        obtain rfl := Option.some.inj h27
        exact mr_ireturn dX10_letters_112 rfl
def f_X2_isOvertaken (v0 : Nat) (v1 : Nat) (v2 : Int32) (v3 : Int32) (S : fS) : Option (Int32) :=
  (f_X2_sentByClock v0 v1 v2 S).bind fun q1 =>
  (f_X2_sentByClock v0 v1 v3 S).bind fun q4 =>
  if q4 ≤ q1 then (some (0 : Int32)) else
  ((gI S (v0 + 4) 12 v2).bind fun a8 =>
  (gI S (v0 + 4) 12 v3).bind fun a11 =>
  if a8 ≤ a11 then (some (0 : Int32)) else
  (some (1 : Int32)))
set_option maxHeartbeats 4000000 in
set_option maxRecDepth 100000 in
theorem ok_X2_isOvertaken {X : mm_C} {RR : Nat → Nat → Option Nat} (hR : RRok RR) {v0 : Nat} {v1 : Nat} {v2 : Int32} {v3 : Int32} (t0 : tg v0 = 2) (t1 : tg v1 = 8) {S : fS} {r : Int32} (h : f_X2_isOvertaken v0 v1 v2 v3 S = some r) : mr X 2 mY_X2_isOvertaken 0 (lv_args 0 [.ref v0, .ref v1, .int v2, .int v3]) [] (MM RR S) (some (.int r), MM RR S) := by
  unfold f_X2_isOvertaken at h
  show mr X _ _ 0 [(0, .ref v0), (1, .ref v1), (2, .int v2), (3, .int v3)] [] (MM RR S) _
  refine mr_aload_n (pc' := 1) dX2_isOvertaken_0 rfl rfl ?_
  refine mr_aload_n (pc' := 2) dX2_isOvertaken_1 rfl rfl ?_
  refine mr_iload_n (pc' := 3) dX2_isOvertaken_2 rfl rfl ?_
  obtain ⟨q1, g2, h3⟩ := Option.bind_eq_some_iff.mp h
  refine mr_cv (pc' := 6) (a := v0) (d1 := 1) dX2_isOvertaken_3 rfl rfl rfl rfl rfl t0 (by decide) rfl (by decide) (ok_X2_sentByClock hR t0 t1 g2) ?_
  show mr X _ _ 6 _ [.long q1] (MM RR S) _
  refine mr_aload_n (pc' := 7) dX2_isOvertaken_6 rfl rfl ?_
  refine mr_aload_n (pc' := 8) dX2_isOvertaken_7 rfl rfl ?_
  refine mr_iload_n (pc' := 9) dX2_isOvertaken_8 rfl rfl ?_
  obtain ⟨q4, g5, h6⟩ := Option.bind_eq_some_iff.mp h3
  refine mr_cv (pc' := 12) (a := v0) (d1 := 1) dX2_isOvertaken_9 rfl rfl rfl rfl rfl t0 (by decide) rfl (by decide) (ok_X2_sentByClock hR t0 t1 g5) ?_
  show mr X _ _ 12 _ [.long q4, .long q1] (MM RR S) _
  by_cases c7 : q4 ≤ q1
  · rw [if_pos c7] at h6
    refine mr_lcmp_ge_t (t := 35) dX2_isOvertaken_12 rfl dX2_isOvertaken_13 (by decide) c7 ?_
    refine mr_iconst (pc' := 36) (v := (0 : Int32)) dX2_isOvertaken_35 rfl (by decide) ?_
    obtain rfl := Option.some.inj h6
    exact mr_zreturn dX2_isOvertaken_36 rfl (by decide)
  · rw [if_neg c7] at h6
    refine mr_lcmp_ge_f (t := 35) (pc' := 16) dX2_isOvertaken_12 rfl dX2_isOvertaken_13 (by decide) rfl c7 ?_
    refine mr_aload_n (pc' := 17) dX2_isOvertaken_16 rfl rfl ?_
    refine mr_getR (pc' := 20) (ci := 2) (j := 3) (b := (v0 + 4)) hR dX2_isOvertaken_17 rfl rfl t0 (by decide) (by decide) (by decide) rfl (ly2_3 t0).1 ?_
    refine mr_iload_n (pc' := 21) dX2_isOvertaken_20 rfl rfl ?_
    obtain ⟨a8, g9, h10⟩ := Option.bind_eq_some_iff.mp h6
    refine mr_iald (pc' := 22) dX2_isOvertaken_21 rfl (ly2_3 t0).2.1 (ly2_3 t0).2.2 g9 ?_
    refine mr_aload_n (pc' := 23) dX2_isOvertaken_22 rfl rfl ?_
    refine mr_getR (pc' := 26) (ci := 2) (j := 3) (b := (v0 + 4)) hR dX2_isOvertaken_23 rfl rfl t0 (by decide) (by decide) (by decide) rfl (ly2_3 t0).1 ?_
    refine mr_iload_n (pc' := 27) dX2_isOvertaken_26 rfl rfl ?_
    obtain ⟨a11, g12, h13⟩ := Option.bind_eq_some_iff.mp h10
    refine mr_iald (pc' := 28) dX2_isOvertaken_27 rfl (ly2_3 t0).2.1 (ly2_3 t0).2.2 g12 ?_
    by_cases c14 : a8 ≤ a11
    · rw [if_pos c14] at h13
      refine mr_icmp_le_t (t := 35) dX2_isOvertaken_28 (by decide) c14 ?_
      refine mr_iconst (pc' := 36) (v := (0 : Int32)) dX2_isOvertaken_35 rfl (by decide) ?_
      obtain rfl := Option.some.inj h13
      exact mr_zreturn dX2_isOvertaken_36 rfl (by decide)
    · rw [if_neg c14] at h13
      refine mr_icmp_le_f (t := 35) (pc' := 31) dX2_isOvertaken_28 (by decide) rfl c14 ?_
      refine mr_iconst (pc' := 32) (v := (1 : Int32)) dX2_isOvertaken_31 rfl (by decide) ?_
      refine mr_goto (t := 36) dX2_isOvertaken_32 (by decide) ?_
      obtain rfl := Option.some.inj h13
      exact mr_zreturn dX2_isOvertaken_36 rfl (by decide)
def lp_X10_crossed_20 (p2 : Int32) (S : fS) (K : Int32 → Option (Int32)) : Nat → Int32 → Int32 → Option (Int32)
  | 0, _, _ => none
  | n + 1, p1, p3 =>
    if (S.1 17 4) ≤ p3 then (K p1) else
    ((f_X2_isOvertaken 17 4 p2 p3 S).bind fun q3 =>
    if q3 = (0 : Int32) then (lp_X10_crossed_20 p2 S K n p1 (p3 + (1 : Int32))) else
    (lp_X10_crossed_20 p2 S K n (p1 + (1 : Int32)) (p3 + (1 : Int32))))
set_option maxHeartbeats 4000000 in
set_option maxRecDepth 100000 in
theorem ok_lp_X10_crossed_20 {X : mm_C} {RR : Nat → Nat → Option Nat} (hR : RRok RR) {p2 : Int32}  {S : fS} {K : Int32 → Option (Int32)} {r : Int32} (hK : ∀ (k1 : Int32), K k1 = some r → mr X 3 mY_X10_crossed 65 [(0, .ref 0), (1, .int k1), (2, .int p2)] [] (MM RR S) (some (.int r), MM RR S)) : ∀ (n : Nat) (p1 : Int32) (p3 : Int32), lp_X10_crossed_20 p2 S K n p1 p3 = some r → mr X 3 mY_X10_crossed 20 [(0, .ref 0), (1, .int p1), (2, .int p2), (3, .int p3)] [] (MM RR S) (some (.int r), MM RR S) := by
  intro n
  induction n with
  | zero => intro p1 p3 h; exact mm_no h
  | succ n ih =>
    intro p1 p3 h
    unfold lp_X10_crossed_20 at h
    refine mr_iload_n (pc' := 21) dX10_crossed_20 rfl rfl ?_
    refine mr_aload_n (pc' := 22) dX10_crossed_21 rfl rfl ?_
    refine mr_getR (pc' := 25) (ci := 10) (j := 1) (b := 3) hR dX10_crossed_22 rfl rfl rfl (by decide) (by decide) (by decide) rfl rfl ?_
    refine mr_getR (pc' := 28) (ci := 6) (j := 2) (b := 17) hR dX10_crossed_25 rfl rfl rfl (by decide) (by decide) (by decide) rfl rfl ?_
    refine mr_getI (pc' := 31) (ci := 2) (j := 4) dX10_crossed_28 rfl rfl rfl (by decide) (by decide) rfl ?_
    by_cases c2 : (S.1 17 4) ≤ p3
    · rw [if_pos c2] at h
      refine mr_icmp_ge_t (t := 65) dX10_crossed_31 (by decide) c2 ?_
      exact mr_sub [(0, .ref 0), (1, .int p1), (2, .int p2)] ⟨rfl, rfl, rfl, trivial⟩ rfl (hK _  h)
    · rw [if_neg c2] at h
      refine mr_icmp_ge_f (t := 65) (pc' := 34) dX10_crossed_31 (by decide) rfl c2 ?_
      refine mr_aload_n (pc' := 35) dX10_crossed_34 rfl rfl ?_
      refine mr_getR (pc' := 38) (ci := 10) (j := 1) (b := 3) hR dX10_crossed_35 rfl rfl rfl (by decide) (by decide) (by decide) rfl rfl ?_
      refine mr_getR (pc' := 41) (ci := 6) (j := 2) (b := 17) hR dX10_crossed_38 rfl rfl rfl (by decide) (by decide) (by decide) rfl rfl ?_
      refine mr_aload_n (pc' := 42) dX10_crossed_41 rfl rfl ?_
      refine mr_getR (pc' := 45) (ci := 10) (j := 1) (b := 3) hR dX10_crossed_42 rfl rfl rfl (by decide) (by decide) (by decide) rfl rfl ?_
      refine mr_getR (pc' := 48) (ci := 6) (j := 0) (b := 4) hR dX10_crossed_45 rfl rfl rfl (by decide) (by decide) (by decide) rfl rfl ?_
      refine mr_iload_n (pc' := 49) dX10_crossed_48 rfl rfl ?_
      refine mr_iload_n (pc' := 50) dX10_crossed_49 rfl rfl ?_
      obtain ⟨q3, g4, h5⟩ := Option.bind_eq_some_iff.mp h
      refine mr_cv (pc' := 53) (a := 17) (d1 := 2) dX10_crossed_50 rfl rfl rfl rfl rfl rfl (by decide) rfl (by decide) (ok_X2_isOvertaken hR rfl rfl g4) ?_
      show mr X _ _ 53 _ [.int q3] (MM RR S) _
      by_cases c6 : q3 = (0 : Int32)
      · rw [if_pos c6] at h5
        refine mr_if_eq_t (t := 59) dX10_crossed_53 (by decide) c6 ?_
        refine mr_iinc (pc' := 62) (x' := (p3 + (1 : Int32))) (lv' := [(3, .int (p3 + (1 : Int32))), (0, .ref 0), (1, .int p1), (2, .int p2)]) dX10_crossed_59 rfl (by decide) rfl rfl rfl ?_
        refine mr_goto (t := 20) dX10_crossed_62 (by decide) ?_
        exact mr_sub [(0, .ref 0), (1, .int p1), (2, .int p2), (3, .int (p3 + (1 : Int32)))] ⟨rfl, rfl, rfl, rfl, trivial⟩ rfl (ih _ _  h5)
      · rw [if_neg c6] at h5
        refine mr_if_eq_f (t := 59) (pc' := 56) dX10_crossed_53 (by decide) rfl c6 ?_
        refine mr_iinc (pc' := 59) (x' := (p1 + (1 : Int32))) (lv' := [(1, .int (p1 + (1 : Int32))), (0, .ref 0), (2, .int p2), (3, .int p3)]) dX10_crossed_56 rfl (by decide) rfl rfl rfl ?_
        refine mr_iinc (pc' := 62) (x' := (p3 + (1 : Int32))) (lv' := [(3, .int (p3 + (1 : Int32))), (1, .int (p1 + (1 : Int32))), (0, .ref 0), (2, .int p2)]) dX10_crossed_59 rfl (by decide) rfl rfl rfl ?_
        refine mr_goto (t := 20) dX10_crossed_62 (by decide) ?_
        exact mr_sub [(0, .ref 0), (1, .int (p1 + (1 : Int32))), (2, .int p2), (3, .int (p3 + (1 : Int32)))] ⟨rfl, rfl, rfl, rfl, trivial⟩ rfl (ih _ _  h5)
def lp_X10_crossed_4  (S : fS) (K : Int32 → Option (Int32)) : Nat → Int32 → Int32 → Option (Int32)
  | 0, _, _ => none
  | n + 1, p1, p2 =>
    if (S.1 17 4) ≤ p2 then (K p1) else
    (lp_X10_crossed_20 p2 S (fun u7 => lp_X10_crossed_4  S K n u7 (p2 + (1 : Int32))) FU p1 (0 : Int32))
set_option maxHeartbeats 4000000 in
set_option maxRecDepth 100000 in
theorem ok_lp_X10_crossed_4 {X : mm_C} {RR : Nat → Nat → Option Nat} (hR : RRok RR)   {S : fS} {K : Int32 → Option (Int32)} {r : Int32} (hK : ∀ (k1 : Int32), K k1 = some r → mr X 3 mY_X10_crossed 71 [(1, .int k1)] [] (MM RR S) (some (.int r), MM RR S)) : ∀ (n : Nat) (p1 : Int32) (p2 : Int32), lp_X10_crossed_4  S K n p1 p2 = some r → mr X 3 mY_X10_crossed 4 [(0, .ref 0), (1, .int p1), (2, .int p2)] [] (MM RR S) (some (.int r), MM RR S) := by
  intro n
  induction n with
  | zero => intro p1 p2 h; exact mm_no h
  | succ n ih =>
    intro p1 p2 h
    unfold lp_X10_crossed_4 at h
    refine mr_iload_n (pc' := 5) dX10_crossed_4 rfl rfl ?_
    refine mr_aload_n (pc' := 6) dX10_crossed_5 rfl rfl ?_
    refine mr_getR (pc' := 9) (ci := 10) (j := 1) (b := 3) hR dX10_crossed_6 rfl rfl rfl (by decide) (by decide) (by decide) rfl rfl ?_
    refine mr_getR (pc' := 12) (ci := 6) (j := 2) (b := 17) hR dX10_crossed_9 rfl rfl rfl (by decide) (by decide) (by decide) rfl rfl ?_
    refine mr_getI (pc' := 15) (ci := 2) (j := 4) dX10_crossed_12 rfl rfl rfl (by decide) (by decide) rfl ?_
    by_cases c1 : (S.1 17 4) ≤ p2
    · rw [if_pos c1] at h
      refine mr_icmp_ge_t (t := 71) dX10_crossed_15 (by decide) c1 ?_
      exact mr_sub [(1, .int p1)] ⟨rfl, trivial⟩ rfl (hK _  h)
    · rw [if_neg c1] at h
      refine mr_icmp_ge_f (t := 71) (pc' := 18) dX10_crossed_15 (by decide) rfl c1 ?_
      refine mr_iconst (pc' := 19) (v := (0 : Int32)) dX10_crossed_18 rfl (by decide) ?_
      refine mr_istore_n (pc' := 20) (lv' := [(3, .int (0 : Int32)), (0, .ref 0), (1, .int p1), (2, .int p2)]) dX10_crossed_19 rfl (by decide) rfl ?_
      refine mr_sub [(0, .ref 0), (1, .int p1), (2, .int p2), (3, .int (0 : Int32))] ⟨rfl, rfl, rfl, rfl, trivial⟩ rfl ?_
      refine ok_lp_X10_crossed_20 hR  (fun u7 h8 => ?_) FU _ _  h
      refine mr_iinc (pc' := 68) (x' := (p2 + (1 : Int32))) (lv' := [(2, .int (p2 + (1 : Int32))), (0, .ref 0), (1, .int u7)]) dX10_crossed_65 rfl (by decide) rfl rfl rfl ?_
      refine mr_goto (t := 4) dX10_crossed_68 (by decide) ?_
      exact mr_sub [(0, .ref 0), (1, .int u7), (2, .int (p2 + (1 : Int32)))] ⟨rfl, rfl, rfl, trivial⟩ rfl (ih _ _  h8)
def f_X10_crossed  (S : fS) : Option (Int32) :=
  lp_X10_crossed_4  S (fun u9 => some u9) FU (0 : Int32) (0 : Int32)
set_option maxHeartbeats 4000000 in
set_option maxRecDepth 100000 in
theorem ok_X10_crossed {X : mm_C} {RR : Nat → Nat → Option Nat} (hR : RRok RR)   {S : fS} {r : Int32} (h : f_X10_crossed  S = some r) : mr X 3 mY_X10_crossed 0 (lv_args 0 [.ref 0]) [] (MM RR S) (some (.int r), MM RR S) := by
  unfold f_X10_crossed at h
  show mr X _ _ 0 [(0, .ref 0)] [] (MM RR S) _
  refine mr_iconst (pc' := 1) (v := (0 : Int32)) dX10_crossed_0 rfl (by decide) ?_
  refine mr_istore_n (pc' := 2) (lv' := [(1, .int (0 : Int32)), (0, .ref 0)]) dX10_crossed_1 rfl (by decide) rfl ?_
  refine mr_iconst (pc' := 3) (v := (0 : Int32)) dX10_crossed_2 rfl (by decide) ?_
  refine mr_istore_n (pc' := 4) (lv' := [(2, .int (0 : Int32)), (1, .int (0 : Int32)), (0, .ref 0)]) dX10_crossed_3 rfl (by decide) rfl ?_
  refine mr_sub [(0, .ref 0), (1, .int (0 : Int32)), (2, .int (0 : Int32))] ⟨rfl, rfl, rfl, trivial⟩ rfl ?_
  refine ok_lp_X10_crossed_4 hR  (fun u9 h10 => ?_) FU _ _  h
  refine mr_iload_n (pc' := 72) dX10_crossed_71 rfl rfl ?_
  obtain rfl := Option.some.inj h10
  exact mr_ireturn dX10_crossed_72 rfl
def lp_X2_comingBefore_4 (p0 : Nat) (p1 : Int32) (S : fS) (K : Int32 → Option (Int32)) : Nat → Int32 → Int32 → Option (Int32)
  | 0, _, _ => none
  | n + 1, p2, p3 =>
    if (S.1 p0 4) ≤ p3 then (K p2) else
    ((gI S (p0 + 4) 12 p3).bind fun a2 =>
    (gI S (p0 + 4) 12 p1).bind fun a5 =>
    if a2 < a5 then (if (1 : Int32) = (0 : Int32) then (lp_X2_comingBefore_4 p0 p1 S K n (p2 + (0 : Int32)) (p3 + (1 : Int32))) else
    (lp_X2_comingBefore_4 p0 p1 S K n (p2 + (1 : Int32)) (p3 + (1 : Int32)))) else
    ((gI S (p0 + 4) 12 p3).bind fun a10 =>
    (gI S (p0 + 4) 12 p1).bind fun a13 =>
    if a10 = a13 then (if p1 ≤ p3 then (if (0 : Int32) = (0 : Int32) then (lp_X2_comingBefore_4 p0 p1 S K n (p2 + (0 : Int32)) (p3 + (1 : Int32))) else
    (lp_X2_comingBefore_4 p0 p1 S K n (p2 + (1 : Int32)) (p3 + (1 : Int32)))) else
    (if (1 : Int32) = (0 : Int32) then (lp_X2_comingBefore_4 p0 p1 S K n (p2 + (0 : Int32)) (p3 + (1 : Int32))) else
    (lp_X2_comingBefore_4 p0 p1 S K n (p2 + (1 : Int32)) (p3 + (1 : Int32))))) else
    (if (0 : Int32) = (0 : Int32) then (lp_X2_comingBefore_4 p0 p1 S K n (p2 + (0 : Int32)) (p3 + (1 : Int32))) else
    (lp_X2_comingBefore_4 p0 p1 S K n (p2 + (1 : Int32)) (p3 + (1 : Int32))))))
set_option maxHeartbeats 4000000 in
set_option maxRecDepth 100000 in
theorem ok_lp_X2_comingBefore_4 {X : mm_C} {RR : Nat → Nat → Option Nat} (hR : RRok RR) {p0 : Nat} {p1 : Int32} (t0 : tg p0 = 2) {S : fS} {K : Int32 → Option (Int32)} {r : Int32} (hK : ∀ (k2 : Int32), K k2 = some r → mr X 0 mY_X2_comingBefore 73 [(2, .int k2)] [] (MM RR S) (some (.int r), MM RR S)) : ∀ (n : Nat) (p2 : Int32) (p3 : Int32), lp_X2_comingBefore_4 p0 p1 S K n p2 p3 = some r → mr X 0 mY_X2_comingBefore 4 [(0, .ref p0), (1, .int p1), (2, .int p2), (3, .int p3)] [] (MM RR S) (some (.int r), MM RR S) := by
  intro n
  induction n with
  | zero => intro p2 p3 h; exact mm_no h
  | succ n ih =>
    intro p2 p3 h
    unfold lp_X2_comingBefore_4 at h
    refine mr_iload_n (pc' := 5) dX2_comingBefore_4 rfl rfl ?_
    refine mr_aload_n (pc' := 6) dX2_comingBefore_5 rfl rfl ?_
    refine mr_getI (pc' := 9) (ci := 2) (j := 4) dX2_comingBefore_6 rfl rfl t0 (by decide) (by decide) rfl ?_
    by_cases c1 : (S.1 p0 4) ≤ p3
    · rw [if_pos c1] at h
      refine mr_icmp_ge_t (t := 73) dX2_comingBefore_9 (by decide) c1 ?_
      exact mr_sub [(2, .int p2)] ⟨rfl, trivial⟩ rfl (hK _  h)
    · rw [if_neg c1] at h
      refine mr_icmp_ge_f (t := 73) (pc' := 12) dX2_comingBefore_9 (by decide) rfl c1 ?_
      refine mr_aload_n (pc' := 13) dX2_comingBefore_12 rfl rfl ?_
      refine mr_getR (pc' := 16) (ci := 2) (j := 3) (b := (p0 + 4)) hR dX2_comingBefore_13 rfl rfl t0 (by decide) (by decide) (by decide) rfl (ly2_3 t0).1 ?_
      refine mr_iload_n (pc' := 17) dX2_comingBefore_16 rfl rfl ?_
      obtain ⟨a2, g3, h4⟩ := Option.bind_eq_some_iff.mp h
      refine mr_iald (pc' := 18) dX2_comingBefore_17 rfl (ly2_3 t0).2.1 (ly2_3 t0).2.2 g3 ?_
      refine mr_aload_n (pc' := 19) dX2_comingBefore_18 rfl rfl ?_
      refine mr_getR (pc' := 22) (ci := 2) (j := 3) (b := (p0 + 4)) hR dX2_comingBefore_19 rfl rfl t0 (by decide) (by decide) (by decide) rfl (ly2_3 t0).1 ?_
      refine mr_iload_n (pc' := 23) dX2_comingBefore_22 rfl rfl ?_
      obtain ⟨a5, g6, h7⟩ := Option.bind_eq_some_iff.mp h4
      refine mr_iald (pc' := 24) dX2_comingBefore_23 rfl (ly2_3 t0).2.1 (ly2_3 t0).2.2 g6 ?_
      by_cases c8 : a2 < a5
      · rw [if_pos c8] at h7
        refine mr_icmp_lt_t (t := 47) dX2_comingBefore_24 (by decide) c8 ?_
        refine mr_iconst (pc' := 48) (v := (1 : Int32)) dX2_comingBefore_47 rfl (by decide) ?_
        refine mr_goto (t := 52) dX2_comingBefore_48 (by decide) ?_
        refine mr_istore (pc' := 54) (lv' := [(4, .int (1 : Int32)), (0, .ref p0), (1, .int p1), (2, .int p2), (3, .int p3)]) dX2_comingBefore_52 rfl (by decide) rfl ?_
        refine mr_iload_n (pc' := 55) dX2_comingBefore_54 rfl rfl ?_
        refine mr_iload (pc' := 57) dX2_comingBefore_55 rfl rfl ?_
        by_cases c9 : (1 : Int32) = (0 : Int32)
        · rw [if_pos c9] at h7
          refine mr_if_eq_t (t := 64) dX2_comingBefore_57 (by decide) c9 ?_
          refine mr_iconst (pc' := 65) (v := (0 : Int32)) dX2_comingBefore_64 rfl (by decide) ?_
          refine mr_iadd (pc' := 66) dX2_comingBefore_65 rfl ?_
          refine mr_istore_n (pc' := 67) (lv' := [(2, .int (p2 + (0 : Int32))), (4, .int (1 : Int32)), (0, .ref p0), (1, .int p1), (3, .int p3)]) dX2_comingBefore_66 rfl (by decide) rfl ?_
          refine mr_iinc (pc' := 70) (x' := (p3 + (1 : Int32))) (lv' := [(3, .int (p3 + (1 : Int32))), (2, .int (p2 + (0 : Int32))), (4, .int (1 : Int32)), (0, .ref p0), (1, .int p1)]) dX2_comingBefore_67 rfl (by decide) rfl rfl rfl ?_
          refine mr_goto (t := 4) dX2_comingBefore_70 (by decide) ?_
          exact mr_sub [(0, .ref p0), (1, .int p1), (2, .int (p2 + (0 : Int32))), (3, .int (p3 + (1 : Int32)))] ⟨rfl, rfl, rfl, rfl, trivial⟩ rfl (ih _ _  h7)
        · rw [if_neg c9] at h7
          refine mr_if_eq_f (t := 64) (pc' := 60) dX2_comingBefore_57 (by decide) rfl c9 ?_
          refine mr_iconst (pc' := 61) (v := (1 : Int32)) dX2_comingBefore_60 rfl (by decide) ?_
          refine mr_goto (t := 65) dX2_comingBefore_61 (by decide) ?_
          refine mr_iadd (pc' := 66) dX2_comingBefore_65 rfl ?_
          refine mr_istore_n (pc' := 67) (lv' := [(2, .int (p2 + (1 : Int32))), (4, .int (1 : Int32)), (0, .ref p0), (1, .int p1), (3, .int p3)]) dX2_comingBefore_66 rfl (by decide) rfl ?_
          refine mr_iinc (pc' := 70) (x' := (p3 + (1 : Int32))) (lv' := [(3, .int (p3 + (1 : Int32))), (2, .int (p2 + (1 : Int32))), (4, .int (1 : Int32)), (0, .ref p0), (1, .int p1)]) dX2_comingBefore_67 rfl (by decide) rfl rfl rfl ?_
          refine mr_goto (t := 4) dX2_comingBefore_70 (by decide) ?_
          exact mr_sub [(0, .ref p0), (1, .int p1), (2, .int (p2 + (1 : Int32))), (3, .int (p3 + (1 : Int32)))] ⟨rfl, rfl, rfl, rfl, trivial⟩ rfl (ih _ _  h7)
      · rw [if_neg c8] at h7
        refine mr_icmp_lt_f (t := 47) (pc' := 27) dX2_comingBefore_24 (by decide) rfl c8 ?_
        refine mr_aload_n (pc' := 28) dX2_comingBefore_27 rfl rfl ?_
        refine mr_getR (pc' := 31) (ci := 2) (j := 3) (b := (p0 + 4)) hR dX2_comingBefore_28 rfl rfl t0 (by decide) (by decide) (by decide) rfl (ly2_3 t0).1 ?_
        refine mr_iload_n (pc' := 32) dX2_comingBefore_31 rfl rfl ?_
        obtain ⟨a10, g11, h12⟩ := Option.bind_eq_some_iff.mp h7
        refine mr_iald (pc' := 33) dX2_comingBefore_32 rfl (ly2_3 t0).2.1 (ly2_3 t0).2.2 g11 ?_
        refine mr_aload_n (pc' := 34) dX2_comingBefore_33 rfl rfl ?_
        refine mr_getR (pc' := 37) (ci := 2) (j := 3) (b := (p0 + 4)) hR dX2_comingBefore_34 rfl rfl t0 (by decide) (by decide) (by decide) rfl (ly2_3 t0).1 ?_
        refine mr_iload_n (pc' := 38) dX2_comingBefore_37 rfl rfl ?_
        obtain ⟨a13, g14, h15⟩ := Option.bind_eq_some_iff.mp h12
        refine mr_iald (pc' := 39) dX2_comingBefore_38 rfl (ly2_3 t0).2.1 (ly2_3 t0).2.2 g14 ?_
        by_cases c16 : a10 = a13
        · rw [if_pos c16] at h15
          refine mr_icmp_ne_f (t := 51) (pc' := 42) dX2_comingBefore_39 (by decide) rfl (not_not_intro c16) ?_
          refine mr_iload_n (pc' := 43) dX2_comingBefore_42 rfl rfl ?_
          refine mr_iload_n (pc' := 44) dX2_comingBefore_43 rfl rfl ?_
          by_cases c18 : p1 ≤ p3
          · rw [if_pos c18] at h15
            refine mr_icmp_ge_t (t := 51) dX2_comingBefore_44 (by decide) c18 ?_
            refine mr_iconst (pc' := 52) (v := (0 : Int32)) dX2_comingBefore_51 rfl (by decide) ?_
            refine mr_istore (pc' := 54) (lv' := [(4, .int (0 : Int32)), (0, .ref p0), (1, .int p1), (2, .int p2), (3, .int p3)]) dX2_comingBefore_52 rfl (by decide) rfl ?_
            refine mr_iload_n (pc' := 55) dX2_comingBefore_54 rfl rfl ?_
            refine mr_iload (pc' := 57) dX2_comingBefore_55 rfl rfl ?_
            by_cases c19 : (0 : Int32) = (0 : Int32)
            · rw [if_pos c19] at h15
              refine mr_if_eq_t (t := 64) dX2_comingBefore_57 (by decide) c19 ?_
              refine mr_iconst (pc' := 65) (v := (0 : Int32)) dX2_comingBefore_64 rfl (by decide) ?_
              refine mr_iadd (pc' := 66) dX2_comingBefore_65 rfl ?_
              refine mr_istore_n (pc' := 67) (lv' := [(2, .int (p2 + (0 : Int32))), (4, .int (0 : Int32)), (0, .ref p0), (1, .int p1), (3, .int p3)]) dX2_comingBefore_66 rfl (by decide) rfl ?_
              refine mr_iinc (pc' := 70) (x' := (p3 + (1 : Int32))) (lv' := [(3, .int (p3 + (1 : Int32))), (2, .int (p2 + (0 : Int32))), (4, .int (0 : Int32)), (0, .ref p0), (1, .int p1)]) dX2_comingBefore_67 rfl (by decide) rfl rfl rfl ?_
              refine mr_goto (t := 4) dX2_comingBefore_70 (by decide) ?_
              exact mr_sub [(0, .ref p0), (1, .int p1), (2, .int (p2 + (0 : Int32))), (3, .int (p3 + (1 : Int32)))] ⟨rfl, rfl, rfl, rfl, trivial⟩ rfl (ih _ _  h15)
            · rw [if_neg c19] at h15
              refine mr_if_eq_f (t := 64) (pc' := 60) dX2_comingBefore_57 (by decide) rfl c19 ?_
              refine mr_iconst (pc' := 61) (v := (1 : Int32)) dX2_comingBefore_60 rfl (by decide) ?_
              refine mr_goto (t := 65) dX2_comingBefore_61 (by decide) ?_
              refine mr_iadd (pc' := 66) dX2_comingBefore_65 rfl ?_
              refine mr_istore_n (pc' := 67) (lv' := [(2, .int (p2 + (1 : Int32))), (4, .int (0 : Int32)), (0, .ref p0), (1, .int p1), (3, .int p3)]) dX2_comingBefore_66 rfl (by decide) rfl ?_
              refine mr_iinc (pc' := 70) (x' := (p3 + (1 : Int32))) (lv' := [(3, .int (p3 + (1 : Int32))), (2, .int (p2 + (1 : Int32))), (4, .int (0 : Int32)), (0, .ref p0), (1, .int p1)]) dX2_comingBefore_67 rfl (by decide) rfl rfl rfl ?_
              refine mr_goto (t := 4) dX2_comingBefore_70 (by decide) ?_
              exact mr_sub [(0, .ref p0), (1, .int p1), (2, .int (p2 + (1 : Int32))), (3, .int (p3 + (1 : Int32)))] ⟨rfl, rfl, rfl, rfl, trivial⟩ rfl (ih _ _  h15)
          · rw [if_neg c18] at h15
            refine mr_icmp_ge_f (t := 51) (pc' := 47) dX2_comingBefore_44 (by decide) rfl c18 ?_
            refine mr_iconst (pc' := 48) (v := (1 : Int32)) dX2_comingBefore_47 rfl (by decide) ?_
            refine mr_goto (t := 52) dX2_comingBefore_48 (by decide) ?_
            refine mr_istore (pc' := 54) (lv' := [(4, .int (1 : Int32)), (0, .ref p0), (1, .int p1), (2, .int p2), (3, .int p3)]) dX2_comingBefore_52 rfl (by decide) rfl ?_
            refine mr_iload_n (pc' := 55) dX2_comingBefore_54 rfl rfl ?_
            refine mr_iload (pc' := 57) dX2_comingBefore_55 rfl rfl ?_
            by_cases c20 : (1 : Int32) = (0 : Int32)
            · rw [if_pos c20] at h15
              refine mr_if_eq_t (t := 64) dX2_comingBefore_57 (by decide) c20 ?_
              refine mr_iconst (pc' := 65) (v := (0 : Int32)) dX2_comingBefore_64 rfl (by decide) ?_
              refine mr_iadd (pc' := 66) dX2_comingBefore_65 rfl ?_
              refine mr_istore_n (pc' := 67) (lv' := [(2, .int (p2 + (0 : Int32))), (4, .int (1 : Int32)), (0, .ref p0), (1, .int p1), (3, .int p3)]) dX2_comingBefore_66 rfl (by decide) rfl ?_
              refine mr_iinc (pc' := 70) (x' := (p3 + (1 : Int32))) (lv' := [(3, .int (p3 + (1 : Int32))), (2, .int (p2 + (0 : Int32))), (4, .int (1 : Int32)), (0, .ref p0), (1, .int p1)]) dX2_comingBefore_67 rfl (by decide) rfl rfl rfl ?_
              refine mr_goto (t := 4) dX2_comingBefore_70 (by decide) ?_
              exact mr_sub [(0, .ref p0), (1, .int p1), (2, .int (p2 + (0 : Int32))), (3, .int (p3 + (1 : Int32)))] ⟨rfl, rfl, rfl, rfl, trivial⟩ rfl (ih _ _  h15)
            · rw [if_neg c20] at h15
              refine mr_if_eq_f (t := 64) (pc' := 60) dX2_comingBefore_57 (by decide) rfl c20 ?_
              refine mr_iconst (pc' := 61) (v := (1 : Int32)) dX2_comingBefore_60 rfl (by decide) ?_
              refine mr_goto (t := 65) dX2_comingBefore_61 (by decide) ?_
              refine mr_iadd (pc' := 66) dX2_comingBefore_65 rfl ?_
              refine mr_istore_n (pc' := 67) (lv' := [(2, .int (p2 + (1 : Int32))), (4, .int (1 : Int32)), (0, .ref p0), (1, .int p1), (3, .int p3)]) dX2_comingBefore_66 rfl (by decide) rfl ?_
              refine mr_iinc (pc' := 70) (x' := (p3 + (1 : Int32))) (lv' := [(3, .int (p3 + (1 : Int32))), (2, .int (p2 + (1 : Int32))), (4, .int (1 : Int32)), (0, .ref p0), (1, .int p1)]) dX2_comingBefore_67 rfl (by decide) rfl rfl rfl ?_
              refine mr_goto (t := 4) dX2_comingBefore_70 (by decide) ?_
              exact mr_sub [(0, .ref p0), (1, .int p1), (2, .int (p2 + (1 : Int32))), (3, .int (p3 + (1 : Int32)))] ⟨rfl, rfl, rfl, rfl, trivial⟩ rfl (ih _ _  h15)
        · rw [if_neg c16] at h15
          refine mr_icmp_ne_t (t := 51) dX2_comingBefore_39 (by decide) c16 ?_
          refine mr_iconst (pc' := 52) (v := (0 : Int32)) dX2_comingBefore_51 rfl (by decide) ?_
          refine mr_istore (pc' := 54) (lv' := [(4, .int (0 : Int32)), (0, .ref p0), (1, .int p1), (2, .int p2), (3, .int p3)]) dX2_comingBefore_52 rfl (by decide) rfl ?_
          refine mr_iload_n (pc' := 55) dX2_comingBefore_54 rfl rfl ?_
          refine mr_iload (pc' := 57) dX2_comingBefore_55 rfl rfl ?_
          by_cases c17 : (0 : Int32) = (0 : Int32)
          · rw [if_pos c17] at h15
            refine mr_if_eq_t (t := 64) dX2_comingBefore_57 (by decide) c17 ?_
            refine mr_iconst (pc' := 65) (v := (0 : Int32)) dX2_comingBefore_64 rfl (by decide) ?_
            refine mr_iadd (pc' := 66) dX2_comingBefore_65 rfl ?_
            refine mr_istore_n (pc' := 67) (lv' := [(2, .int (p2 + (0 : Int32))), (4, .int (0 : Int32)), (0, .ref p0), (1, .int p1), (3, .int p3)]) dX2_comingBefore_66 rfl (by decide) rfl ?_
            refine mr_iinc (pc' := 70) (x' := (p3 + (1 : Int32))) (lv' := [(3, .int (p3 + (1 : Int32))), (2, .int (p2 + (0 : Int32))), (4, .int (0 : Int32)), (0, .ref p0), (1, .int p1)]) dX2_comingBefore_67 rfl (by decide) rfl rfl rfl ?_
            refine mr_goto (t := 4) dX2_comingBefore_70 (by decide) ?_
            exact mr_sub [(0, .ref p0), (1, .int p1), (2, .int (p2 + (0 : Int32))), (3, .int (p3 + (1 : Int32)))] ⟨rfl, rfl, rfl, rfl, trivial⟩ rfl (ih _ _  h15)
          · rw [if_neg c17] at h15
            refine mr_if_eq_f (t := 64) (pc' := 60) dX2_comingBefore_57 (by decide) rfl c17 ?_
            refine mr_iconst (pc' := 61) (v := (1 : Int32)) dX2_comingBefore_60 rfl (by decide) ?_
            refine mr_goto (t := 65) dX2_comingBefore_61 (by decide) ?_
            refine mr_iadd (pc' := 66) dX2_comingBefore_65 rfl ?_
            refine mr_istore_n (pc' := 67) (lv' := [(2, .int (p2 + (1 : Int32))), (4, .int (0 : Int32)), (0, .ref p0), (1, .int p1), (3, .int p3)]) dX2_comingBefore_66 rfl (by decide) rfl ?_
            refine mr_iinc (pc' := 70) (x' := (p3 + (1 : Int32))) (lv' := [(3, .int (p3 + (1 : Int32))), (2, .int (p2 + (1 : Int32))), (4, .int (0 : Int32)), (0, .ref p0), (1, .int p1)]) dX2_comingBefore_67 rfl (by decide) rfl rfl rfl ?_
            refine mr_goto (t := 4) dX2_comingBefore_70 (by decide) ?_
            exact mr_sub [(0, .ref p0), (1, .int p1), (2, .int (p2 + (1 : Int32))), (3, .int (p3 + (1 : Int32)))] ⟨rfl, rfl, rfl, rfl, trivial⟩ rfl (ih _ _  h15)
def f_X2_comingBefore (v0 : Nat) (v1 : Int32) (S : fS) : Option (Int32) :=
  lp_X2_comingBefore_4 v0 v1 S (fun u21 => some u21) FU (0 : Int32) (0 : Int32)
set_option maxHeartbeats 4000000 in
set_option maxRecDepth 100000 in
theorem ok_X2_comingBefore {X : mm_C} {RR : Nat → Nat → Option Nat} (hR : RRok RR) {v0 : Nat} {v1 : Int32} (t0 : tg v0 = 2) {S : fS} {r : Int32} (h : f_X2_comingBefore v0 v1 S = some r) : mr X 0 mY_X2_comingBefore 0 (lv_args 0 [.ref v0, .int v1]) [] (MM RR S) (some (.int r), MM RR S) := by
  unfold f_X2_comingBefore at h
  show mr X _ _ 0 [(0, .ref v0), (1, .int v1)] [] (MM RR S) _
  refine mr_iconst (pc' := 1) (v := (0 : Int32)) dX2_comingBefore_0 rfl (by decide) ?_
  refine mr_istore_n (pc' := 2) (lv' := [(2, .int (0 : Int32)), (0, .ref v0), (1, .int v1)]) dX2_comingBefore_1 rfl (by decide) rfl ?_
  refine mr_iconst (pc' := 3) (v := (0 : Int32)) dX2_comingBefore_2 rfl (by decide) ?_
  refine mr_istore_n (pc' := 4) (lv' := [(3, .int (0 : Int32)), (2, .int (0 : Int32)), (0, .ref v0), (1, .int v1)]) dX2_comingBefore_3 rfl (by decide) rfl ?_
  refine mr_sub [(0, .ref v0), (1, .int v1), (2, .int (0 : Int32)), (3, .int (0 : Int32))] ⟨rfl, rfl, rfl, rfl, trivial⟩ rfl ?_
  refine ok_lp_X2_comingBefore_4 hR t0 (fun u21 h22 => ?_) FU _ _  h
  refine mr_iload_n (pc' := 74) dX2_comingBefore_73 rfl rfl ?_
  obtain rfl := Option.some.inj h22
  exact mr_ireturn dX2_comingBefore_74 rfl
def lp_X10_order_24 (p1 : Int32) (S : fS) (K : Unit → Option (Int32)) : Nat → Int32 → Option (Int32)
  | 0, _ => none
  | n + 1, p2 =>
    if (S.1 17 4) ≤ p2 then (K ()) else
    ((f_X2_comingBefore 17 p2 S).bind fun q6 =>
    if q6 = p1 then (some p2) else
    (lp_X10_order_24 p1 S K n (p2 + (1 : Int32))))
set_option maxHeartbeats 4000000 in
set_option maxRecDepth 100000 in
theorem ok_lp_X10_order_24 {X : mm_C} {RR : Nat → Nat → Option Nat} (hR : RRok RR) {p1 : Int32}  {S : fS} {K : Unit → Option (Int32)} {r : Int32} (hK : ∀ (_ : Unit), K () = some r → mr X 1 mY_X10_order 61 [] [] (MM RR S) (some (.int r), MM RR S)) : ∀ (n : Nat) (p2 : Int32), lp_X10_order_24 p1 S K n p2 = some r → mr X 1 mY_X10_order 24 [(0, .ref 0), (1, .int p1), (2, .int p2)] [] (MM RR S) (some (.int r), MM RR S) := by
  intro n
  induction n with
  | zero => intro p2 h; exact mm_no h
  | succ n ih =>
    intro p2 h
    unfold lp_X10_order_24 at h
    refine mr_iload_n (pc' := 25) dX10_order_24 rfl rfl ?_
    refine mr_aload_n (pc' := 26) dX10_order_25 rfl rfl ?_
    refine mr_getR (pc' := 29) (ci := 10) (j := 1) (b := 3) hR dX10_order_26 rfl rfl rfl (by decide) (by decide) (by decide) rfl rfl ?_
    refine mr_getR (pc' := 32) (ci := 6) (j := 2) (b := 17) hR dX10_order_29 rfl rfl rfl (by decide) (by decide) (by decide) rfl rfl ?_
    refine mr_getI (pc' := 35) (ci := 2) (j := 4) dX10_order_32 rfl rfl rfl (by decide) (by decide) rfl ?_
    by_cases c5 : (S.1 17 4) ≤ p2
    · rw [if_pos c5] at h
      refine mr_icmp_ge_t (t := 61) dX10_order_35 (by decide) c5 ?_
      exact mr_sub [] trivial rfl (hK () h)
    · rw [if_neg c5] at h
      refine mr_icmp_ge_f (t := 61) (pc' := 38) dX10_order_35 (by decide) rfl c5 ?_
      refine mr_aload_n (pc' := 39) dX10_order_38 rfl rfl ?_
      refine mr_getR (pc' := 42) (ci := 10) (j := 1) (b := 3) hR dX10_order_39 rfl rfl rfl (by decide) (by decide) (by decide) rfl rfl ?_
      refine mr_getR (pc' := 45) (ci := 6) (j := 2) (b := 17) hR dX10_order_42 rfl rfl rfl (by decide) (by decide) (by decide) rfl rfl ?_
      refine mr_iload_n (pc' := 46) dX10_order_45 rfl rfl ?_
      obtain ⟨q6, g7, h8⟩ := Option.bind_eq_some_iff.mp h
      refine mr_cv (pc' := 49) (a := 17) (d1 := 0) dX10_order_46 rfl rfl rfl rfl rfl rfl (by decide) rfl (by decide) (ok_X2_comingBefore hR rfl g7) ?_
      show mr X _ _ 49 _ [.int q6] (MM RR S) _
      refine mr_iload_n (pc' := 50) dX10_order_49 rfl rfl ?_
      by_cases c9 : q6 = p1
      · rw [if_pos c9] at h8
        refine mr_icmp_ne_f (t := 55) (pc' := 53) dX10_order_50 (by decide) rfl (not_not_intro c9) ?_
        refine mr_iload_n (pc' := 54) dX10_order_53 rfl rfl ?_
        obtain rfl := Option.some.inj h8
        exact mr_ireturn dX10_order_54 rfl
      · rw [if_neg c9] at h8
        refine mr_icmp_ne_t (t := 55) dX10_order_50 (by decide) c9 ?_
        refine mr_iinc (pc' := 58) (x' := (p2 + (1 : Int32))) (lv' := [(2, .int (p2 + (1 : Int32))), (0, .ref 0), (1, .int p1)]) dX10_order_55 rfl (by decide) rfl rfl rfl ?_
        refine mr_goto (t := 24) dX10_order_58 (by decide) ?_
        exact mr_sub [(0, .ref 0), (1, .int p1), (2, .int (p2 + (1 : Int32)))] ⟨rfl, rfl, rfl, trivial⟩ rfl (ih _  h8)
def f_X10_order (v1 : Int32) (S : fS) : Option (Int32) :=
  (f_X10_isFrom v1 (0 : Int32) ((S.1 17 4) - (1 : Int32)) S).bind fun q1 =>
  if q1 = (0 : Int32) then (some (-1 : Int32)) else
  (lp_X10_order_24 v1 S (fun (_ : Unit) => some (-1 : Int32)) FU (0 : Int32))
set_option maxHeartbeats 4000000 in
set_option maxRecDepth 100000 in
theorem ok_X10_order {X : mm_C} {RR : Nat → Nat → Option Nat} (hR : RRok RR) {v1 : Int32}  {S : fS} {r : Int32} (h : f_X10_order v1 S = some r) : mr X 1 mY_X10_order 0 (lv_args 0 [.ref 0, .int v1]) [] (MM RR S) (some (.int r), MM RR S) := by
  unfold f_X10_order at h
  show mr X _ _ 0 [(0, .ref 0), (1, .int v1)] [] (MM RR S) _
  refine mr_iload_n (pc' := 1) dX10_order_0 rfl rfl ?_
  refine mr_iconst (pc' := 2) (v := (0 : Int32)) dX10_order_1 rfl (by decide) ?_
  refine mr_aload_n (pc' := 3) dX10_order_2 rfl rfl ?_
  refine mr_getR (pc' := 6) (ci := 10) (j := 1) (b := 3) hR dX10_order_3 rfl rfl rfl (by decide) (by decide) (by decide) rfl rfl ?_
  refine mr_getR (pc' := 9) (ci := 6) (j := 2) (b := 17) hR dX10_order_6 rfl rfl rfl (by decide) (by decide) (by decide) rfl rfl ?_
  refine mr_getI (pc' := 12) (ci := 2) (j := 4) dX10_order_9 rfl rfl rfl (by decide) (by decide) rfl ?_
  refine mr_iconst (pc' := 13) (v := (1 : Int32)) dX10_order_12 rfl (by decide) ?_
  refine mr_isub (pc' := 14) dX10_order_13 rfl ?_
  obtain ⟨q1, g2, h3⟩ := Option.bind_eq_some_iff.mp h
  refine mr_cs (pc' := 17) (d1 := 0) dX10_order_14 rfl rfl rfl rfl (by decide) (Nat.le_of_ble_eq_true rfl) rfl rfl rfl (by decide) (ok_X10_isFrom hR  g2) ?_
  show mr X _ _ 17 _ [.int q1] (MM RR S) _
  by_cases c4 : q1 = (0 : Int32)
  · rw [if_pos c4] at h3
    refine mr_if_ne_f (t := 22) (pc' := 20) dX10_order_17 (by decide) rfl (not_not_intro c4) ?_
    refine mr_iconst (pc' := 21) (v := (-1 : Int32)) dX10_order_20 rfl (by decide) ?_
    obtain rfl := Option.some.inj h3
    exact mr_ireturn dX10_order_21 rfl
  · rw [if_neg c4] at h3
    refine mr_if_ne_t (t := 22) dX10_order_17 (by decide) c4 ?_
    refine mr_iconst (pc' := 23) (v := (0 : Int32)) dX10_order_22 rfl (by decide) ?_
    refine mr_istore_n (pc' := 24) (lv' := [(2, .int (0 : Int32)), (0, .ref 0), (1, .int v1)]) dX10_order_23 rfl (by decide) rfl ?_
    refine mr_sub [(0, .ref 0), (1, .int v1), (2, .int (0 : Int32))] ⟨rfl, rfl, rfl, trivial⟩ rfl ?_
    refine ok_lp_X10_order_24 hR  (fun _ h10 => ?_) FU _  h3
    refine mr_iconst (pc' := 62) (v := (-1 : Int32)) dX10_order_61 rfl (by decide) ?_
    obtain rfl := Option.some.inj h10
    exact mr_ireturn dX10_order_62 rfl
def f_X10_seed (v1 : Int32) (S : fS) : Option (Int32 × fS) :=
  if (0 : Int32) ≤ v1 then ((some (pI S 3 3 v1)).bind fun S2 =>
  some ((S.1 3 3), S2)) else
  (some ((-1 : Int32), S))
set_option maxHeartbeats 4000000 in
set_option maxRecDepth 100000 in
theorem ok_X10_seed {X : mm_C} {RR : Nat → Nat → Option Nat} (hR : RRok RR) {v1 : Int32}  {S : fS} {r : Int32 × fS} (h : f_X10_seed v1 S = some r) : mr X 0 mY_X10_seed 0 (lv_args 0 [.ref 0, .int v1]) [] (MM RR S) (some (.int r.1), MM RR r.2) := by
  unfold f_X10_seed at h
  show mr X _ _ 0 [(0, .ref 0), (1, .int v1)] [] (MM RR S) _
  refine mr_iload_n (pc' := 1) dX10_seed_0 rfl rfl ?_
  by_cases c1 : (0 : Int32) ≤ v1
  · rw [if_pos c1] at h
    refine mr_if_ge_t (t := 6) dX10_seed_1 (by decide) c1 ?_
    refine mr_aload_n (pc' := 7) dX10_seed_6 rfl rfl ?_
    refine mr_getR (pc' := 10) (ci := 10) (j := 1) (b := 3) hR dX10_seed_7 rfl rfl rfl (by decide) (by decide) (by decide) rfl rfl ?_
    refine mr_getI (pc' := 13) (ci := 6) (j := 3) dX10_seed_10 rfl rfl rfl (by decide) (by decide) rfl ?_
    refine mr_istore_n (pc' := 14) (lv' := [(2, .int (S.1 3 3)), (0, .ref 0), (1, .int v1)]) dX10_seed_13 rfl (by decide) rfl ?_
    refine mr_aload_n (pc' := 15) dX10_seed_14 rfl rfl ?_
    refine mr_getR (pc' := 18) (ci := 10) (j := 1) (b := 3) hR dX10_seed_15 rfl rfl rfl (by decide) (by decide) (by decide) rfl rfl ?_
    refine mr_iload_n (pc' := 19) dX10_seed_18 rfl rfl ?_
    obtain ⟨S2, g3, h4⟩ := Option.bind_eq_some_iff.mp h
    refine mr_putI (pc' := 22) (ci := 6) (j := 3) dX10_seed_19 rfl rfl rfl (by decide) (by decide) rfl rfl ?_
    rw [Option.some.inj g3]
    refine mr_iload_n (pc' := 23) dX10_seed_22 rfl rfl ?_
    obtain rfl := Option.some.inj h4
    exact mr_ireturn dX10_seed_23 rfl
  · rw [if_neg c1] at h
    refine mr_if_ge_f (t := 6) (pc' := 4) dX10_seed_1 (by decide) rfl c1 ?_
    refine mr_iconst (pc' := 5) (v := (-1 : Int32)) dX10_seed_4 rfl (by decide) ?_
    obtain rfl := Option.some.inj h
    exact mr_ireturn dX10_seed_5 rfl
def f_X6_draw (v0 : Nat) (S : fS) : Option (Int32 × fS) :=
  (some (pI S v0 3 (Int64.toInt32 ((((Int32.toInt64 (S.1 v0 3)) * (1103515245 : Int64)) + (12345 : Int64)) &&& (2147483647 : Int64))))).bind fun S1 =>
  (dI (S1.1 v0 3) (65536 : Int32)).bind fun a4 =>
  some (a4, S1)
set_option maxHeartbeats 4000000 in
set_option maxRecDepth 100000 in
theorem ok_X6_draw {X : mm_C} {RR : Nat → Nat → Option Nat} (hR : RRok RR) {v0 : Nat} (t0 : tg v0 = 6) {S : fS} {r : Int32 × fS} (h : f_X6_draw v0 S = some r) : mr X 0 mY_X6_draw 0 (lv_args 0 [.ref v0]) [] (MM RR S) (some (.int r.1), MM RR r.2) := by
  unfold f_X6_draw at h
  show mr X _ _ 0 [(0, .ref v0)] [] (MM RR S) _
  refine mr_aload_n (pc' := 1) dX6_draw_0 rfl rfl ?_
  refine mr_aload_n (pc' := 2) dX6_draw_1 rfl rfl ?_
  refine mr_getI (pc' := 5) (ci := 6) (j := 3) dX6_draw_2 rfl rfl t0 (by decide) (by decide) rfl ?_
  refine mr_i2l (pc' := 6) dX6_draw_5 rfl ?_
  refine mr_ldc2 (pc' := 9) (v := (1103515245 : Int64)) dX6_draw_6 rfl rfl ?_
  refine mr_lmul (pc' := 10) dX6_draw_9 rfl ?_
  refine mr_ldc2 (pc' := 13) (v := (12345 : Int64)) dX6_draw_10 rfl rfl ?_
  refine mr_ladd (pc' := 14) dX6_draw_13 rfl ?_
  refine mr_ldc2 (pc' := 17) (v := (2147483647 : Int64)) dX6_draw_14 rfl rfl ?_
  refine mr_land (pc' := 18) dX6_draw_17 rfl ?_
  refine mr_l2i (pc' := 19) dX6_draw_18 rfl ?_
  obtain ⟨S1, g2, h3⟩ := Option.bind_eq_some_iff.mp h
  refine mr_putI (pc' := 22) (ci := 6) (j := 3) dX6_draw_19 rfl rfl t0 (by decide) (by decide) rfl rfl ?_
  rw [Option.some.inj g2]
  refine mr_aload_n (pc' := 23) dX6_draw_22 rfl rfl ?_
  refine mr_getI (pc' := 26) (ci := 6) (j := 3) dX6_draw_23 rfl rfl t0 (by decide) (by decide) rfl ?_
  refine mr_ldc (pc' := 28) (v := (65536 : Int32)) dX6_draw_26 rfl rfl ?_
  obtain ⟨a4, g5, h6⟩ := Option.bind_eq_some_iff.mp h3
  refine mr_idiv (pc' := 29) dX6_draw_28 rfl g5 ?_
  obtain rfl := Option.some.inj h6
  exact mr_ireturn dX6_draw_29 rfl
def lp_X8_stairsAt_4 (p0 : Nat) (p1 : Int32) (S : fS) (K : Int32 → Option (Int32)) : Nat → Int32 → Int32 → Option (Int32)
  | 0, _, _ => none
  | n + 1, p2, p3 =>
    if (S.1 p0 7) ≤ p3 then (K p2) else
    ((f_X8_otherEnd p0 p3 p1 S).bind fun q2 =>
    if (0 : Int32) ≤ q2 then (lp_X8_stairsAt_4 p0 p1 S K n (p2 + (1 : Int32)) (p3 + (1 : Int32))) else
    (lp_X8_stairsAt_4 p0 p1 S K n (p2 + (0 : Int32)) (p3 + (1 : Int32))))
set_option maxHeartbeats 4000000 in
set_option maxRecDepth 100000 in
theorem ok_lp_X8_stairsAt_4 {X : mm_C} {RR : Nat → Nat → Option Nat} (hR : RRok RR) {p0 : Nat} {p1 : Int32} (t0 : tg p0 = 8) {S : fS} {K : Int32 → Option (Int32)} {r : Int32} (hK : ∀ (k2 : Int32), K k2 = some r → mr X 1 mY_X8_stairsAt 35 [(2, .int k2)] [] (MM RR S) (some (.int r), MM RR S)) : ∀ (n : Nat) (p2 : Int32) (p3 : Int32), lp_X8_stairsAt_4 p0 p1 S K n p2 p3 = some r → mr X 1 mY_X8_stairsAt 4 [(0, .ref p0), (1, .int p1), (2, .int p2), (3, .int p3)] [] (MM RR S) (some (.int r), MM RR S) := by
  intro n
  induction n with
  | zero => intro p2 p3 h; exact mm_no h
  | succ n ih =>
    intro p2 p3 h
    unfold lp_X8_stairsAt_4 at h
    refine mr_iload_n (pc' := 5) dX8_stairsAt_4 rfl rfl ?_
    refine mr_aload_n (pc' := 6) dX8_stairsAt_5 rfl rfl ?_
    refine mr_getI (pc' := 9) (ci := 8) (j := 7) dX8_stairsAt_6 rfl rfl t0 (by decide) (by decide) rfl ?_
    by_cases c1 : (S.1 p0 7) ≤ p3
    · rw [if_pos c1] at h
      refine mr_icmp_ge_t (t := 35) dX8_stairsAt_9 (by decide) c1 ?_
      exact mr_sub [(2, .int p2)] ⟨rfl, trivial⟩ rfl (hK _  h)
    · rw [if_neg c1] at h
      refine mr_icmp_ge_f (t := 35) (pc' := 12) dX8_stairsAt_9 (by decide) rfl c1 ?_
      refine mr_iload_n (pc' := 13) dX8_stairsAt_12 rfl rfl ?_
      refine mr_aload_n (pc' := 14) dX8_stairsAt_13 rfl rfl ?_
      refine mr_iload_n (pc' := 15) dX8_stairsAt_14 rfl rfl ?_
      refine mr_iload_n (pc' := 16) dX8_stairsAt_15 rfl rfl ?_
      obtain ⟨q2, g3, h4⟩ := Option.bind_eq_some_iff.mp h
      refine mr_cv (pc' := 19) (a := p0) (d1 := 0) dX8_stairsAt_16 rfl rfl rfl rfl rfl t0 (by decide) rfl (by decide) (ok_X8_otherEnd hR t0 g3) ?_
      show mr X _ _ 19 _ [.int q2, .int p2] (MM RR S) _
      by_cases c5 : (0 : Int32) ≤ q2
      · rw [if_pos c5] at h4
        refine mr_if_ge_t (t := 26) dX8_stairsAt_19 (by decide) c5 ?_
        refine mr_iconst (pc' := 27) (v := (1 : Int32)) dX8_stairsAt_26 rfl (by decide) ?_
        refine mr_iadd (pc' := 28) dX8_stairsAt_27 rfl ?_
        refine mr_istore_n (pc' := 29) (lv' := [(2, .int (p2 + (1 : Int32))), (0, .ref p0), (1, .int p1), (3, .int p3)]) dX8_stairsAt_28 rfl (by decide) rfl ?_
        refine mr_iinc (pc' := 32) (x' := (p3 + (1 : Int32))) (lv' := [(3, .int (p3 + (1 : Int32))), (2, .int (p2 + (1 : Int32))), (0, .ref p0), (1, .int p1)]) dX8_stairsAt_29 rfl (by decide) rfl rfl rfl ?_
        refine mr_goto (t := 4) dX8_stairsAt_32 (by decide) ?_
        exact mr_sub [(0, .ref p0), (1, .int p1), (2, .int (p2 + (1 : Int32))), (3, .int (p3 + (1 : Int32)))] ⟨rfl, rfl, rfl, rfl, trivial⟩ rfl (ih _ _  h4)
      · rw [if_neg c5] at h4
        refine mr_if_ge_f (t := 26) (pc' := 22) dX8_stairsAt_19 (by decide) rfl c5 ?_
        refine mr_iconst (pc' := 23) (v := (0 : Int32)) dX8_stairsAt_22 rfl (by decide) ?_
        refine mr_goto (t := 27) dX8_stairsAt_23 (by decide) ?_
        refine mr_iadd (pc' := 28) dX8_stairsAt_27 rfl ?_
        refine mr_istore_n (pc' := 29) (lv' := [(2, .int (p2 + (0 : Int32))), (0, .ref p0), (1, .int p1), (3, .int p3)]) dX8_stairsAt_28 rfl (by decide) rfl ?_
        refine mr_iinc (pc' := 32) (x' := (p3 + (1 : Int32))) (lv' := [(3, .int (p3 + (1 : Int32))), (2, .int (p2 + (0 : Int32))), (0, .ref p0), (1, .int p1)]) dX8_stairsAt_29 rfl (by decide) rfl rfl rfl ?_
        refine mr_goto (t := 4) dX8_stairsAt_32 (by decide) ?_
        exact mr_sub [(0, .ref p0), (1, .int p1), (2, .int (p2 + (0 : Int32))), (3, .int (p3 + (1 : Int32)))] ⟨rfl, rfl, rfl, rfl, trivial⟩ rfl (ih _ _  h4)
def f_X8_stairsAt (v0 : Nat) (v1 : Int32) (S : fS) : Option (Int32) :=
  lp_X8_stairsAt_4 v0 v1 S (fun u6 => some u6) FU (0 : Int32) (0 : Int32)
set_option maxHeartbeats 4000000 in
set_option maxRecDepth 100000 in
theorem ok_X8_stairsAt {X : mm_C} {RR : Nat → Nat → Option Nat} (hR : RRok RR) {v0 : Nat} {v1 : Int32} (t0 : tg v0 = 8) {S : fS} {r : Int32} (h : f_X8_stairsAt v0 v1 S = some r) : mr X 1 mY_X8_stairsAt 0 (lv_args 0 [.ref v0, .int v1]) [] (MM RR S) (some (.int r), MM RR S) := by
  unfold f_X8_stairsAt at h
  show mr X _ _ 0 [(0, .ref v0), (1, .int v1)] [] (MM RR S) _
  refine mr_iconst (pc' := 1) (v := (0 : Int32)) dX8_stairsAt_0 rfl (by decide) ?_
  refine mr_istore_n (pc' := 2) (lv' := [(2, .int (0 : Int32)), (0, .ref v0), (1, .int v1)]) dX8_stairsAt_1 rfl (by decide) rfl ?_
  refine mr_iconst (pc' := 3) (v := (0 : Int32)) dX8_stairsAt_2 rfl (by decide) ?_
  refine mr_istore_n (pc' := 4) (lv' := [(3, .int (0 : Int32)), (2, .int (0 : Int32)), (0, .ref v0), (1, .int v1)]) dX8_stairsAt_3 rfl (by decide) rfl ?_
  refine mr_sub [(0, .ref v0), (1, .int v1), (2, .int (0 : Int32)), (3, .int (0 : Int32))] ⟨rfl, rfl, rfl, rfl, trivial⟩ rfl ?_
  refine ok_lp_X8_stairsAt_4 hR t0 (fun u6 h7 => ?_) FU _ _  h
  refine mr_iload_n (pc' := 36) dX8_stairsAt_35 rfl rfl ?_
  obtain rfl := Option.some.inj h7
  exact mr_ireturn dX8_stairsAt_36 rfl
def lp_X8_stairInPlace_5 (p0 : Nat) (p1 : Int32) (p2 : Int32) (S : fS) (K : Unit → Option (Int32)) : Nat → Int32 → Int32 → Option (Int32)
  | 0, _, _ => none
  | n + 1, p3, p4 =>
    if (S.1 p0 7) ≤ p4 then (K ()) else
    ((f_X8_otherEnd p0 p4 p1 S).bind fun q2 =>
    if (0 : Int32) ≤ q2 then (if p3 = p2 then (some p4) else
    (lp_X8_stairInPlace_5 p0 p1 p2 S K n (p3 + (1 : Int32)) (p4 + (1 : Int32)))) else
    (lp_X8_stairInPlace_5 p0 p1 p2 S K n p3 (p4 + (1 : Int32))))
set_option maxHeartbeats 4000000 in
set_option maxRecDepth 100000 in
theorem ok_lp_X8_stairInPlace_5 {X : mm_C} {RR : Nat → Nat → Option Nat} (hR : RRok RR) {p0 : Nat} {p1 : Int32} {p2 : Int32} (t0 : tg p0 = 8) {S : fS} {K : Unit → Option (Int32)} {r : Int32} (hK : ∀ (_ : Unit), K () = some r → mr X 1 mY_X8_stairInPlace 44 [] [] (MM RR S) (some (.int r), MM RR S)) : ∀ (n : Nat) (p3 : Int32) (p4 : Int32), lp_X8_stairInPlace_5 p0 p1 p2 S K n p3 p4 = some r → mr X 1 mY_X8_stairInPlace 5 [(0, .ref p0), (1, .int p1), (2, .int p2), (3, .int p3), (4, .int p4)] [] (MM RR S) (some (.int r), MM RR S) := by
  intro n
  induction n with
  | zero => intro p3 p4 h; exact mm_no h
  | succ n ih =>
    intro p3 p4 h
    unfold lp_X8_stairInPlace_5 at h
    refine mr_iload (pc' := 7) dX8_stairInPlace_5 rfl rfl ?_
    refine mr_aload_n (pc' := 8) dX8_stairInPlace_7 rfl rfl ?_
    refine mr_getI (pc' := 11) (ci := 8) (j := 7) dX8_stairInPlace_8 rfl rfl t0 (by decide) (by decide) rfl ?_
    by_cases c1 : (S.1 p0 7) ≤ p4
    · rw [if_pos c1] at h
      refine mr_icmp_ge_t (t := 44) dX8_stairInPlace_11 (by decide) c1 ?_
      exact mr_sub [] trivial rfl (hK () h)
    · rw [if_neg c1] at h
      refine mr_icmp_ge_f (t := 44) (pc' := 14) dX8_stairInPlace_11 (by decide) rfl c1 ?_
      refine mr_aload_n (pc' := 15) dX8_stairInPlace_14 rfl rfl ?_
      refine mr_iload (pc' := 17) dX8_stairInPlace_15 rfl rfl ?_
      refine mr_iload_n (pc' := 18) dX8_stairInPlace_17 rfl rfl ?_
      obtain ⟨q2, g3, h4⟩ := Option.bind_eq_some_iff.mp h
      refine mr_cv (pc' := 21) (a := p0) (d1 := 0) dX8_stairInPlace_18 rfl rfl rfl rfl rfl t0 (by decide) rfl (by decide) (ok_X8_otherEnd hR t0 g3) ?_
      show mr X _ _ 21 _ [.int q2] (MM RR S) _
      by_cases c5 : (0 : Int32) ≤ q2
      · rw [if_pos c5] at h4
        refine mr_if_ge_t (t := 27) dX8_stairInPlace_21 (by decide) c5 ?_
        refine mr_iload_n (pc' := 28) dX8_stairInPlace_27 rfl rfl ?_
        refine mr_iload_n (pc' := 29) dX8_stairInPlace_28 rfl rfl ?_
        by_cases c6 : p3 = p2
        · rw [if_pos c6] at h4
          refine mr_icmp_ne_f (t := 35) (pc' := 32) dX8_stairInPlace_29 (by decide) rfl (not_not_intro c6) ?_
          refine mr_iload (pc' := 34) dX8_stairInPlace_32 rfl rfl ?_
          obtain rfl := Option.some.inj h4
          exact mr_ireturn dX8_stairInPlace_34 rfl
        · rw [if_neg c6] at h4
          refine mr_icmp_ne_t (t := 35) dX8_stairInPlace_29 (by decide) c6 ?_
          refine mr_iinc (pc' := 38) (x' := (p3 + (1 : Int32))) (lv' := [(3, .int (p3 + (1 : Int32))), (0, .ref p0), (1, .int p1), (2, .int p2), (4, .int p4)]) dX8_stairInPlace_35 rfl (by decide) rfl rfl rfl ?_
          refine mr_iinc (pc' := 41) (x' := (p4 + (1 : Int32))) (lv' := [(4, .int (p4 + (1 : Int32))), (3, .int (p3 + (1 : Int32))), (0, .ref p0), (1, .int p1), (2, .int p2)]) dX8_stairInPlace_38 rfl (by decide) rfl rfl rfl ?_
          refine mr_goto (t := 5) dX8_stairInPlace_41 (by decide) ?_
          exact mr_sub [(0, .ref p0), (1, .int p1), (2, .int p2), (3, .int (p3 + (1 : Int32))), (4, .int (p4 + (1 : Int32)))] ⟨rfl, rfl, rfl, rfl, rfl, trivial⟩ rfl (ih _ _  h4)
      · rw [if_neg c5] at h4
        refine mr_if_ge_f (t := 27) (pc' := 24) dX8_stairInPlace_21 (by decide) rfl c5 ?_
        refine mr_goto (t := 38) dX8_stairInPlace_24 (by decide) ?_
        refine mr_iinc (pc' := 41) (x' := (p4 + (1 : Int32))) (lv' := [(4, .int (p4 + (1 : Int32))), (0, .ref p0), (1, .int p1), (2, .int p2), (3, .int p3)]) dX8_stairInPlace_38 rfl (by decide) rfl rfl rfl ?_
        refine mr_goto (t := 5) dX8_stairInPlace_41 (by decide) ?_
        exact mr_sub [(0, .ref p0), (1, .int p1), (2, .int p2), (3, .int p3), (4, .int (p4 + (1 : Int32)))] ⟨rfl, rfl, rfl, rfl, rfl, trivial⟩ rfl (ih _ _  h4)
def f_X8_stairInPlace (v0 : Nat) (v1 : Int32) (v2 : Int32) (S : fS) : Option (Int32) :=
  lp_X8_stairInPlace_5 v0 v1 v2 S (fun (_ : Unit) => some (-1 : Int32)) FU (0 : Int32) (0 : Int32)
set_option maxHeartbeats 4000000 in
set_option maxRecDepth 100000 in
theorem ok_X8_stairInPlace {X : mm_C} {RR : Nat → Nat → Option Nat} (hR : RRok RR) {v0 : Nat} {v1 : Int32} {v2 : Int32} (t0 : tg v0 = 8) {S : fS} {r : Int32} (h : f_X8_stairInPlace v0 v1 v2 S = some r) : mr X 1 mY_X8_stairInPlace 0 (lv_args 0 [.ref v0, .int v1, .int v2]) [] (MM RR S) (some (.int r), MM RR S) := by
  unfold f_X8_stairInPlace at h
  show mr X _ _ 0 [(0, .ref v0), (1, .int v1), (2, .int v2)] [] (MM RR S) _
  refine mr_iconst (pc' := 1) (v := (0 : Int32)) dX8_stairInPlace_0 rfl (by decide) ?_
  refine mr_istore_n (pc' := 2) (lv' := [(3, .int (0 : Int32)), (0, .ref v0), (1, .int v1), (2, .int v2)]) dX8_stairInPlace_1 rfl (by decide) rfl ?_
  refine mr_iconst (pc' := 3) (v := (0 : Int32)) dX8_stairInPlace_2 rfl (by decide) ?_
  refine mr_istore (pc' := 5) (lv' := [(4, .int (0 : Int32)), (3, .int (0 : Int32)), (0, .ref v0), (1, .int v1), (2, .int v2)]) dX8_stairInPlace_3 rfl (by decide) rfl ?_
  refine mr_sub [(0, .ref v0), (1, .int v1), (2, .int v2), (3, .int (0 : Int32)), (4, .int (0 : Int32))] ⟨rfl, rfl, rfl, rfl, rfl, trivial⟩ rfl ?_
  refine ok_lp_X8_stairInPlace_5 hR t0 (fun _ h7 => ?_) FU _ _  h
  refine mr_iconst (pc' := 45) (v := (-1 : Int32)) dX8_stairInPlace_44 rfl (by decide) ?_
  obtain rfl := Option.some.inj h7
  exact mr_ireturn dX8_stairInPlace_45 rfl
def lp_X10_wander_2  (K : fS → Option (fS)) : Nat → Int32 → fS → Option (fS)
  | 0, _, _ => none
  | n + 1, p1, S0 =>
    if (S0.1 31 5) ≤ p1 then (K S0) else
    ((f_X0_isStanding 31 p1 S0).bind fun q2 =>
    if q2 = (0 : Int32) then (lp_X10_wander_2  K n (p1 + (1 : Int32)) S0) else
    ((gI S0 32 8 p1).bind fun a6 =>
    (f_X6_draw 3 S0).bind fun q9 =>
    (rI q9.1 (4 : Int32)).bind fun a12 =>
    if a12 = (0 : Int32) then ((f_X8_stairsAt 4 a6 q9.2).bind fun q33 =>
    if (1 : Int32) = (0 : Int32) then (lp_X10_wander_2  K n (p1 + (1 : Int32)) q9.2) else
    (if q33 ≤ (0 : Int32) then (lp_X10_wander_2  K n (p1 + (1 : Int32)) q9.2) else
    ((f_X6_draw 3 q9.2).bind fun q38 =>
    (rI q38.1 q33).bind fun a41 =>
    (f_X8_stairInPlace 4 a6 a41 q38.2).bind fun q44 =>
    (f_X0_setOff 31 4 p1 q44 q38.2).bind fun q47 =>
    lp_X10_wander_2  K n (p1 + (1 : Int32)) q47.2))) else
    ((f_X8_stairsAt 4 a6 q9.2).bind fun q16 =>
    if (0 : Int32) = (0 : Int32) then (lp_X10_wander_2  K n (p1 + (1 : Int32)) q9.2) else
    (if q16 ≤ (0 : Int32) then (lp_X10_wander_2  K n (p1 + (1 : Int32)) q9.2) else
    ((f_X6_draw 3 q9.2).bind fun q21 =>
    (rI q21.1 q16).bind fun a24 =>
    (f_X8_stairInPlace 4 a6 a24 q21.2).bind fun q27 =>
    (f_X0_setOff 31 4 p1 q27 q21.2).bind fun q30 =>
    lp_X10_wander_2  K n (p1 + (1 : Int32)) q30.2)))))
set_option maxHeartbeats 4000000 in
set_option maxRecDepth 100000 in
theorem ok_lp_X10_wander_2 {X : mm_C} {RR : Nat → Nat → Option Nat} (hR : RRok RR)   {K : fS → Option (fS)} {r : fS} (hK : ∀ (Sk : fS), K Sk = some r → mr X 2 mY_X10_wander 124 [] [] (MM RR Sk) (none, MM RR r)) : ∀ (n : Nat) (p1 : Int32) (S0 : fS), lp_X10_wander_2  K n p1 S0 = some r → mr X 2 mY_X10_wander 2 [(0, .ref 0), (1, .int p1)] [] (MM RR S0) (none, MM RR r) := by
  intro n
  induction n with
  | zero => intro p1 S0 h; exact mm_no h
  | succ n ih =>
    intro p1 S0 h
    unfold lp_X10_wander_2 at h
    refine mr_iload_n (pc' := 3) dX10_wander_2 rfl rfl ?_
    refine mr_aload_n (pc' := 4) dX10_wander_3 rfl rfl ?_
    refine mr_getR (pc' := 7) (ci := 10) (j := 5) (b := 31) hR dX10_wander_4 rfl rfl rfl (by decide) (by decide) (by decide) rfl rfl ?_
    refine mr_getI (pc' := 10) (ci := 0) (j := 5) dX10_wander_7 rfl rfl rfl (by decide) (by decide) rfl ?_
    by_cases c1 : (S0.1 31 5) ≤ p1
    · rw [if_pos c1] at h
      refine mr_icmp_ge_t (t := 124) dX10_wander_10 (by decide) c1 ?_
      exact mr_sub [] trivial rfl (hK _  h)
    · rw [if_neg c1] at h
      refine mr_icmp_ge_f (t := 124) (pc' := 13) dX10_wander_10 (by decide) rfl c1 ?_
      refine mr_aload_n (pc' := 14) dX10_wander_13 rfl rfl ?_
      refine mr_getR (pc' := 17) (ci := 10) (j := 5) (b := 31) hR dX10_wander_14 rfl rfl rfl (by decide) (by decide) (by decide) rfl rfl ?_
      refine mr_iload_n (pc' := 18) dX10_wander_17 rfl rfl ?_
      obtain ⟨q2, g3, h4⟩ := Option.bind_eq_some_iff.mp h
      refine mr_cv (pc' := 21) (a := 31) (d1 := 0) dX10_wander_18 rfl rfl rfl rfl rfl rfl (by decide) rfl (by decide) (ok_X0_isStanding hR rfl g3) ?_
      show mr X _ _ 21 _ [.int q2] (MM RR S0) _
      by_cases c5 : q2 = (0 : Int32)
      · rw [if_pos c5] at h4
        refine mr_if_ne_f (t := 27) (pc' := 24) dX10_wander_21 (by decide) rfl (not_not_intro c5) ?_
        refine mr_goto (t := 118) dX10_wander_24 (by decide) ?_
        refine mr_iinc (pc' := 121) (x' := (p1 + (1 : Int32))) (lv' := [(1, .int (p1 + (1 : Int32))), (0, .ref 0)]) dX10_wander_118 rfl (by decide) rfl rfl rfl ?_
        refine mr_goto (t := 2) dX10_wander_121 (by decide) ?_
        exact mr_sub [(0, .ref 0), (1, .int (p1 + (1 : Int32)))] ⟨rfl, rfl, trivial⟩ rfl (ih _ _  h4)
      · rw [if_neg c5] at h4
        refine mr_if_ne_t (t := 27) dX10_wander_21 (by decide) c5 ?_
        refine mr_aload_n (pc' := 28) dX10_wander_27 rfl rfl ?_
        refine mr_getR (pc' := 31) (ci := 10) (j := 5) (b := 31) hR dX10_wander_28 rfl rfl rfl (by decide) (by decide) (by decide) rfl rfl ?_
        refine mr_getR (pc' := 34) (ci := 0) (j := 0) (b := 32) hR dX10_wander_31 rfl rfl rfl (by decide) (by decide) (by decide) rfl rfl ?_
        refine mr_iload_n (pc' := 35) dX10_wander_34 rfl rfl ?_
        obtain ⟨a6, g7, h8⟩ := Option.bind_eq_some_iff.mp h4
        refine mr_iald (pc' := 36) dX10_wander_35 rfl rfl rfl g7 ?_
        refine mr_istore_n (pc' := 37) (lv' := [(2, .int a6), (0, .ref 0), (1, .int p1)]) dX10_wander_36 rfl (by decide) rfl ?_
        refine mr_aload_n (pc' := 38) dX10_wander_37 rfl rfl ?_
        refine mr_getR (pc' := 41) (ci := 10) (j := 1) (b := 3) hR dX10_wander_38 rfl rfl rfl (by decide) (by decide) (by decide) rfl rfl ?_
        obtain ⟨q9, g10, h11⟩ := Option.bind_eq_some_iff.mp h8
        refine mr_cv (pc' := 44) (a := 3) (d1 := 0) dX10_wander_41 rfl rfl rfl rfl rfl rfl (by decide) rfl (by decide) (ok_X6_draw hR rfl g10) ?_
        show mr X _ _ 44 _ [.int q9.1] (MM RR q9.2) _
        refine mr_iconst (pc' := 45) (v := (4 : Int32)) dX10_wander_44 rfl (by decide) ?_
        obtain ⟨a12, g13, h14⟩ := Option.bind_eq_some_iff.mp h11
        refine mr_irem (pc' := 46) dX10_wander_45 rfl g13 ?_
        by_cases c15 : a12 = (0 : Int32)
        · rw [if_pos c15] at h14
          refine mr_if_ne_f (t := 53) (pc' := 49) dX10_wander_46 (by decide) rfl (not_not_intro c15) ?_
          refine mr_iconst (pc' := 50) (v := (1 : Int32)) dX10_wander_49 rfl (by decide) ?_
          refine mr_goto (t := 54) dX10_wander_50 (by decide) ?_
          refine mr_istore_n (pc' := 55) (lv' := [(3, .int (1 : Int32)), (2, .int a6), (0, .ref 0), (1, .int p1)]) dX10_wander_54 rfl (by decide) rfl ?_
          refine mr_aload_n (pc' := 56) dX10_wander_55 rfl rfl ?_
          refine mr_getR (pc' := 59) (ci := 10) (j := 1) (b := 3) hR dX10_wander_56 rfl rfl rfl (by decide) (by decide) (by decide) rfl rfl ?_
          refine mr_getR (pc' := 62) (ci := 6) (j := 0) (b := 4) hR dX10_wander_59 rfl rfl rfl (by decide) (by decide) (by decide) rfl rfl ?_
          refine mr_iload_n (pc' := 63) dX10_wander_62 rfl rfl ?_
          obtain ⟨q33, g34, h35⟩ := Option.bind_eq_some_iff.mp h14
          refine mr_cv (pc' := 66) (a := 4) (d1 := 1) dX10_wander_63 rfl rfl rfl rfl rfl rfl (by decide) rfl (by decide) (ok_X8_stairsAt hR rfl g34) ?_
          show mr X _ _ 66 _ [.int q33] (MM RR q9.2) _
          refine mr_istore (pc' := 68) (lv' := [(4, .int q33), (3, .int (1 : Int32)), (2, .int a6), (0, .ref 0), (1, .int p1)]) dX10_wander_66 rfl (by decide) rfl ?_
          refine mr_iload_n (pc' := 69) dX10_wander_68 rfl rfl ?_
          by_cases c36 : (1 : Int32) = (0 : Int32)
          · rw [if_pos c36] at h35
            refine mr_if_eq_t (t := 118) dX10_wander_69 (by decide) c36 ?_
            refine mr_iinc (pc' := 121) (x' := (p1 + (1 : Int32))) (lv' := [(1, .int (p1 + (1 : Int32))), (4, .int q33), (3, .int (1 : Int32)), (2, .int a6), (0, .ref 0)]) dX10_wander_118 rfl (by decide) rfl rfl rfl ?_
            refine mr_goto (t := 2) dX10_wander_121 (by decide) ?_
            exact mr_sub [(0, .ref 0), (1, .int (p1 + (1 : Int32)))] ⟨rfl, rfl, trivial⟩ rfl (ih _ _  h35)
          · rw [if_neg c36] at h35
            refine mr_if_eq_f (t := 118) (pc' := 72) dX10_wander_69 (by decide) rfl c36 ?_
            refine mr_iload (pc' := 74) dX10_wander_72 rfl rfl ?_
            by_cases c37 : q33 ≤ (0 : Int32)
            · rw [if_pos c37] at h35
              refine mr_if_le_t (t := 118) dX10_wander_74 (by decide) c37 ?_
              refine mr_iinc (pc' := 121) (x' := (p1 + (1 : Int32))) (lv' := [(1, .int (p1 + (1 : Int32))), (4, .int q33), (3, .int (1 : Int32)), (2, .int a6), (0, .ref 0)]) dX10_wander_118 rfl (by decide) rfl rfl rfl ?_
              refine mr_goto (t := 2) dX10_wander_121 (by decide) ?_
              exact mr_sub [(0, .ref 0), (1, .int (p1 + (1 : Int32)))] ⟨rfl, rfl, trivial⟩ rfl (ih _ _  h35)
            · rw [if_neg c37] at h35
              refine mr_if_le_f (t := 118) (pc' := 77) dX10_wander_74 (by decide) rfl c37 ?_
              refine mr_aload_n (pc' := 78) dX10_wander_77 rfl rfl ?_
              refine mr_getR (pc' := 81) (ci := 10) (j := 1) (b := 3) hR dX10_wander_78 rfl rfl rfl (by decide) (by decide) (by decide) rfl rfl ?_
              refine mr_getR (pc' := 84) (ci := 6) (j := 0) (b := 4) hR dX10_wander_81 rfl rfl rfl (by decide) (by decide) (by decide) rfl rfl ?_
              refine mr_iload_n (pc' := 85) dX10_wander_84 rfl rfl ?_
              refine mr_aload_n (pc' := 86) dX10_wander_85 rfl rfl ?_
              refine mr_getR (pc' := 89) (ci := 10) (j := 1) (b := 3) hR dX10_wander_86 rfl rfl rfl (by decide) (by decide) (by decide) rfl rfl ?_
              obtain ⟨q38, g39, h40⟩ := Option.bind_eq_some_iff.mp h35
              refine mr_cv (pc' := 92) (a := 3) (d1 := 0) dX10_wander_89 rfl rfl rfl rfl rfl rfl (by decide) rfl (by decide) (ok_X6_draw hR rfl g39) ?_
              show mr X _ _ 92 _ [.int q38.1, .int a6, .ref 4] (MM RR q38.2) _
              refine mr_iload (pc' := 94) dX10_wander_92 rfl rfl ?_
              obtain ⟨a41, g42, h43⟩ := Option.bind_eq_some_iff.mp h40
              refine mr_irem (pc' := 95) dX10_wander_94 rfl g42 ?_
              obtain ⟨q44, g45, h46⟩ := Option.bind_eq_some_iff.mp h43
              refine mr_cv (pc' := 98) (a := 4) (d1 := 1) dX10_wander_95 rfl rfl rfl rfl rfl rfl (by decide) rfl (by decide) (ok_X8_stairInPlace hR rfl g45) ?_
              show mr X _ _ 98 _ [.int q44] (MM RR q38.2) _
              refine mr_istore (pc' := 100) (lv' := [(5, .int q44), (4, .int q33), (3, .int (1 : Int32)), (2, .int a6), (0, .ref 0), (1, .int p1)]) dX10_wander_98 rfl (by decide) rfl ?_
              refine mr_aload_n (pc' := 101) dX10_wander_100 rfl rfl ?_
              refine mr_getR (pc' := 104) (ci := 10) (j := 5) (b := 31) hR dX10_wander_101 rfl rfl rfl (by decide) (by decide) (by decide) rfl rfl ?_
              refine mr_aload_n (pc' := 105) dX10_wander_104 rfl rfl ?_
              refine mr_getR (pc' := 108) (ci := 10) (j := 1) (b := 3) hR dX10_wander_105 rfl rfl rfl (by decide) (by decide) (by decide) rfl rfl ?_
              refine mr_getR (pc' := 111) (ci := 6) (j := 0) (b := 4) hR dX10_wander_108 rfl rfl rfl (by decide) (by decide) (by decide) rfl rfl ?_
              refine mr_iload_n (pc' := 112) dX10_wander_111 rfl rfl ?_
              refine mr_iload (pc' := 114) dX10_wander_112 rfl rfl ?_
              obtain ⟨q47, g48, h49⟩ := Option.bind_eq_some_iff.mp h46
              refine mr_cv (pc' := 117) (a := 31) (d1 := 1) dX10_wander_114 rfl rfl rfl rfl rfl rfl (by decide) rfl (by decide) (ok_X0_setOff hR rfl rfl g48) ?_
              show mr X _ _ 117 _ [.int q47.1] (MM RR q47.2) _
              refine mr_pop_int (pc' := 118) dX10_wander_117 rfl ?_
              refine mr_iinc (pc' := 121) (x' := (p1 + (1 : Int32))) (lv' := [(1, .int (p1 + (1 : Int32))), (5, .int q44), (4, .int q33), (3, .int (1 : Int32)), (2, .int a6), (0, .ref 0)]) dX10_wander_118 rfl (by decide) rfl rfl rfl ?_
              refine mr_goto (t := 2) dX10_wander_121 (by decide) ?_
              exact mr_sub [(0, .ref 0), (1, .int (p1 + (1 : Int32)))] ⟨rfl, rfl, trivial⟩ rfl (ih _ _  h49)
        · rw [if_neg c15] at h14
          refine mr_if_ne_t (t := 53) dX10_wander_46 (by decide) c15 ?_
          refine mr_iconst (pc' := 54) (v := (0 : Int32)) dX10_wander_53 rfl (by decide) ?_
          refine mr_istore_n (pc' := 55) (lv' := [(3, .int (0 : Int32)), (2, .int a6), (0, .ref 0), (1, .int p1)]) dX10_wander_54 rfl (by decide) rfl ?_
          refine mr_aload_n (pc' := 56) dX10_wander_55 rfl rfl ?_
          refine mr_getR (pc' := 59) (ci := 10) (j := 1) (b := 3) hR dX10_wander_56 rfl rfl rfl (by decide) (by decide) (by decide) rfl rfl ?_
          refine mr_getR (pc' := 62) (ci := 6) (j := 0) (b := 4) hR dX10_wander_59 rfl rfl rfl (by decide) (by decide) (by decide) rfl rfl ?_
          refine mr_iload_n (pc' := 63) dX10_wander_62 rfl rfl ?_
          obtain ⟨q16, g17, h18⟩ := Option.bind_eq_some_iff.mp h14
          refine mr_cv (pc' := 66) (a := 4) (d1 := 1) dX10_wander_63 rfl rfl rfl rfl rfl rfl (by decide) rfl (by decide) (ok_X8_stairsAt hR rfl g17) ?_
          show mr X _ _ 66 _ [.int q16] (MM RR q9.2) _
          refine mr_istore (pc' := 68) (lv' := [(4, .int q16), (3, .int (0 : Int32)), (2, .int a6), (0, .ref 0), (1, .int p1)]) dX10_wander_66 rfl (by decide) rfl ?_
          refine mr_iload_n (pc' := 69) dX10_wander_68 rfl rfl ?_
          by_cases c19 : (0 : Int32) = (0 : Int32)
          · rw [if_pos c19] at h18
            refine mr_if_eq_t (t := 118) dX10_wander_69 (by decide) c19 ?_
            refine mr_iinc (pc' := 121) (x' := (p1 + (1 : Int32))) (lv' := [(1, .int (p1 + (1 : Int32))), (4, .int q16), (3, .int (0 : Int32)), (2, .int a6), (0, .ref 0)]) dX10_wander_118 rfl (by decide) rfl rfl rfl ?_
            refine mr_goto (t := 2) dX10_wander_121 (by decide) ?_
            exact mr_sub [(0, .ref 0), (1, .int (p1 + (1 : Int32)))] ⟨rfl, rfl, trivial⟩ rfl (ih _ _  h18)
          · rw [if_neg c19] at h18
            refine mr_if_eq_f (t := 118) (pc' := 72) dX10_wander_69 (by decide) rfl c19 ?_
            refine mr_iload (pc' := 74) dX10_wander_72 rfl rfl ?_
            by_cases c20 : q16 ≤ (0 : Int32)
            · rw [if_pos c20] at h18
              refine mr_if_le_t (t := 118) dX10_wander_74 (by decide) c20 ?_
              refine mr_iinc (pc' := 121) (x' := (p1 + (1 : Int32))) (lv' := [(1, .int (p1 + (1 : Int32))), (4, .int q16), (3, .int (0 : Int32)), (2, .int a6), (0, .ref 0)]) dX10_wander_118 rfl (by decide) rfl rfl rfl ?_
              refine mr_goto (t := 2) dX10_wander_121 (by decide) ?_
              exact mr_sub [(0, .ref 0), (1, .int (p1 + (1 : Int32)))] ⟨rfl, rfl, trivial⟩ rfl (ih _ _  h18)
            · rw [if_neg c20] at h18
              refine mr_if_le_f (t := 118) (pc' := 77) dX10_wander_74 (by decide) rfl c20 ?_
              refine mr_aload_n (pc' := 78) dX10_wander_77 rfl rfl ?_
              refine mr_getR (pc' := 81) (ci := 10) (j := 1) (b := 3) hR dX10_wander_78 rfl rfl rfl (by decide) (by decide) (by decide) rfl rfl ?_
              refine mr_getR (pc' := 84) (ci := 6) (j := 0) (b := 4) hR dX10_wander_81 rfl rfl rfl (by decide) (by decide) (by decide) rfl rfl ?_
              refine mr_iload_n (pc' := 85) dX10_wander_84 rfl rfl ?_
              refine mr_aload_n (pc' := 86) dX10_wander_85 rfl rfl ?_
              refine mr_getR (pc' := 89) (ci := 10) (j := 1) (b := 3) hR dX10_wander_86 rfl rfl rfl (by decide) (by decide) (by decide) rfl rfl ?_
              obtain ⟨q21, g22, h23⟩ := Option.bind_eq_some_iff.mp h18
              refine mr_cv (pc' := 92) (a := 3) (d1 := 0) dX10_wander_89 rfl rfl rfl rfl rfl rfl (by decide) rfl (by decide) (ok_X6_draw hR rfl g22) ?_
              show mr X _ _ 92 _ [.int q21.1, .int a6, .ref 4] (MM RR q21.2) _
              refine mr_iload (pc' := 94) dX10_wander_92 rfl rfl ?_
              obtain ⟨a24, g25, h26⟩ := Option.bind_eq_some_iff.mp h23
              refine mr_irem (pc' := 95) dX10_wander_94 rfl g25 ?_
              obtain ⟨q27, g28, h29⟩ := Option.bind_eq_some_iff.mp h26
              refine mr_cv (pc' := 98) (a := 4) (d1 := 1) dX10_wander_95 rfl rfl rfl rfl rfl rfl (by decide) rfl (by decide) (ok_X8_stairInPlace hR rfl g28) ?_
              show mr X _ _ 98 _ [.int q27] (MM RR q21.2) _
              refine mr_istore (pc' := 100) (lv' := [(5, .int q27), (4, .int q16), (3, .int (0 : Int32)), (2, .int a6), (0, .ref 0), (1, .int p1)]) dX10_wander_98 rfl (by decide) rfl ?_
              refine mr_aload_n (pc' := 101) dX10_wander_100 rfl rfl ?_
              refine mr_getR (pc' := 104) (ci := 10) (j := 5) (b := 31) hR dX10_wander_101 rfl rfl rfl (by decide) (by decide) (by decide) rfl rfl ?_
              refine mr_aload_n (pc' := 105) dX10_wander_104 rfl rfl ?_
              refine mr_getR (pc' := 108) (ci := 10) (j := 1) (b := 3) hR dX10_wander_105 rfl rfl rfl (by decide) (by decide) (by decide) rfl rfl ?_
              refine mr_getR (pc' := 111) (ci := 6) (j := 0) (b := 4) hR dX10_wander_108 rfl rfl rfl (by decide) (by decide) (by decide) rfl rfl ?_
              refine mr_iload_n (pc' := 112) dX10_wander_111 rfl rfl ?_
              refine mr_iload (pc' := 114) dX10_wander_112 rfl rfl ?_
              obtain ⟨q30, g31, h32⟩ := Option.bind_eq_some_iff.mp h29
              refine mr_cv (pc' := 117) (a := 31) (d1 := 1) dX10_wander_114 rfl rfl rfl rfl rfl rfl (by decide) rfl (by decide) (ok_X0_setOff hR rfl rfl g31) ?_
              show mr X _ _ 117 _ [.int q30.1] (MM RR q30.2) _
              refine mr_pop_int (pc' := 118) dX10_wander_117 rfl ?_
              refine mr_iinc (pc' := 121) (x' := (p1 + (1 : Int32))) (lv' := [(1, .int (p1 + (1 : Int32))), (5, .int q27), (4, .int q16), (3, .int (0 : Int32)), (2, .int a6), (0, .ref 0)]) dX10_wander_118 rfl (by decide) rfl rfl rfl ?_
              refine mr_goto (t := 2) dX10_wander_121 (by decide) ?_
              exact mr_sub [(0, .ref 0), (1, .int (p1 + (1 : Int32)))] ⟨rfl, rfl, trivial⟩ rfl (ih _ _  h32)
def f_X10_wander  (S : fS) : Option (fS) :=
  lp_X10_wander_2  (fun S50 => some S50) FU (0 : Int32) S
set_option maxHeartbeats 4000000 in
set_option maxRecDepth 100000 in
theorem ok_X10_wander {X : mm_C} {RR : Nat → Nat → Option Nat} (hR : RRok RR)   {S : fS} {r : fS} (h : f_X10_wander  S = some r) : mr X 2 mY_X10_wander 0 (lv_args 0 [.ref 0]) [] (MM RR S) (none, MM RR r) := by
  unfold f_X10_wander at h
  show mr X _ _ 0 [(0, .ref 0)] [] (MM RR S) _
  refine mr_iconst (pc' := 1) (v := (0 : Int32)) dX10_wander_0 rfl (by decide) ?_
  refine mr_istore_n (pc' := 2) (lv' := [(1, .int (0 : Int32)), (0, .ref 0)]) dX10_wander_1 rfl (by decide) rfl ?_
  refine mr_sub [(0, .ref 0), (1, .int (0 : Int32))] ⟨rfl, rfl, trivial⟩ rfl ?_
  refine ok_lp_X10_wander_2 hR  (fun S50 h51 => ?_) FU _ _  h
  obtain rfl := Option.some.inj h51
  exact mr_return dX10_wander_124 rfl
def f_X0_isTogether (v0 : Nat) (v1 : Int32) (v2 : Int32) (S : fS) : Option (Int32) :=
  (f_X0_isStanding v0 v1 S).bind fun q1 =>
  if q1 = (0 : Int32) then (some (0 : Int32)) else
  ((gI S (v0 + 1) 8 v1).bind fun a5 =>
  (gI S (v0 + 1) 8 v2).bind fun a8 =>
  if a5 = a8 then (some (1 : Int32)) else
  (some (0 : Int32)))
set_option maxHeartbeats 4000000 in
set_option maxRecDepth 100000 in
theorem ok_X0_isTogether {X : mm_C} {RR : Nat → Nat → Option Nat} (hR : RRok RR) {v0 : Nat} {v1 : Int32} {v2 : Int32} (t0 : tg v0 = 0) {S : fS} {r : Int32} (h : f_X0_isTogether v0 v1 v2 S = some r) : mr X 1 mY_X0_isTogether 0 (lv_args 0 [.ref v0, .int v1, .int v2]) [] (MM RR S) (some (.int r), MM RR S) := by
  unfold f_X0_isTogether at h
  show mr X _ _ 0 [(0, .ref v0), (1, .int v1), (2, .int v2)] [] (MM RR S) _
  refine mr_aload_n (pc' := 1) dX0_isTogether_0 rfl rfl ?_
  refine mr_iload_n (pc' := 2) dX0_isTogether_1 rfl rfl ?_
  obtain ⟨q1, g2, h3⟩ := Option.bind_eq_some_iff.mp h
  refine mr_cv (pc' := 5) (a := v0) (d1 := 0) dX0_isTogether_2 rfl rfl rfl rfl rfl t0 (by decide) rfl (by decide) (ok_X0_isStanding hR t0 g2) ?_
  show mr X _ _ 5 _ [.int q1] (MM RR S) _
  by_cases c4 : q1 = (0 : Int32)
  · rw [if_pos c4] at h3
    refine mr_if_eq_t (t := 27) dX0_isTogether_5 (by decide) c4 ?_
    refine mr_iconst (pc' := 28) (v := (0 : Int32)) dX0_isTogether_27 rfl (by decide) ?_
    obtain rfl := Option.some.inj h3
    exact mr_zreturn dX0_isTogether_28 rfl (by decide)
  · rw [if_neg c4] at h3
    refine mr_if_eq_f (t := 27) (pc' := 8) dX0_isTogether_5 (by decide) rfl c4 ?_
    refine mr_aload_n (pc' := 9) dX0_isTogether_8 rfl rfl ?_
    refine mr_getR (pc' := 12) (ci := 0) (j := 0) (b := (v0 + 1)) hR dX0_isTogether_9 rfl rfl t0 (by decide) (by decide) (by decide) rfl (ly0_0 t0).1 ?_
    refine mr_iload_n (pc' := 13) dX0_isTogether_12 rfl rfl ?_
    obtain ⟨a5, g6, h7⟩ := Option.bind_eq_some_iff.mp h3
    refine mr_iald (pc' := 14) dX0_isTogether_13 rfl (ly0_0 t0).2.1 (ly0_0 t0).2.2 g6 ?_
    refine mr_aload_n (pc' := 15) dX0_isTogether_14 rfl rfl ?_
    refine mr_getR (pc' := 18) (ci := 0) (j := 0) (b := (v0 + 1)) hR dX0_isTogether_15 rfl rfl t0 (by decide) (by decide) (by decide) rfl (ly0_0 t0).1 ?_
    refine mr_iload_n (pc' := 19) dX0_isTogether_18 rfl rfl ?_
    obtain ⟨a8, g9, h10⟩ := Option.bind_eq_some_iff.mp h7
    refine mr_iald (pc' := 20) dX0_isTogether_19 rfl (ly0_0 t0).2.1 (ly0_0 t0).2.2 g9 ?_
    by_cases c11 : a5 = a8
    · rw [if_pos c11] at h10
      refine mr_icmp_ne_f (t := 27) (pc' := 23) dX0_isTogether_20 (by decide) rfl (not_not_intro c11) ?_
      refine mr_iconst (pc' := 24) (v := (1 : Int32)) dX0_isTogether_23 rfl (by decide) ?_
      refine mr_goto (t := 28) dX0_isTogether_24 (by decide) ?_
      obtain rfl := Option.some.inj h10
      exact mr_zreturn dX0_isTogether_28 rfl (by decide)
    · rw [if_neg c11] at h10
      refine mr_icmp_ne_t (t := 27) dX0_isTogether_20 (by decide) c11 ?_
      refine mr_iconst (pc' := 28) (v := (0 : Int32)) dX0_isTogether_27 rfl (by decide) ?_
      obtain rfl := Option.some.inj h10
      exact mr_zreturn dX0_isTogether_28 rfl (by decide)
def lp_X10_hoursMet_20 (p1 : Int32) (p2 : Int32) (p3 : Int32) (K : Int32 → fS → Option (Int32 × fS)) : Nat → Int32 → Int32 → fS → Option (Int32 × fS)
  | 0, _, _, _ => none
  | n + 1, p4, p5, S0 =>
    if p3 ≤ p5 then (K p4 S0) else
    ((f_X10_wander  S0).bind fun q5 =>
    (f_X0_passHour 31 4 q5).bind fun q8 =>
    (f_X0_isTogether 31 p1 p2 q8).bind fun q11 =>
    if q11 = (0 : Int32) then (lp_X10_hoursMet_20 p1 p2 p3 K n p4 (p5 + (1 : Int32)) q8) else
    (lp_X10_hoursMet_20 p1 p2 p3 K n (p4 + (1 : Int32)) (p5 + (1 : Int32)) q8))
set_option maxHeartbeats 4000000 in
set_option maxRecDepth 100000 in
theorem ok_lp_X10_hoursMet_20 {X : mm_C} {RR : Nat → Nat → Option Nat} (hR : RRok RR) {p1 : Int32} {p2 : Int32} {p3 : Int32}  {K : Int32 → fS → Option (Int32 × fS)} {r : Int32 × fS} (hK : ∀ (k4 : Int32) (Sk : fS), K k4 Sk = some r → mr X 3 mY_X10_hoursMet 65 [(4, .int k4)] [] (MM RR Sk) (some (.int r.1), MM RR r.2)) : ∀ (n : Nat) (p4 : Int32) (p5 : Int32) (S0 : fS), lp_X10_hoursMet_20 p1 p2 p3 K n p4 p5 S0 = some r → mr X 3 mY_X10_hoursMet 20 [(0, .ref 0), (1, .int p1), (2, .int p2), (3, .int p3), (4, .int p4), (5, .int p5)] [] (MM RR S0) (some (.int r.1), MM RR r.2) := by
  intro n
  induction n with
  | zero => intro p4 p5 S0 h; exact mm_no h
  | succ n ih =>
    intro p4 p5 S0 h
    unfold lp_X10_hoursMet_20 at h
    refine mr_iload (pc' := 22) dX10_hoursMet_20 rfl rfl ?_
    refine mr_iload_n (pc' := 23) dX10_hoursMet_22 rfl rfl ?_
    by_cases c4 : p3 ≤ p5
    · rw [if_pos c4] at h
      refine mr_icmp_ge_t (t := 65) dX10_hoursMet_23 (by decide) c4 ?_
      exact mr_sub [(4, .int p4)] ⟨rfl, trivial⟩ rfl (hK _ _  h)
    · rw [if_neg c4] at h
      refine mr_icmp_ge_f (t := 65) (pc' := 26) dX10_hoursMet_23 (by decide) rfl c4 ?_
      refine mr_aload_n (pc' := 27) dX10_hoursMet_26 rfl rfl ?_
      obtain ⟨q5, g6, h7⟩ := Option.bind_eq_some_iff.mp h
      refine mr_cv (pc' := 30) (a := 0) (d1 := 2) dX10_hoursMet_27 rfl rfl rfl rfl rfl rfl (by decide) rfl (by decide) (ok_X10_wander hR  g6) ?_
      show mr X _ _ 30 _ [] (MM RR q5) _
      refine mr_aload_n (pc' := 31) dX10_hoursMet_30 rfl rfl ?_
      refine mr_getR (pc' := 34) (ci := 10) (j := 5) (b := 31) hR dX10_hoursMet_31 rfl rfl rfl (by decide) (by decide) (by decide) rfl rfl ?_
      refine mr_aload_n (pc' := 35) dX10_hoursMet_34 rfl rfl ?_
      refine mr_getR (pc' := 38) (ci := 10) (j := 1) (b := 3) hR dX10_hoursMet_35 rfl rfl rfl (by decide) (by decide) (by decide) rfl rfl ?_
      refine mr_getR (pc' := 41) (ci := 6) (j := 0) (b := 4) hR dX10_hoursMet_38 rfl rfl rfl (by decide) (by decide) (by decide) rfl rfl ?_
      obtain ⟨q8, g9, h10⟩ := Option.bind_eq_some_iff.mp h7
      refine mr_cv (pc' := 44) (a := 31) (d1 := 1) dX10_hoursMet_41 rfl rfl rfl rfl rfl rfl (by decide) rfl (by decide) (ok_X0_passHour hR rfl rfl g9) ?_
      show mr X _ _ 44 _ [] (MM RR q8) _
      refine mr_aload_n (pc' := 45) dX10_hoursMet_44 rfl rfl ?_
      refine mr_getR (pc' := 48) (ci := 10) (j := 5) (b := 31) hR dX10_hoursMet_45 rfl rfl rfl (by decide) (by decide) (by decide) rfl rfl ?_
      refine mr_iload_n (pc' := 49) dX10_hoursMet_48 rfl rfl ?_
      refine mr_iload_n (pc' := 50) dX10_hoursMet_49 rfl rfl ?_
      obtain ⟨q11, g12, h13⟩ := Option.bind_eq_some_iff.mp h10
      refine mr_cv (pc' := 53) (a := 31) (d1 := 1) dX10_hoursMet_50 rfl rfl rfl rfl rfl rfl (by decide) rfl (by decide) (ok_X0_isTogether hR rfl g12) ?_
      show mr X _ _ 53 _ [.int q11] (MM RR q8) _
      by_cases c14 : q11 = (0 : Int32)
      · rw [if_pos c14] at h13
        refine mr_if_eq_t (t := 59) dX10_hoursMet_53 (by decide) c14 ?_
        refine mr_iinc (pc' := 62) (x' := (p5 + (1 : Int32))) (lv' := [(5, .int (p5 + (1 : Int32))), (0, .ref 0), (1, .int p1), (2, .int p2), (3, .int p3), (4, .int p4)]) dX10_hoursMet_59 rfl (by decide) rfl rfl rfl ?_
        refine mr_goto (t := 20) dX10_hoursMet_62 (by decide) ?_
        exact mr_sub [(0, .ref 0), (1, .int p1), (2, .int p2), (3, .int p3), (4, .int p4), (5, .int (p5 + (1 : Int32)))] ⟨rfl, rfl, rfl, rfl, rfl, rfl, trivial⟩ rfl (ih _ _ _  h13)
      · rw [if_neg c14] at h13
        refine mr_if_eq_f (t := 59) (pc' := 56) dX10_hoursMet_53 (by decide) rfl c14 ?_
        refine mr_iinc (pc' := 59) (x' := (p4 + (1 : Int32))) (lv' := [(4, .int (p4 + (1 : Int32))), (0, .ref 0), (1, .int p1), (2, .int p2), (3, .int p3), (5, .int p5)]) dX10_hoursMet_56 rfl (by decide) rfl rfl rfl ?_
        refine mr_iinc (pc' := 62) (x' := (p5 + (1 : Int32))) (lv' := [(5, .int (p5 + (1 : Int32))), (4, .int (p4 + (1 : Int32))), (0, .ref 0), (1, .int p1), (2, .int p2), (3, .int p3)]) dX10_hoursMet_59 rfl (by decide) rfl rfl rfl ?_
        refine mr_goto (t := 20) dX10_hoursMet_62 (by decide) ?_
        exact mr_sub [(0, .ref 0), (1, .int p1), (2, .int p2), (3, .int p3), (4, .int (p4 + (1 : Int32))), (5, .int (p5 + (1 : Int32)))] ⟨rfl, rfl, rfl, rfl, rfl, rfl, trivial⟩ rfl (ih _ _ _  h13)
def f_X10_hoursMet (v1 : Int32) (v2 : Int32) (v3 : Int32) (S : fS) : Option (Int32 × fS) :=
  (f_X0_copyFrom 31 11 S).bind fun q1 =>
  lp_X10_hoursMet_20 v1 v2 v3 (fun u15 S16 => some (u15, S16)) FU (0 : Int32) (0 : Int32) q1
set_option maxHeartbeats 4000000 in
set_option maxRecDepth 100000 in
theorem ok_X10_hoursMet {X : mm_C} {RR : Nat → Nat → Option Nat} (hR : RRok RR) {v1 : Int32} {v2 : Int32} {v3 : Int32}  {S : fS} {r : Int32 × fS} (h : f_X10_hoursMet v1 v2 v3 S = some r) : mr X 3 mY_X10_hoursMet 0 (lv_args 0 [.ref 0, .int v1, .int v2, .int v3]) [] (MM RR S) (some (.int r.1), MM RR r.2) := by
  unfold f_X10_hoursMet at h
  show mr X _ _ 0 [(0, .ref 0), (1, .int v1), (2, .int v2), (3, .int v3)] [] (MM RR S) _
  refine mr_iconst (pc' := 1) (v := (0 : Int32)) dX10_hoursMet_0 rfl (by decide) ?_
  refine mr_istore (pc' := 3) (lv' := [(4, .int (0 : Int32)), (0, .ref 0), (1, .int v1), (2, .int v2), (3, .int v3)]) dX10_hoursMet_1 rfl (by decide) rfl ?_
  refine mr_aload_n (pc' := 4) dX10_hoursMet_3 rfl rfl ?_
  refine mr_getR (pc' := 7) (ci := 10) (j := 5) (b := 31) hR dX10_hoursMet_4 rfl rfl rfl (by decide) (by decide) (by decide) rfl rfl ?_
  refine mr_aload_n (pc' := 8) dX10_hoursMet_7 rfl rfl ?_
  refine mr_getR (pc' := 11) (ci := 10) (j := 1) (b := 3) hR dX10_hoursMet_8 rfl rfl rfl (by decide) (by decide) (by decide) rfl rfl ?_
  refine mr_getR (pc' := 14) (ci := 6) (j := 1) (b := 11) hR dX10_hoursMet_11 rfl rfl rfl (by decide) (by decide) (by decide) rfl rfl ?_
  obtain ⟨q1, g2, h3⟩ := Option.bind_eq_some_iff.mp h
  refine mr_cv (pc' := 17) (a := 31) (d1 := 0) dX10_hoursMet_14 rfl rfl rfl rfl rfl rfl (by decide) rfl (by decide) (ok_X0_copyFrom hR rfl rfl g2) ?_
  show mr X _ _ 17 _ [] (MM RR q1) _
  refine mr_iconst (pc' := 18) (v := (0 : Int32)) dX10_hoursMet_17 rfl (by decide) ?_
  refine mr_istore (pc' := 20) (lv' := [(5, .int (0 : Int32)), (4, .int (0 : Int32)), (0, .ref 0), (1, .int v1), (2, .int v2), (3, .int v3)]) dX10_hoursMet_18 rfl (by decide) rfl ?_
  refine mr_sub [(0, .ref 0), (1, .int v1), (2, .int v2), (3, .int v3), (4, .int (0 : Int32)), (5, .int (0 : Int32))] ⟨rfl, rfl, rfl, rfl, rfl, rfl, trivial⟩ rfl ?_
  refine ok_lp_X10_hoursMet_20 hR  (fun u15 S16 h17 => ?_) FU _ _ _  h3
  refine mr_iload (pc' := 67) dX10_hoursMet_65 rfl rfl ?_
  obtain rfl := Option.some.inj h17
  exact mr_ireturn dX10_hoursMet_67 rfl
def lp_X10_meetings_66 (p1 : Int32) (p2 : Int32) (p3 : Int32) (p4 : Int32) (p5 : Int32) (K : Int32 → Int32 → fS → Option (Int32 × fS)) : Nat → Int32 → Int32 → Int32 → fS → Option (Int32 × fS)
  | 0, _, _, _, _ => none
  | n + 1, p6, p7, p8, S0 =>
    if p3 ≤ p8 then (K p6 p7 S0) else
    ((f_X10_hoursMet p1 p2 p4 S0).bind fun q23 =>
    if q23.1 ≤ (0 : Int32) then (lp_X10_meetings_66 p1 p2 p3 p4 p5 K n (p6 + q23.1) (p7 + (0 : Int32)) (p8 + (1 : Int32)) q23.2) else
    (lp_X10_meetings_66 p1 p2 p3 p4 p5 K n (p6 + q23.1) (p7 + (1 : Int32)) (p8 + (1 : Int32)) q23.2))
set_option maxHeartbeats 4000000 in
set_option maxRecDepth 100000 in
theorem ok_lp_X10_meetings_66 {X : mm_C} {RR : Nat → Nat → Option Nat} (hR : RRok RR) {p1 : Int32} {p2 : Int32} {p3 : Int32} {p4 : Int32} {p5 : Int32}  {K : Int32 → Int32 → fS → Option (Int32 × fS)} {r : Int32 × fS} (hK : ∀ (k6 : Int32) (k7 : Int32) (Sk : fS), K k6 k7 Sk = some r → mr X 4 mY_X10_meetings 110 [(5, .int p5), (6, .int k6), (7, .int k7)] [] (MM RR Sk) (some (.int r.1), MM RR r.2)) : ∀ (n : Nat) (p6 : Int32) (p7 : Int32) (p8 : Int32) (S0 : fS), lp_X10_meetings_66 p1 p2 p3 p4 p5 K n p6 p7 p8 S0 = some r → mr X 4 mY_X10_meetings 66 [(0, .ref 0), (1, .int p1), (2, .int p2), (3, .int p3), (4, .int p4), (5, .int p5), (6, .int p6), (7, .int p7), (8, .int p8)] [] (MM RR S0) (some (.int r.1), MM RR r.2) := by
  intro n
  induction n with
  | zero => intro p6 p7 p8 S0 h; exact mm_no h
  | succ n ih =>
    intro p6 p7 p8 S0 h
    unfold lp_X10_meetings_66 at h
    refine mr_iload (pc' := 68) dX10_meetings_66 rfl rfl ?_
    refine mr_iload_n (pc' := 69) dX10_meetings_68 rfl rfl ?_
    by_cases c22 : p3 ≤ p8
    · rw [if_pos c22] at h
      refine mr_icmp_ge_t (t := 110) dX10_meetings_69 (by decide) c22 ?_
      exact mr_sub [(5, .int p5), (6, .int p6), (7, .int p7)] ⟨rfl, rfl, rfl, trivial⟩ rfl (hK _ _ _  h)
    · rw [if_neg c22] at h
      refine mr_icmp_ge_f (t := 110) (pc' := 72) dX10_meetings_69 (by decide) rfl c22 ?_
      refine mr_aload_n (pc' := 73) dX10_meetings_72 rfl rfl ?_
      refine mr_iload_n (pc' := 74) dX10_meetings_73 rfl rfl ?_
      refine mr_iload_n (pc' := 75) dX10_meetings_74 rfl rfl ?_
      refine mr_iload (pc' := 77) dX10_meetings_75 rfl rfl ?_
      obtain ⟨q23, g24, h25⟩ := Option.bind_eq_some_iff.mp h
      refine mr_cv (pc' := 80) (a := 0) (d1 := 3) dX10_meetings_77 rfl rfl rfl rfl rfl rfl (by decide) rfl (by decide) (ok_X10_hoursMet hR  g24) ?_
      show mr X _ _ 80 _ [.int q23.1] (MM RR q23.2) _
      refine mr_istore (pc' := 82) (lv' := [(9, .int q23.1), (0, .ref 0), (1, .int p1), (2, .int p2), (3, .int p3), (4, .int p4), (5, .int p5), (6, .int p6), (7, .int p7), (8, .int p8)]) dX10_meetings_80 rfl (by decide) rfl ?_
      refine mr_iload (pc' := 84) dX10_meetings_82 rfl rfl ?_
      refine mr_iload (pc' := 86) dX10_meetings_84 rfl rfl ?_
      refine mr_iadd (pc' := 87) dX10_meetings_86 rfl ?_
      refine mr_istore (pc' := 89) (lv' := [(6, .int (p6 + q23.1)), (9, .int q23.1), (0, .ref 0), (1, .int p1), (2, .int p2), (3, .int p3), (4, .int p4), (5, .int p5), (7, .int p7), (8, .int p8)]) dX10_meetings_87 rfl (by decide) rfl ?_
      refine mr_iload (pc' := 91) dX10_meetings_89 rfl rfl ?_
      refine mr_iload (pc' := 93) dX10_meetings_91 rfl rfl ?_
      by_cases c26 : q23.1 ≤ (0 : Int32)
      · rw [if_pos c26] at h25
        refine mr_if_le_t (t := 100) dX10_meetings_93 (by decide) c26 ?_
        refine mr_iconst (pc' := 101) (v := (0 : Int32)) dX10_meetings_100 rfl (by decide) ?_
        refine mr_iadd (pc' := 102) dX10_meetings_101 rfl ?_
        refine mr_istore (pc' := 104) (lv' := [(7, .int (p7 + (0 : Int32))), (6, .int (p6 + q23.1)), (9, .int q23.1), (0, .ref 0), (1, .int p1), (2, .int p2), (3, .int p3), (4, .int p4), (5, .int p5), (8, .int p8)]) dX10_meetings_102 rfl (by decide) rfl ?_
        refine mr_iinc (pc' := 107) (x' := (p8 + (1 : Int32))) (lv' := [(8, .int (p8 + (1 : Int32))), (7, .int (p7 + (0 : Int32))), (6, .int (p6 + q23.1)), (9, .int q23.1), (0, .ref 0), (1, .int p1), (2, .int p2), (3, .int p3), (4, .int p4), (5, .int p5)]) dX10_meetings_104 rfl (by decide) rfl rfl rfl ?_
        refine mr_goto (t := 66) dX10_meetings_107 (by decide) ?_
        exact mr_sub [(0, .ref 0), (1, .int p1), (2, .int p2), (3, .int p3), (4, .int p4), (5, .int p5), (6, .int (p6 + q23.1)), (7, .int (p7 + (0 : Int32))), (8, .int (p8 + (1 : Int32)))] ⟨rfl, rfl, rfl, rfl, rfl, rfl, rfl, rfl, rfl, trivial⟩ rfl (ih _ _ _ _  h25)
      · rw [if_neg c26] at h25
        refine mr_if_le_f (t := 100) (pc' := 96) dX10_meetings_93 (by decide) rfl c26 ?_
        refine mr_iconst (pc' := 97) (v := (1 : Int32)) dX10_meetings_96 rfl (by decide) ?_
        refine mr_goto (t := 101) dX10_meetings_97 (by decide) ?_
        refine mr_iadd (pc' := 102) dX10_meetings_101 rfl ?_
        refine mr_istore (pc' := 104) (lv' := [(7, .int (p7 + (1 : Int32))), (6, .int (p6 + q23.1)), (9, .int q23.1), (0, .ref 0), (1, .int p1), (2, .int p2), (3, .int p3), (4, .int p4), (5, .int p5), (8, .int p8)]) dX10_meetings_102 rfl (by decide) rfl ?_
        refine mr_iinc (pc' := 107) (x' := (p8 + (1 : Int32))) (lv' := [(8, .int (p8 + (1 : Int32))), (7, .int (p7 + (1 : Int32))), (6, .int (p6 + q23.1)), (9, .int q23.1), (0, .ref 0), (1, .int p1), (2, .int p2), (3, .int p3), (4, .int p4), (5, .int p5)]) dX10_meetings_104 rfl (by decide) rfl rfl rfl ?_
        refine mr_goto (t := 66) dX10_meetings_107 (by decide) ?_
        exact mr_sub [(0, .ref 0), (1, .int p1), (2, .int p2), (3, .int p3), (4, .int p4), (5, .int p5), (6, .int (p6 + q23.1)), (7, .int (p7 + (1 : Int32))), (8, .int (p8 + (1 : Int32)))] ⟨rfl, rfl, rfl, rfl, rfl, rfl, rfl, rfl, rfl, trivial⟩ rfl (ih _ _ _ _  h25)
def f_X10_meetings (v1 : Int32) (v2 : Int32) (v3 : Int32) (v4 : Int32) (v5 : Int32) (S : fS) : Option (Int32 × fS) :=
  (f_X10_isThing v1 S).bind fun q1 =>
  if q1 = (0 : Int32) then (some ((-1 : Int32), S)) else
  ((f_X10_isThing v2 S).bind fun q5 =>
  if q5 = (0 : Int32) then (some ((-1 : Int32), S)) else
  (if v1 = v2 then (some ((-1 : Int32), S)) else
  ((f_X10_isFrom v5 (0 : Int32) (1 : Int32) S).bind fun q10 =>
  if q10 = (0 : Int32) then (some ((-1 : Int32), S)) else
  ((f_X10_isFrom v3 (1 : Int32) (20 : Int32) S).bind fun q14 =>
  if q14 = (0 : Int32) then (some ((-1 : Int32), S)) else
  ((f_X10_isFrom v4 (1 : Int32) (200 : Int32) S).bind fun q18 =>
  if q18 = (0 : Int32) then (some ((-1 : Int32), S)) else
  (lp_X10_meetings_66 v1 v2 v3 v4 v5 (fun u27 u28 S29 => if v5 = (0 : Int32) then (some (u27, S29)) else
  (some (u28, S29))) FU (0 : Int32) (0 : Int32) (0 : Int32) S))))))
set_option maxHeartbeats 4000000 in
set_option maxRecDepth 100000 in
theorem ok_X10_meetings {X : mm_C} {RR : Nat → Nat → Option Nat} (hR : RRok RR) {v1 : Int32} {v2 : Int32} {v3 : Int32} {v4 : Int32} {v5 : Int32}  {S : fS} {r : Int32 × fS} (h : f_X10_meetings v1 v2 v3 v4 v5 S = some r) : mr X 4 mY_X10_meetings 0 (lv_args 0 [.ref 0, .int v1, .int v2, .int v3, .int v4, .int v5]) [] (MM RR S) (some (.int r.1), MM RR r.2) := by
  unfold f_X10_meetings at h
  show mr X _ _ 0 [(0, .ref 0), (1, .int v1), (2, .int v2), (3, .int v3), (4, .int v4), (5, .int v5)] [] (MM RR S) _
  refine mr_aload_n (pc' := 1) dX10_meetings_0 rfl rfl ?_
  refine mr_iload_n (pc' := 2) dX10_meetings_1 rfl rfl ?_
  obtain ⟨q1, g2, h3⟩ := Option.bind_eq_some_iff.mp h
  refine mr_cv (pc' := 5) (a := 0) (d1 := 1) dX10_meetings_2 rfl rfl rfl rfl rfl rfl (by decide) rfl (by decide) (ok_X10_isThing hR  g2) ?_
  show mr X _ _ 5 _ [.int q1] (MM RR S) _
  by_cases c4 : q1 = (0 : Int32)
  · rw [if_pos c4] at h3
    refine mr_if_eq_t (t := 31) dX10_meetings_5 (by decide) c4 ?_
    refine mr_iconst (pc' := 32) (v := (-1 : Int32)) dX10_meetings_31 rfl (by decide) ?_
    obtain rfl := Option.some.inj h3
    exact mr_ireturn dX10_meetings_32 rfl
  · rw [if_neg c4] at h3
    refine mr_if_eq_f (t := 31) (pc' := 8) dX10_meetings_5 (by decide) rfl c4 ?_
    refine mr_aload_n (pc' := 9) dX10_meetings_8 rfl rfl ?_
    refine mr_iload_n (pc' := 10) dX10_meetings_9 rfl rfl ?_
    obtain ⟨q5, g6, h7⟩ := Option.bind_eq_some_iff.mp h3
    refine mr_cv (pc' := 13) (a := 0) (d1 := 1) dX10_meetings_10 rfl rfl rfl rfl rfl rfl (by decide) rfl (by decide) (ok_X10_isThing hR  g6) ?_
    show mr X _ _ 13 _ [.int q5] (MM RR S) _
    by_cases c8 : q5 = (0 : Int32)
    · rw [if_pos c8] at h7
      refine mr_if_eq_t (t := 31) dX10_meetings_13 (by decide) c8 ?_
      refine mr_iconst (pc' := 32) (v := (-1 : Int32)) dX10_meetings_31 rfl (by decide) ?_
      obtain rfl := Option.some.inj h7
      exact mr_ireturn dX10_meetings_32 rfl
    · rw [if_neg c8] at h7
      refine mr_if_eq_f (t := 31) (pc' := 16) dX10_meetings_13 (by decide) rfl c8 ?_
      refine mr_iload_n (pc' := 17) dX10_meetings_16 rfl rfl ?_
      refine mr_iload_n (pc' := 18) dX10_meetings_17 rfl rfl ?_
      by_cases c9 : v1 = v2
      · rw [if_pos c9] at h7
        refine mr_icmp_eq_t (t := 31) dX10_meetings_18 (by decide) c9 ?_
        refine mr_iconst (pc' := 32) (v := (-1 : Int32)) dX10_meetings_31 rfl (by decide) ?_
        obtain rfl := Option.some.inj h7
        exact mr_ireturn dX10_meetings_32 rfl
      · rw [if_neg c9] at h7
        refine mr_icmp_eq_f (t := 31) (pc' := 21) dX10_meetings_18 (by decide) rfl c9 ?_
        refine mr_iload (pc' := 23) dX10_meetings_21 rfl rfl ?_
        refine mr_iconst (pc' := 24) (v := (0 : Int32)) dX10_meetings_23 rfl (by decide) ?_
        refine mr_iconst (pc' := 25) (v := (1 : Int32)) dX10_meetings_24 rfl (by decide) ?_
        obtain ⟨q10, g11, h12⟩ := Option.bind_eq_some_iff.mp h7
        refine mr_cs (pc' := 28) (d1 := 0) dX10_meetings_25 rfl rfl rfl rfl (by decide) (Nat.le_of_ble_eq_true rfl) rfl rfl rfl (by decide) (ok_X10_isFrom hR  g11) ?_
        show mr X _ _ 28 _ [.int q10] (MM RR S) _
        by_cases c13 : q10 = (0 : Int32)
        · rw [if_pos c13] at h12
          refine mr_if_ne_f (t := 33) (pc' := 31) dX10_meetings_28 (by decide) rfl (not_not_intro c13) ?_
          refine mr_iconst (pc' := 32) (v := (-1 : Int32)) dX10_meetings_31 rfl (by decide) ?_
          obtain rfl := Option.some.inj h12
          exact mr_ireturn dX10_meetings_32 rfl
        · rw [if_neg c13] at h12
          refine mr_if_ne_t (t := 33) dX10_meetings_28 (by decide) c13 ?_
          refine mr_iload_n (pc' := 34) dX10_meetings_33 rfl rfl ?_
          refine mr_iconst (pc' := 35) (v := (1 : Int32)) dX10_meetings_34 rfl (by decide) ?_
          refine mr_bipush (pc' := 37) (v := (20 : Int32)) dX10_meetings_35 rfl (by decide) ?_
          obtain ⟨q14, g15, h16⟩ := Option.bind_eq_some_iff.mp h12
          refine mr_cs (pc' := 40) (d1 := 0) dX10_meetings_37 rfl rfl rfl rfl (by decide) (Nat.le_of_ble_eq_true rfl) rfl rfl rfl (by decide) (ok_X10_isFrom hR  g15) ?_
          show mr X _ _ 40 _ [.int q14] (MM RR S) _
          by_cases c17 : q14 = (0 : Int32)
          · rw [if_pos c17] at h16
            refine mr_if_eq_t (t := 55) dX10_meetings_40 (by decide) c17 ?_
            refine mr_iconst (pc' := 56) (v := (-1 : Int32)) dX10_meetings_55 rfl (by decide) ?_
            obtain rfl := Option.some.inj h16
            exact mr_ireturn dX10_meetings_56 rfl
          · rw [if_neg c17] at h16
            refine mr_if_eq_f (t := 55) (pc' := 43) dX10_meetings_40 (by decide) rfl c17 ?_
            refine mr_iload (pc' := 45) dX10_meetings_43 rfl rfl ?_
            refine mr_iconst (pc' := 46) (v := (1 : Int32)) dX10_meetings_45 rfl (by decide) ?_
            refine mr_sipush (pc' := 49) (v := (200 : Int32)) dX10_meetings_46 rfl (by decide) ?_
            obtain ⟨q18, g19, h20⟩ := Option.bind_eq_some_iff.mp h16
            refine mr_cs (pc' := 52) (d1 := 0) dX10_meetings_49 rfl rfl rfl rfl (by decide) (Nat.le_of_ble_eq_true rfl) rfl rfl rfl (by decide) (ok_X10_isFrom hR  g19) ?_
            show mr X _ _ 52 _ [.int q18] (MM RR S) _
            by_cases c21 : q18 = (0 : Int32)
            · rw [if_pos c21] at h20
              refine mr_if_ne_f (t := 57) (pc' := 55) dX10_meetings_52 (by decide) rfl (not_not_intro c21) ?_
              refine mr_iconst (pc' := 56) (v := (-1 : Int32)) dX10_meetings_55 rfl (by decide) ?_
              obtain rfl := Option.some.inj h20
              exact mr_ireturn dX10_meetings_56 rfl
            · rw [if_neg c21] at h20
              refine mr_if_ne_t (t := 57) dX10_meetings_52 (by decide) c21 ?_
              refine mr_iconst (pc' := 58) (v := (0 : Int32)) dX10_meetings_57 rfl (by decide) ?_
              refine mr_istore (pc' := 60) (lv' := [(6, .int (0 : Int32)), (0, .ref 0), (1, .int v1), (2, .int v2), (3, .int v3), (4, .int v4), (5, .int v5)]) dX10_meetings_58 rfl (by decide) rfl ?_
              refine mr_iconst (pc' := 61) (v := (0 : Int32)) dX10_meetings_60 rfl (by decide) ?_
              refine mr_istore (pc' := 63) (lv' := [(7, .int (0 : Int32)), (6, .int (0 : Int32)), (0, .ref 0), (1, .int v1), (2, .int v2), (3, .int v3), (4, .int v4), (5, .int v5)]) dX10_meetings_61 rfl (by decide) rfl ?_
              refine mr_iconst (pc' := 64) (v := (0 : Int32)) dX10_meetings_63 rfl (by decide) ?_
              refine mr_istore (pc' := 66) (lv' := [(8, .int (0 : Int32)), (7, .int (0 : Int32)), (6, .int (0 : Int32)), (0, .ref 0), (1, .int v1), (2, .int v2), (3, .int v3), (4, .int v4), (5, .int v5)]) dX10_meetings_64 rfl (by decide) rfl ?_
              refine mr_sub [(0, .ref 0), (1, .int v1), (2, .int v2), (3, .int v3), (4, .int v4), (5, .int v5), (6, .int (0 : Int32)), (7, .int (0 : Int32)), (8, .int (0 : Int32))] ⟨rfl, rfl, rfl, rfl, rfl, rfl, rfl, rfl, rfl, trivial⟩ rfl ?_
              refine ok_lp_X10_meetings_66 hR  (fun u27 u28 S29 h30 => ?_) FU _ _ _ _  h20
              refine mr_iload (pc' := 112) dX10_meetings_110 rfl rfl ?_
              by_cases c31 : v5 = (0 : Int32)
              · rw [if_pos c31] at h30
                refine mr_if_ne_f (t := 120) (pc' := 115) dX10_meetings_112 (by decide) rfl (not_not_intro c31) ?_
                refine mr_iload (pc' := 117) dX10_meetings_115 rfl rfl ?_
                refine mr_goto (t := 122) dX10_meetings_117 (by decide) ?_
                obtain rfl := Option.some.inj h30
                exact mr_ireturn dX10_meetings_122 rfl
              · rw [if_neg c31] at h30
                refine mr_if_ne_t (t := 120) dX10_meetings_112 (by decide) c31 ?_
                refine mr_iload (pc' := 122) dX10_meetings_120 rfl rfl ?_
                obtain rfl := Option.some.inj h30
                exact mr_ireturn dX10_meetings_122 rfl
def lp_X2_earlyOnes_4 (p0 : Nat) (p1 : Nat) (S : fS) (K : Int32 → Option (Int32)) : Nat → Int32 → Int32 → Option (Int32)
  | 0, _, _ => none
  | n + 1, p2, p3 =>
    if (S.1 p0 4) ≤ p3 then (K p2) else
    ((f_X2_isEarly p0 p1 p3 S).bind fun q2 =>
    if q2 = (0 : Int32) then (lp_X2_earlyOnes_4 p0 p1 S K n (p2 + (0 : Int32)) (p3 + (1 : Int32))) else
    (lp_X2_earlyOnes_4 p0 p1 S K n (p2 + (1 : Int32)) (p3 + (1 : Int32))))
set_option maxHeartbeats 4000000 in
set_option maxRecDepth 100000 in
theorem ok_lp_X2_earlyOnes_4 {X : mm_C} {RR : Nat → Nat → Option Nat} (hR : RRok RR) {p0 : Nat} {p1 : Nat} (t0 : tg p0 = 2) (t1 : tg p1 = 8) {S : fS} {K : Int32 → Option (Int32)} {r : Int32} (hK : ∀ (k2 : Int32), K k2 = some r → mr X 3 mY_X2_earlyOnes 35 [(2, .int k2)] [] (MM RR S) (some (.int r), MM RR S)) : ∀ (n : Nat) (p2 : Int32) (p3 : Int32), lp_X2_earlyOnes_4 p0 p1 S K n p2 p3 = some r → mr X 3 mY_X2_earlyOnes 4 [(0, .ref p0), (1, .ref p1), (2, .int p2), (3, .int p3)] [] (MM RR S) (some (.int r), MM RR S) := by
  intro n
  induction n with
  | zero => intro p2 p3 h; exact mm_no h
  | succ n ih =>
    intro p2 p3 h
    unfold lp_X2_earlyOnes_4 at h
    refine mr_iload_n (pc' := 5) dX2_earlyOnes_4 rfl rfl ?_
    refine mr_aload_n (pc' := 6) dX2_earlyOnes_5 rfl rfl ?_
    refine mr_getI (pc' := 9) (ci := 2) (j := 4) dX2_earlyOnes_6 rfl rfl t0 (by decide) (by decide) rfl ?_
    by_cases c1 : (S.1 p0 4) ≤ p3
    · rw [if_pos c1] at h
      refine mr_icmp_ge_t (t := 35) dX2_earlyOnes_9 (by decide) c1 ?_
      exact mr_sub [(2, .int p2)] ⟨rfl, trivial⟩ rfl (hK _  h)
    · rw [if_neg c1] at h
      refine mr_icmp_ge_f (t := 35) (pc' := 12) dX2_earlyOnes_9 (by decide) rfl c1 ?_
      refine mr_iload_n (pc' := 13) dX2_earlyOnes_12 rfl rfl ?_
      refine mr_aload_n (pc' := 14) dX2_earlyOnes_13 rfl rfl ?_
      refine mr_aload_n (pc' := 15) dX2_earlyOnes_14 rfl rfl ?_
      refine mr_iload_n (pc' := 16) dX2_earlyOnes_15 rfl rfl ?_
      obtain ⟨q2, g3, h4⟩ := Option.bind_eq_some_iff.mp h
      refine mr_cv (pc' := 19) (a := p0) (d1 := 2) dX2_earlyOnes_16 rfl rfl rfl rfl rfl t0 (by decide) rfl (by decide) (ok_X2_isEarly hR t0 t1 g3) ?_
      show mr X _ _ 19 _ [.int q2, .int p2] (MM RR S) _
      by_cases c5 : q2 = (0 : Int32)
      · rw [if_pos c5] at h4
        refine mr_if_eq_t (t := 26) dX2_earlyOnes_19 (by decide) c5 ?_
        refine mr_iconst (pc' := 27) (v := (0 : Int32)) dX2_earlyOnes_26 rfl (by decide) ?_
        refine mr_iadd (pc' := 28) dX2_earlyOnes_27 rfl ?_
        refine mr_istore_n (pc' := 29) (lv' := [(2, .int (p2 + (0 : Int32))), (0, .ref p0), (1, .ref p1), (3, .int p3)]) dX2_earlyOnes_28 rfl (by decide) rfl ?_
        refine mr_iinc (pc' := 32) (x' := (p3 + (1 : Int32))) (lv' := [(3, .int (p3 + (1 : Int32))), (2, .int (p2 + (0 : Int32))), (0, .ref p0), (1, .ref p1)]) dX2_earlyOnes_29 rfl (by decide) rfl rfl rfl ?_
        refine mr_goto (t := 4) dX2_earlyOnes_32 (by decide) ?_
        exact mr_sub [(0, .ref p0), (1, .ref p1), (2, .int (p2 + (0 : Int32))), (3, .int (p3 + (1 : Int32)))] ⟨rfl, rfl, rfl, rfl, trivial⟩ rfl (ih _ _  h4)
      · rw [if_neg c5] at h4
        refine mr_if_eq_f (t := 26) (pc' := 22) dX2_earlyOnes_19 (by decide) rfl c5 ?_
        refine mr_iconst (pc' := 23) (v := (1 : Int32)) dX2_earlyOnes_22 rfl (by decide) ?_
        refine mr_goto (t := 27) dX2_earlyOnes_23 (by decide) ?_
        refine mr_iadd (pc' := 28) dX2_earlyOnes_27 rfl ?_
        refine mr_istore_n (pc' := 29) (lv' := [(2, .int (p2 + (1 : Int32))), (0, .ref p0), (1, .ref p1), (3, .int p3)]) dX2_earlyOnes_28 rfl (by decide) rfl ?_
        refine mr_iinc (pc' := 32) (x' := (p3 + (1 : Int32))) (lv' := [(3, .int (p3 + (1 : Int32))), (2, .int (p2 + (1 : Int32))), (0, .ref p0), (1, .ref p1)]) dX2_earlyOnes_29 rfl (by decide) rfl rfl rfl ?_
        refine mr_goto (t := 4) dX2_earlyOnes_32 (by decide) ?_
        exact mr_sub [(0, .ref p0), (1, .ref p1), (2, .int (p2 + (1 : Int32))), (3, .int (p3 + (1 : Int32)))] ⟨rfl, rfl, rfl, rfl, trivial⟩ rfl (ih _ _  h4)
def f_X2_earlyOnes (v0 : Nat) (v1 : Nat) (S : fS) : Option (Int32) :=
  lp_X2_earlyOnes_4 v0 v1 S (fun u6 => some u6) FU (0 : Int32) (0 : Int32)
set_option maxHeartbeats 4000000 in
set_option maxRecDepth 100000 in
theorem ok_X2_earlyOnes {X : mm_C} {RR : Nat → Nat → Option Nat} (hR : RRok RR) {v0 : Nat} {v1 : Nat} (t0 : tg v0 = 2) (t1 : tg v1 = 8) {S : fS} {r : Int32} (h : f_X2_earlyOnes v0 v1 S = some r) : mr X 3 mY_X2_earlyOnes 0 (lv_args 0 [.ref v0, .ref v1]) [] (MM RR S) (some (.int r), MM RR S) := by
  unfold f_X2_earlyOnes at h
  show mr X _ _ 0 [(0, .ref v0), (1, .ref v1)] [] (MM RR S) _
  refine mr_iconst (pc' := 1) (v := (0 : Int32)) dX2_earlyOnes_0 rfl (by decide) ?_
  refine mr_istore_n (pc' := 2) (lv' := [(2, .int (0 : Int32)), (0, .ref v0), (1, .ref v1)]) dX2_earlyOnes_1 rfl (by decide) rfl ?_
  refine mr_iconst (pc' := 3) (v := (0 : Int32)) dX2_earlyOnes_2 rfl (by decide) ?_
  refine mr_istore_n (pc' := 4) (lv' := [(3, .int (0 : Int32)), (2, .int (0 : Int32)), (0, .ref v0), (1, .ref v1)]) dX2_earlyOnes_3 rfl (by decide) rfl ?_
  refine mr_sub [(0, .ref v0), (1, .ref v1), (2, .int (0 : Int32)), (3, .int (0 : Int32))] ⟨rfl, rfl, rfl, rfl, trivial⟩ rfl ?_
  refine ok_lp_X2_earlyOnes_4 hR t0 t1 (fun u6 h7 => ?_) FU _ _  h
  refine mr_iload_n (pc' := 36) dX2_earlyOnes_35 rfl rfl ?_
  obtain rfl := Option.some.inj h7
  exact mr_ireturn dX2_earlyOnes_36 rfl
def lp_X0_going_4 (p0 : Nat) (S : fS) (K : Int32 → Option (Int32)) : Nat → Int32 → Int32 → Option (Int32)
  | 0, _, _ => none
  | n + 1, p1, p2 =>
    if (S.1 p0 5) ≤ p2 then (K p1) else
    ((f_X0_isStanding p0 p2 S).bind fun q2 =>
    if q2 = (0 : Int32) then (lp_X0_going_4 p0 S K n (p1 + (1 : Int32)) (p2 + (1 : Int32))) else
    (lp_X0_going_4 p0 S K n (p1 + (0 : Int32)) (p2 + (1 : Int32))))
set_option maxHeartbeats 4000000 in
set_option maxRecDepth 100000 in
theorem ok_lp_X0_going_4 {X : mm_C} {RR : Nat → Nat → Option Nat} (hR : RRok RR) {p0 : Nat} (t0 : tg p0 = 0) {S : fS} {K : Int32 → Option (Int32)} {r : Int32} (hK : ∀ (k1 : Int32), K k1 = some r → mr X 1 mY_X0_going 34 [(1, .int k1)] [] (MM RR S) (some (.int r), MM RR S)) : ∀ (n : Nat) (p1 : Int32) (p2 : Int32), lp_X0_going_4 p0 S K n p1 p2 = some r → mr X 1 mY_X0_going 4 [(0, .ref p0), (1, .int p1), (2, .int p2)] [] (MM RR S) (some (.int r), MM RR S) := by
  intro n
  induction n with
  | zero => intro p1 p2 h; exact mm_no h
  | succ n ih =>
    intro p1 p2 h
    unfold lp_X0_going_4 at h
    refine mr_iload_n (pc' := 5) dX0_going_4 rfl rfl ?_
    refine mr_aload_n (pc' := 6) dX0_going_5 rfl rfl ?_
    refine mr_getI (pc' := 9) (ci := 0) (j := 5) dX0_going_6 rfl rfl t0 (by decide) (by decide) rfl ?_
    by_cases c1 : (S.1 p0 5) ≤ p2
    · rw [if_pos c1] at h
      refine mr_icmp_ge_t (t := 34) dX0_going_9 (by decide) c1 ?_
      exact mr_sub [(1, .int p1)] ⟨rfl, trivial⟩ rfl (hK _  h)
    · rw [if_neg c1] at h
      refine mr_icmp_ge_f (t := 34) (pc' := 12) dX0_going_9 (by decide) rfl c1 ?_
      refine mr_iload_n (pc' := 13) dX0_going_12 rfl rfl ?_
      refine mr_aload_n (pc' := 14) dX0_going_13 rfl rfl ?_
      refine mr_iload_n (pc' := 15) dX0_going_14 rfl rfl ?_
      obtain ⟨q2, g3, h4⟩ := Option.bind_eq_some_iff.mp h
      refine mr_cv (pc' := 18) (a := p0) (d1 := 0) dX0_going_15 rfl rfl rfl rfl rfl t0 (by decide) rfl (by decide) (ok_X0_isStanding hR t0 g3) ?_
      show mr X _ _ 18 _ [.int q2, .int p1] (MM RR S) _
      by_cases c5 : q2 = (0 : Int32)
      · rw [if_pos c5] at h4
        refine mr_if_eq_t (t := 25) dX0_going_18 (by decide) c5 ?_
        refine mr_iconst (pc' := 26) (v := (1 : Int32)) dX0_going_25 rfl (by decide) ?_
        refine mr_iadd (pc' := 27) dX0_going_26 rfl ?_
        refine mr_istore_n (pc' := 28) (lv' := [(1, .int (p1 + (1 : Int32))), (0, .ref p0), (2, .int p2)]) dX0_going_27 rfl (by decide) rfl ?_
        refine mr_iinc (pc' := 31) (x' := (p2 + (1 : Int32))) (lv' := [(2, .int (p2 + (1 : Int32))), (1, .int (p1 + (1 : Int32))), (0, .ref p0)]) dX0_going_28 rfl (by decide) rfl rfl rfl ?_
        refine mr_goto (t := 4) dX0_going_31 (by decide) ?_
        exact mr_sub [(0, .ref p0), (1, .int (p1 + (1 : Int32))), (2, .int (p2 + (1 : Int32)))] ⟨rfl, rfl, rfl, trivial⟩ rfl (ih _ _  h4)
      · rw [if_neg c5] at h4
        refine mr_if_eq_f (t := 25) (pc' := 21) dX0_going_18 (by decide) rfl c5 ?_
        refine mr_iconst (pc' := 22) (v := (0 : Int32)) dX0_going_21 rfl (by decide) ?_
        refine mr_goto (t := 26) dX0_going_22 (by decide) ?_
        refine mr_iadd (pc' := 27) dX0_going_26 rfl ?_
        refine mr_istore_n (pc' := 28) (lv' := [(1, .int (p1 + (0 : Int32))), (0, .ref p0), (2, .int p2)]) dX0_going_27 rfl (by decide) rfl ?_
        refine mr_iinc (pc' := 31) (x' := (p2 + (1 : Int32))) (lv' := [(2, .int (p2 + (1 : Int32))), (1, .int (p1 + (0 : Int32))), (0, .ref p0)]) dX0_going_28 rfl (by decide) rfl rfl rfl ?_
        refine mr_goto (t := 4) dX0_going_31 (by decide) ?_
        exact mr_sub [(0, .ref p0), (1, .int (p1 + (0 : Int32))), (2, .int (p2 + (1 : Int32)))] ⟨rfl, rfl, rfl, trivial⟩ rfl (ih _ _  h4)
def f_X0_going (v0 : Nat) (S : fS) : Option (Int32) :=
  lp_X0_going_4 v0 S (fun u6 => some u6) FU (0 : Int32) (0 : Int32)
set_option maxHeartbeats 4000000 in
set_option maxRecDepth 100000 in
theorem ok_X0_going {X : mm_C} {RR : Nat → Nat → Option Nat} (hR : RRok RR) {v0 : Nat} (t0 : tg v0 = 0) {S : fS} {r : Int32} (h : f_X0_going v0 S = some r) : mr X 1 mY_X0_going 0 (lv_args 0 [.ref v0]) [] (MM RR S) (some (.int r), MM RR S) := by
  unfold f_X0_going at h
  show mr X _ _ 0 [(0, .ref v0)] [] (MM RR S) _
  refine mr_iconst (pc' := 1) (v := (0 : Int32)) dX0_going_0 rfl (by decide) ?_
  refine mr_istore_n (pc' := 2) (lv' := [(1, .int (0 : Int32)), (0, .ref v0)]) dX0_going_1 rfl (by decide) rfl ?_
  refine mr_iconst (pc' := 3) (v := (0 : Int32)) dX0_going_2 rfl (by decide) ?_
  refine mr_istore_n (pc' := 4) (lv' := [(2, .int (0 : Int32)), (1, .int (0 : Int32)), (0, .ref v0)]) dX0_going_3 rfl (by decide) rfl ?_
  refine mr_sub [(0, .ref v0), (1, .int (0 : Int32)), (2, .int (0 : Int32))] ⟨rfl, rfl, rfl, trivial⟩ rfl ?_
  refine ok_lp_X0_going_4 hR t0 (fun u6 h7 => ?_) FU _ _  h
  refine mr_iload_n (pc' := 35) dX0_going_34 rfl rfl ?_
  obtain rfl := Option.some.inj h7
  exact mr_ireturn dX0_going_35 rfl
def f_X10_count (v1 : Int32) (S : fS) : Option (Int32) :=
  if v1 = (0 : Int32) then (some (S.1 4 6)) else
  if v1 = (1 : Int32) then (some (S.1 4 7)) else
  if v1 = (2 : Int32) then (some (S.1 11 5)) else
  if v1 = (3 : Int32) then (some (S.1 0 10)) else
  if v1 = (4 : Int32) then (some (S.1 11 6)) else
  if v1 = (5 : Int32) then (some (S.1 17 4)) else
  if v1 = (6 : Int32) then ((f_X2_earlyOnes 17 4 S).bind fun q8 =>
  some q8) else
  if v1 = (7 : Int32) then ((f_X0_going 11 S).bind fun q12 =>
  some q12) else
  if v1 = (8 : Int32) then (some (S.1 3 3)) else
  if v1 = (9 : Int32) then (some (S.1 1 1)) else
  (some (-1 : Int32))
set_option maxHeartbeats 4000000 in
set_option maxRecDepth 100000 in
theorem ok_X10_count {X : mm_C} {RR : Nat → Nat → Option Nat} (hR : RRok RR) {v1 : Int32}  {S : fS} {r : Int32} (h : f_X10_count v1 S = some r) : mr X 4 mY_X10_count 0 (lv_args 0 [.ref 0, .int v1]) [] (MM RR S) (some (.int r), MM RR S) := by
  unfold f_X10_count at h
  show mr X _ _ 0 [(0, .ref 0), (1, .int v1)] [] (MM RR S) _
  refine mr_iload_n (pc' := 1) dX10_count_0 rfl rfl ?_
  by_cases c1 : v1 = (0 : Int32)
  · rw [if_pos c1] at h
    refine mr_sw_in (t := 56) (v := (0 : Int32)) dX10_count_1 c1 rfl ?_
    refine mr_aload_n (pc' := 57) dX10_count_56 rfl rfl ?_
    refine mr_getR (pc' := 60) (ci := 10) (j := 1) (b := 3) hR dX10_count_57 rfl rfl rfl (by decide) (by decide) (by decide) rfl rfl ?_
    refine mr_getR (pc' := 63) (ci := 6) (j := 0) (b := 4) hR dX10_count_60 rfl rfl rfl (by decide) (by decide) (by decide) rfl rfl ?_
    refine mr_getI (pc' := 66) (ci := 8) (j := 6) dX10_count_63 rfl rfl rfl (by decide) (by decide) rfl ?_
    obtain rfl := Option.some.inj h
    exact mr_ireturn dX10_count_66 rfl
  rw [if_neg c1] at h
  by_cases c2 : v1 = (1 : Int32)
  · rw [if_pos c2] at h
    refine mr_sw_in (t := 67) (v := (1 : Int32)) dX10_count_1 c2 rfl ?_
    refine mr_aload_n (pc' := 68) dX10_count_67 rfl rfl ?_
    refine mr_getR (pc' := 71) (ci := 10) (j := 1) (b := 3) hR dX10_count_68 rfl rfl rfl (by decide) (by decide) (by decide) rfl rfl ?_
    refine mr_getR (pc' := 74) (ci := 6) (j := 0) (b := 4) hR dX10_count_71 rfl rfl rfl (by decide) (by decide) (by decide) rfl rfl ?_
    refine mr_getI (pc' := 77) (ci := 8) (j := 7) dX10_count_74 rfl rfl rfl (by decide) (by decide) rfl ?_
    obtain rfl := Option.some.inj h
    exact mr_ireturn dX10_count_77 rfl
  rw [if_neg c2] at h
  by_cases c3 : v1 = (2 : Int32)
  · rw [if_pos c3] at h
    refine mr_sw_in (t := 78) (v := (2 : Int32)) dX10_count_1 c3 rfl ?_
    refine mr_aload_n (pc' := 79) dX10_count_78 rfl rfl ?_
    refine mr_getR (pc' := 82) (ci := 10) (j := 1) (b := 3) hR dX10_count_79 rfl rfl rfl (by decide) (by decide) (by decide) rfl rfl ?_
    refine mr_getR (pc' := 85) (ci := 6) (j := 1) (b := 11) hR dX10_count_82 rfl rfl rfl (by decide) (by decide) (by decide) rfl rfl ?_
    refine mr_getI (pc' := 88) (ci := 0) (j := 5) dX10_count_85 rfl rfl rfl (by decide) (by decide) rfl ?_
    obtain rfl := Option.some.inj h
    exact mr_ireturn dX10_count_88 rfl
  rw [if_neg c3] at h
  by_cases c4 : v1 = (3 : Int32)
  · rw [if_pos c4] at h
    refine mr_sw_in (t := 89) (v := (3 : Int32)) dX10_count_1 c4 rfl ?_
    refine mr_aload_n (pc' := 90) dX10_count_89 rfl rfl ?_
    refine mr_getI (pc' := 93) (ci := 10) (j := 10) dX10_count_90 rfl rfl rfl (by decide) (by decide) rfl ?_
    obtain rfl := Option.some.inj h
    exact mr_ireturn dX10_count_93 rfl
  rw [if_neg c4] at h
  by_cases c5 : v1 = (4 : Int32)
  · rw [if_pos c5] at h
    refine mr_sw_in (t := 94) (v := (4 : Int32)) dX10_count_1 c5 rfl ?_
    refine mr_aload_n (pc' := 95) dX10_count_94 rfl rfl ?_
    refine mr_getR (pc' := 98) (ci := 10) (j := 1) (b := 3) hR dX10_count_95 rfl rfl rfl (by decide) (by decide) (by decide) rfl rfl ?_
    refine mr_getR (pc' := 101) (ci := 6) (j := 1) (b := 11) hR dX10_count_98 rfl rfl rfl (by decide) (by decide) (by decide) rfl rfl ?_
    refine mr_getI (pc' := 104) (ci := 0) (j := 6) dX10_count_101 rfl rfl rfl (by decide) (by decide) rfl ?_
    obtain rfl := Option.some.inj h
    exact mr_ireturn dX10_count_104 rfl
  rw [if_neg c5] at h
  by_cases c6 : v1 = (5 : Int32)
  · rw [if_pos c6] at h
    refine mr_sw_in (t := 105) (v := (5 : Int32)) dX10_count_1 c6 rfl ?_
    refine mr_aload_n (pc' := 106) dX10_count_105 rfl rfl ?_
    refine mr_getR (pc' := 109) (ci := 10) (j := 1) (b := 3) hR dX10_count_106 rfl rfl rfl (by decide) (by decide) (by decide) rfl rfl ?_
    refine mr_getR (pc' := 112) (ci := 6) (j := 2) (b := 17) hR dX10_count_109 rfl rfl rfl (by decide) (by decide) (by decide) rfl rfl ?_
    refine mr_getI (pc' := 115) (ci := 2) (j := 4) dX10_count_112 rfl rfl rfl (by decide) (by decide) rfl ?_
    obtain rfl := Option.some.inj h
    exact mr_ireturn dX10_count_115 rfl
  rw [if_neg c6] at h
  by_cases c7 : v1 = (6 : Int32)
  · rw [if_pos c7] at h
    refine mr_sw_in (t := 116) (v := (6 : Int32)) dX10_count_1 c7 rfl ?_
    refine mr_aload_n (pc' := 117) dX10_count_116 rfl rfl ?_
    refine mr_getR (pc' := 120) (ci := 10) (j := 1) (b := 3) hR dX10_count_117 rfl rfl rfl (by decide) (by decide) (by decide) rfl rfl ?_
    refine mr_getR (pc' := 123) (ci := 6) (j := 2) (b := 17) hR dX10_count_120 rfl rfl rfl (by decide) (by decide) (by decide) rfl rfl ?_
    refine mr_aload_n (pc' := 124) dX10_count_123 rfl rfl ?_
    refine mr_getR (pc' := 127) (ci := 10) (j := 1) (b := 3) hR dX10_count_124 rfl rfl rfl (by decide) (by decide) (by decide) rfl rfl ?_
    refine mr_getR (pc' := 130) (ci := 6) (j := 0) (b := 4) hR dX10_count_127 rfl rfl rfl (by decide) (by decide) (by decide) rfl rfl ?_
    obtain ⟨q8, g9, h10⟩ := Option.bind_eq_some_iff.mp h
    refine mr_cv (pc' := 133) (a := 17) (d1 := 3) dX10_count_130 rfl rfl rfl rfl rfl rfl (by decide) rfl (by decide) (ok_X2_earlyOnes hR rfl rfl g9) ?_
    show mr X _ _ 133 _ [.int q8] (MM RR S) _
    obtain rfl := Option.some.inj h10
    exact mr_ireturn dX10_count_133 rfl
  rw [if_neg c7] at h
  by_cases c11 : v1 = (7 : Int32)
  · rw [if_pos c11] at h
    refine mr_sw_in (t := 134) (v := (7 : Int32)) dX10_count_1 c11 rfl ?_
    refine mr_aload_n (pc' := 135) dX10_count_134 rfl rfl ?_
    refine mr_getR (pc' := 138) (ci := 10) (j := 1) (b := 3) hR dX10_count_135 rfl rfl rfl (by decide) (by decide) (by decide) rfl rfl ?_
    refine mr_getR (pc' := 141) (ci := 6) (j := 1) (b := 11) hR dX10_count_138 rfl rfl rfl (by decide) (by decide) (by decide) rfl rfl ?_
    obtain ⟨q12, g13, h14⟩ := Option.bind_eq_some_iff.mp h
    refine mr_cv (pc' := 144) (a := 11) (d1 := 1) dX10_count_141 rfl rfl rfl rfl rfl rfl (by decide) rfl (by decide) (ok_X0_going hR rfl g13) ?_
    show mr X _ _ 144 _ [.int q12] (MM RR S) _
    obtain rfl := Option.some.inj h14
    exact mr_ireturn dX10_count_144 rfl
  rw [if_neg c11] at h
  by_cases c15 : v1 = (8 : Int32)
  · rw [if_pos c15] at h
    refine mr_sw_in (t := 145) (v := (8 : Int32)) dX10_count_1 c15 rfl ?_
    refine mr_aload_n (pc' := 146) dX10_count_145 rfl rfl ?_
    refine mr_getR (pc' := 149) (ci := 10) (j := 1) (b := 3) hR dX10_count_146 rfl rfl rfl (by decide) (by decide) (by decide) rfl rfl ?_
    refine mr_getI (pc' := 152) (ci := 6) (j := 3) dX10_count_149 rfl rfl rfl (by decide) (by decide) rfl ?_
    obtain rfl := Option.some.inj h
    exact mr_ireturn dX10_count_152 rfl
  rw [if_neg c15] at h
  by_cases c16 : v1 = (9 : Int32)
  · rw [if_pos c16] at h
    refine mr_sw_in (t := 153) (v := (9 : Int32)) dX10_count_1 c16 rfl ?_
    refine mr_aload_n (pc' := 154) dX10_count_153 rfl rfl ?_
    refine mr_getR (pc' := 157) (ci := 10) (j := 0) (b := 1) hR dX10_count_154 rfl rfl rfl (by decide) (by decide) (by decide) rfl rfl ?_
    refine mr_getI (pc' := 160) (ci := 7) (j := 1) dX10_count_157 rfl rfl rfl (by decide) (by decide) rfl ?_
    obtain rfl := Option.some.inj h
    exact mr_ireturn dX10_count_160 rfl
  rw [if_neg c16] at h
  refine mr_sw_out (t := 161) dX10_count_1 (by have := i32ne c1 (k := 0) (by decide); have := i32ne c2 (k := 1) (by decide); have := i32ne c3 (k := 2) (by decide); have := i32ne c4 (k := 3) (by decide); have := i32ne c5 (k := 4) (by decide); have := i32ne c6 (k := 5) (by decide); have := i32ne c7 (k := 6) (by decide); have := i32ne c11 (k := 7) (by decide); have := i32ne c15 (k := 8) (by decide); have := i32ne c16 (k := 9) (by decide); omega) (by decide) ?_
  refine mr_iconst (pc' := 162) (v := (-1 : Int32)) dX10_count_161 rfl (by decide) ?_
  obtain rfl := Option.some.inj h
  exact mr_ireturn dX10_count_162 rfl
def f_X2_copyFrom (v0 : Nat) (v1 : Nat) (S : fS) : Option (fS) :=
  (some (cI S (v1 + 1) (v0 + 1) 12)).bind fun S1 =>
  (some (cI S1 (v1 + 2) (v0 + 2) 12)).bind fun S4 =>
  (some (cI S4 (v1 + 3) (v0 + 3) 12)).bind fun S7 =>
  (some (cI S7 (v1 + 4) (v0 + 4) 12)).bind fun S10 =>
  (some (pI S10 v0 4 (S10.1 v1 4))).bind fun S13 =>
  some S13
set_option maxHeartbeats 4000000 in
set_option maxRecDepth 100000 in
theorem ok_X2_copyFrom {X : mm_C} {RR : Nat → Nat → Option Nat} (hR : RRok RR) {v0 : Nat} {v1 : Nat} (t0 : tg v0 = 2) (t1 : tg v1 = 2) {S : fS} {r : fS} (h : f_X2_copyFrom v0 v1 S = some r) : mr X 0 mY_X2_copyFrom 0 (lv_args 0 [.ref v0, .ref v1]) [] (MM RR S) (none, MM RR r) := by
  unfold f_X2_copyFrom at h
  show mr X _ _ 0 [(0, .ref v0), (1, .ref v1)] [] (MM RR S) _
  refine mr_aload_n (pc' := 1) dX2_copyFrom_0 rfl rfl ?_
  refine mr_getR (pc' := 4) (ci := 2) (j := 0) (b := (v1 + 1)) hR dX2_copyFrom_1 rfl rfl t1 (by decide) (by decide) (by decide) rfl (ly2_0 t1).1 ?_
  refine mr_iconst (pc' := 5) (v := (0 : Int32)) dX2_copyFrom_4 rfl (by decide) ?_
  refine mr_aload_n (pc' := 6) dX2_copyFrom_5 rfl rfl ?_
  refine mr_getR (pc' := 9) (ci := 2) (j := 0) (b := (v0 + 1)) hR dX2_copyFrom_6 rfl rfl t0 (by decide) (by decide) (by decide) rfl (ly2_0 t0).1 ?_
  refine mr_iconst (pc' := 10) (v := (0 : Int32)) dX2_copyFrom_9 rfl (by decide) ?_
  refine mr_bipush (pc' := 12) (v := (12 : Int32)) dX2_copyFrom_10 rfl (by decide) ?_
  obtain ⟨S1, g2, h3⟩ := Option.bind_eq_some_iff.mp h
  refine mr_cpyI (pc' := 15) (n := 12) dX2_copyFrom_12 rfl rfl (by decide) ⟨(ly2_0 t1).2.1, Nat.le_of_eq (ly2_0 t1).2.2.symm⟩ ⟨(ly2_0 t0).2.1, Nat.le_of_eq (ly2_0 t0).2.2.symm⟩ (by decide) (by decide) ?_
  rw [Option.some.inj g2]
  refine mr_aload_n (pc' := 16) dX2_copyFrom_15 rfl rfl ?_
  refine mr_getR (pc' := 19) (ci := 2) (j := 1) (b := (v1 + 2)) hR dX2_copyFrom_16 rfl rfl t1 (by decide) (by decide) (by decide) rfl (ly2_1 t1).1 ?_
  refine mr_iconst (pc' := 20) (v := (0 : Int32)) dX2_copyFrom_19 rfl (by decide) ?_
  refine mr_aload_n (pc' := 21) dX2_copyFrom_20 rfl rfl ?_
  refine mr_getR (pc' := 24) (ci := 2) (j := 1) (b := (v0 + 2)) hR dX2_copyFrom_21 rfl rfl t0 (by decide) (by decide) (by decide) rfl (ly2_1 t0).1 ?_
  refine mr_iconst (pc' := 25) (v := (0 : Int32)) dX2_copyFrom_24 rfl (by decide) ?_
  refine mr_bipush (pc' := 27) (v := (12 : Int32)) dX2_copyFrom_25 rfl (by decide) ?_
  obtain ⟨S4, g5, h6⟩ := Option.bind_eq_some_iff.mp h3
  refine mr_cpyI (pc' := 30) (n := 12) dX2_copyFrom_27 rfl rfl (by decide) ⟨(ly2_1 t1).2.1, Nat.le_of_eq (ly2_1 t1).2.2.symm⟩ ⟨(ly2_1 t0).2.1, Nat.le_of_eq (ly2_1 t0).2.2.symm⟩ (by decide) (by decide) ?_
  rw [Option.some.inj g5]
  refine mr_aload_n (pc' := 31) dX2_copyFrom_30 rfl rfl ?_
  refine mr_getR (pc' := 34) (ci := 2) (j := 2) (b := (v1 + 3)) hR dX2_copyFrom_31 rfl rfl t1 (by decide) (by decide) (by decide) rfl (ly2_2 t1).1 ?_
  refine mr_iconst (pc' := 35) (v := (0 : Int32)) dX2_copyFrom_34 rfl (by decide) ?_
  refine mr_aload_n (pc' := 36) dX2_copyFrom_35 rfl rfl ?_
  refine mr_getR (pc' := 39) (ci := 2) (j := 2) (b := (v0 + 3)) hR dX2_copyFrom_36 rfl rfl t0 (by decide) (by decide) (by decide) rfl (ly2_2 t0).1 ?_
  refine mr_iconst (pc' := 40) (v := (0 : Int32)) dX2_copyFrom_39 rfl (by decide) ?_
  refine mr_bipush (pc' := 42) (v := (12 : Int32)) dX2_copyFrom_40 rfl (by decide) ?_
  obtain ⟨S7, g8, h9⟩ := Option.bind_eq_some_iff.mp h6
  refine mr_cpyI (pc' := 45) (n := 12) dX2_copyFrom_42 rfl rfl (by decide) ⟨(ly2_2 t1).2.1, Nat.le_of_eq (ly2_2 t1).2.2.symm⟩ ⟨(ly2_2 t0).2.1, Nat.le_of_eq (ly2_2 t0).2.2.symm⟩ (by decide) (by decide) ?_
  rw [Option.some.inj g8]
  refine mr_aload_n (pc' := 46) dX2_copyFrom_45 rfl rfl ?_
  refine mr_getR (pc' := 49) (ci := 2) (j := 3) (b := (v1 + 4)) hR dX2_copyFrom_46 rfl rfl t1 (by decide) (by decide) (by decide) rfl (ly2_3 t1).1 ?_
  refine mr_iconst (pc' := 50) (v := (0 : Int32)) dX2_copyFrom_49 rfl (by decide) ?_
  refine mr_aload_n (pc' := 51) dX2_copyFrom_50 rfl rfl ?_
  refine mr_getR (pc' := 54) (ci := 2) (j := 3) (b := (v0 + 4)) hR dX2_copyFrom_51 rfl rfl t0 (by decide) (by decide) (by decide) rfl (ly2_3 t0).1 ?_
  refine mr_iconst (pc' := 55) (v := (0 : Int32)) dX2_copyFrom_54 rfl (by decide) ?_
  refine mr_bipush (pc' := 57) (v := (12 : Int32)) dX2_copyFrom_55 rfl (by decide) ?_
  obtain ⟨S10, g11, h12⟩ := Option.bind_eq_some_iff.mp h9
  refine mr_cpyI (pc' := 60) (n := 12) dX2_copyFrom_57 rfl rfl (by decide) ⟨(ly2_3 t1).2.1, Nat.le_of_eq (ly2_3 t1).2.2.symm⟩ ⟨(ly2_3 t0).2.1, Nat.le_of_eq (ly2_3 t0).2.2.symm⟩ (by decide) (by decide) ?_
  rw [Option.some.inj g11]
  refine mr_aload_n (pc' := 61) dX2_copyFrom_60 rfl rfl ?_
  refine mr_aload_n (pc' := 62) dX2_copyFrom_61 rfl rfl ?_
  refine mr_getI (pc' := 65) (ci := 2) (j := 4) dX2_copyFrom_62 rfl rfl t1 (by decide) (by decide) rfl ?_
  obtain ⟨S13, g14, h15⟩ := Option.bind_eq_some_iff.mp h12
  refine mr_putI (pc' := 68) (ci := 2) (j := 4) dX2_copyFrom_65 rfl rfl t0 (by decide) (by decide) rfl rfl ?_
  rw [Option.some.inj g14]
  obtain rfl := Option.some.inj h15
  exact mr_return dX2_copyFrom_68 rfl
def f_X6_copyFrom (v0 : Nat) (v1 : Nat) (S : fS) : Option (fS) :=
  (f_X8_copyFrom (v0 + 1) (v1 + 1) S).bind fun q1 =>
  (f_X0_copyFrom (v0 + 8) (v1 + 8) q1).bind fun q4 =>
  (f_X2_copyFrom (v0 + 14) (v1 + 14) q4).bind fun q7 =>
  (some (pI q7 v0 3 (q7.1 v1 3))).bind fun S10 =>
  some S10
set_option maxHeartbeats 4000000 in
set_option maxRecDepth 100000 in
theorem ok_X6_copyFrom {X : mm_C} {RR : Nat → Nat → Option Nat} (hR : RRok RR) {v0 : Nat} {v1 : Nat} (t0 : tg v0 = 6) (t1 : tg v1 = 6) {S : fS} {r : fS} (h : f_X6_copyFrom v0 v1 S = some r) : mr X 1 mY_X6_copyFrom 0 (lv_args 0 [.ref v0, .ref v1]) [] (MM RR S) (none, MM RR r) := by
  unfold f_X6_copyFrom at h
  show mr X _ _ 0 [(0, .ref v0), (1, .ref v1)] [] (MM RR S) _
  refine mr_aload_n (pc' := 1) dX6_copyFrom_0 rfl rfl ?_
  refine mr_getR (pc' := 4) (ci := 6) (j := 0) (b := (v0 + 1)) hR dX6_copyFrom_1 rfl rfl t0 (by decide) (by decide) (by decide) rfl (ly6_0 t0).1 ?_
  refine mr_aload_n (pc' := 5) dX6_copyFrom_4 rfl rfl ?_
  refine mr_getR (pc' := 8) (ci := 6) (j := 0) (b := (v1 + 1)) hR dX6_copyFrom_5 rfl rfl t1 (by decide) (by decide) (by decide) rfl (ly6_0 t1).1 ?_
  obtain ⟨q1, g2, h3⟩ := Option.bind_eq_some_iff.mp h
  refine mr_cv (pc' := 11) (a := (v0 + 1)) (d1 := 0) dX6_copyFrom_8 rfl rfl rfl rfl rfl (ly6_0 t0).2.1 (by decide) rfl (by decide) (ok_X8_copyFrom hR (ly6_0 t0).2.1 (ly6_0 t1).2.1 g2) ?_
  show mr X _ _ 11 _ [] (MM RR q1) _
  refine mr_aload_n (pc' := 12) dX6_copyFrom_11 rfl rfl ?_
  refine mr_getR (pc' := 15) (ci := 6) (j := 1) (b := (v0 + 8)) hR dX6_copyFrom_12 rfl rfl t0 (by decide) (by decide) (by decide) rfl (ly6_1 t0).1 ?_
  refine mr_aload_n (pc' := 16) dX6_copyFrom_15 rfl rfl ?_
  refine mr_getR (pc' := 19) (ci := 6) (j := 1) (b := (v1 + 8)) hR dX6_copyFrom_16 rfl rfl t1 (by decide) (by decide) (by decide) rfl (ly6_1 t1).1 ?_
  obtain ⟨q4, g5, h6⟩ := Option.bind_eq_some_iff.mp h3
  refine mr_cv (pc' := 22) (a := (v0 + 8)) (d1 := 0) dX6_copyFrom_19 rfl rfl rfl rfl rfl (ly6_1 t0).2.1 (by decide) rfl (by decide) (ok_X0_copyFrom hR (ly6_1 t0).2.1 (ly6_1 t1).2.1 g5) ?_
  show mr X _ _ 22 _ [] (MM RR q4) _
  refine mr_aload_n (pc' := 23) dX6_copyFrom_22 rfl rfl ?_
  refine mr_getR (pc' := 26) (ci := 6) (j := 2) (b := (v0 + 14)) hR dX6_copyFrom_23 rfl rfl t0 (by decide) (by decide) (by decide) rfl (ly6_2 t0).1 ?_
  refine mr_aload_n (pc' := 27) dX6_copyFrom_26 rfl rfl ?_
  refine mr_getR (pc' := 30) (ci := 6) (j := 2) (b := (v1 + 14)) hR dX6_copyFrom_27 rfl rfl t1 (by decide) (by decide) (by decide) rfl (ly6_2 t1).1 ?_
  obtain ⟨q7, g8, h9⟩ := Option.bind_eq_some_iff.mp h6
  refine mr_cv (pc' := 33) (a := (v0 + 14)) (d1 := 0) dX6_copyFrom_30 rfl rfl rfl rfl rfl (ly6_2 t0).2.1 (by decide) rfl (by decide) (ok_X2_copyFrom hR (ly6_2 t0).2.1 (ly6_2 t1).2.1 g8) ?_
  show mr X _ _ 33 _ [] (MM RR q7) _
  refine mr_aload_n (pc' := 34) dX6_copyFrom_33 rfl rfl ?_
  refine mr_aload_n (pc' := 35) dX6_copyFrom_34 rfl rfl ?_
  refine mr_getI (pc' := 38) (ci := 6) (j := 3) dX6_copyFrom_35 rfl rfl t1 (by decide) (by decide) rfl ?_
  obtain ⟨S10, g11, h12⟩ := Option.bind_eq_some_iff.mp h9
  refine mr_putI (pc' := 41) (ci := 6) (j := 3) dX6_copyFrom_38 rfl rfl t0 (by decide) (by decide) rfl rfl ?_
  rw [Option.some.inj g11]
  obtain rfl := Option.some.inj h12
  exact mr_return dX6_copyFrom_41 rfl
def f_X10_image (v1 : Int32) (S : fS) : Option (Int32 × fS) :=
  (f_X10_isFrom v1 (0 : Int32) (3 : Int32) S).bind fun q1 =>
  if q1 = (0 : Int32) then (some ((-1 : Int32), S)) else
  ((gA22 v1).bind fun a5 =>
  (f_X6_copyFrom a5 3 S).bind fun q8 =>
  (gA22 v1).bind fun a11 =>
  (some (pI q8 a11 4 (1 : Int32))).bind fun S14 =>
  some ((S14.1 11 6), S14))
set_option maxHeartbeats 4000000 in
set_option maxRecDepth 100000 in
theorem ok_X10_image {X : mm_C} {RR : Nat → Nat → Option Nat} (hR : RRok RR) {v1 : Int32}  {S : fS} {r : Int32 × fS} (h : f_X10_image v1 S = some r) : mr X 2 mY_X10_image 0 (lv_args 0 [.ref 0, .int v1]) [] (MM RR S) (some (.int r.1), MM RR r.2) := by
  unfold f_X10_image at h
  show mr X _ _ 0 [(0, .ref 0), (1, .int v1)] [] (MM RR S) _
  refine mr_iload_n (pc' := 1) dX10_image_0 rfl rfl ?_
  refine mr_iconst (pc' := 2) (v := (0 : Int32)) dX10_image_1 rfl (by decide) ?_
  refine mr_iconst (pc' := 3) (v := (3 : Int32)) dX10_image_2 rfl (by decide) ?_
  obtain ⟨q1, g2, h3⟩ := Option.bind_eq_some_iff.mp h
  refine mr_cs (pc' := 6) (d1 := 0) dX10_image_3 rfl rfl rfl rfl (by decide) (Nat.le_of_ble_eq_true rfl) rfl rfl rfl (by decide) (ok_X10_isFrom hR  g2) ?_
  show mr X _ _ 6 _ [.int q1] (MM RR S) _
  by_cases c4 : q1 = (0 : Int32)
  · rw [if_pos c4] at h3
    refine mr_if_ne_f (t := 11) (pc' := 9) dX10_image_6 (by decide) rfl (not_not_intro c4) ?_
    refine mr_iconst (pc' := 10) (v := (-1 : Int32)) dX10_image_9 rfl (by decide) ?_
    obtain rfl := Option.some.inj h3
    exact mr_ireturn dX10_image_10 rfl
  · rw [if_neg c4] at h3
    refine mr_if_ne_t (t := 11) dX10_image_6 (by decide) c4 ?_
    refine mr_aload_n (pc' := 12) dX10_image_11 rfl rfl ?_
    refine mr_getR (pc' := 15) (ci := 10) (j := 2) (b := 22) hR dX10_image_12 rfl rfl rfl (by decide) (by decide) (by decide) rfl rfl ?_
    refine mr_iload_n (pc' := 16) dX10_image_15 rfl rfl ?_
    obtain ⟨a5, g6, h7⟩ := Option.bind_eq_some_iff.mp h3
    refine mr_aald22 (pc' := 17) hR dX10_image_16 rfl g6 ?_
    refine mr_aload_n (pc' := 18) dX10_image_17 rfl rfl ?_
    refine mr_getR (pc' := 21) (ci := 10) (j := 1) (b := 3) hR dX10_image_18 rfl rfl rfl (by decide) (by decide) (by decide) rfl rfl ?_
    obtain ⟨q8, g9, h10⟩ := Option.bind_eq_some_iff.mp h7
    refine mr_cv (pc' := 24) (a := a5) (d1 := 1) dX10_image_21 rfl rfl rfl rfl rfl (gA22_tg g6) (by decide) rfl (by decide) (ok_X6_copyFrom hR (gA22_tg g6) rfl g9) ?_
    show mr X _ _ 24 _ [] (MM RR q8) _
    refine mr_aload_n (pc' := 25) dX10_image_24 rfl rfl ?_
    refine mr_getR (pc' := 28) (ci := 10) (j := 2) (b := 22) hR dX10_image_25 rfl rfl rfl (by decide) (by decide) (by decide) rfl rfl ?_
    refine mr_iload_n (pc' := 29) dX10_image_28 rfl rfl ?_
    obtain ⟨a11, g12, h13⟩ := Option.bind_eq_some_iff.mp h10
    refine mr_aald22 (pc' := 30) hR dX10_image_29 rfl g12 ?_
    refine mr_iconst (pc' := 31) (v := (1 : Int32)) dX10_image_30 rfl (by decide) ?_
    obtain ⟨S14, g15, h16⟩ := Option.bind_eq_some_iff.mp h13
    refine mr_putZ (by decide) (pc' := 34) (ci := 6) (j := 4) dX10_image_31 rfl rfl (gA22_tg g12) (by decide) (by decide) rfl rfl ?_
    rw [Option.some.inj g15]
    refine mr_aload_n (pc' := 35) dX10_image_34 rfl rfl ?_
    refine mr_getR (pc' := 38) (ci := 10) (j := 1) (b := 3) hR dX10_image_35 rfl rfl rfl (by decide) (by decide) (by decide) rfl rfl ?_
    refine mr_getR (pc' := 41) (ci := 6) (j := 1) (b := 11) hR dX10_image_38 rfl rfl rfl (by decide) (by decide) (by decide) rfl rfl ?_
    refine mr_getI (pc' := 44) (ci := 0) (j := 6) dX10_image_41 rfl rfl rfl (by decide) (by decide) rfl ?_
    obtain rfl := Option.some.inj h16
    exact mr_ireturn dX10_image_44 rfl
def f_X10_back (v1 : Int32) (S : fS) : Option (Int32 × fS) :=
  (f_X10_isFrom v1 (0 : Int32) (3 : Int32) S).bind fun q1 =>
  if q1 = (0 : Int32) then (some ((-1 : Int32), S)) else
  ((gA22 v1).bind fun a5 =>
  if (S.1 a5 4) = (0 : Int32) then (some ((-1 : Int32), S)) else
  ((gA22 v1).bind fun a9 =>
  (f_X6_copyFrom 3 a9 S).bind fun q12 =>
  some ((q12.1 11 6), q12)))
set_option maxHeartbeats 4000000 in
set_option maxRecDepth 100000 in
theorem ok_X10_back {X : mm_C} {RR : Nat → Nat → Option Nat} (hR : RRok RR) {v1 : Int32}  {S : fS} {r : Int32 × fS} (h : f_X10_back v1 S = some r) : mr X 2 mY_X10_back 0 (lv_args 0 [.ref 0, .int v1]) [] (MM RR S) (some (.int r.1), MM RR r.2) := by
  unfold f_X10_back at h
  show mr X _ _ 0 [(0, .ref 0), (1, .int v1)] [] (MM RR S) _
  refine mr_iload_n (pc' := 1) dX10_back_0 rfl rfl ?_
  refine mr_iconst (pc' := 2) (v := (0 : Int32)) dX10_back_1 rfl (by decide) ?_
  refine mr_iconst (pc' := 3) (v := (3 : Int32)) dX10_back_2 rfl (by decide) ?_
  obtain ⟨q1, g2, h3⟩ := Option.bind_eq_some_iff.mp h
  refine mr_cs (pc' := 6) (d1 := 0) dX10_back_3 rfl rfl rfl rfl (by decide) (Nat.le_of_ble_eq_true rfl) rfl rfl rfl (by decide) (ok_X10_isFrom hR  g2) ?_
  show mr X _ _ 6 _ [.int q1] (MM RR S) _
  by_cases c4 : q1 = (0 : Int32)
  · rw [if_pos c4] at h3
    refine mr_if_eq_t (t := 21) dX10_back_6 (by decide) c4 ?_
    refine mr_iconst (pc' := 22) (v := (-1 : Int32)) dX10_back_21 rfl (by decide) ?_
    obtain rfl := Option.some.inj h3
    exact mr_ireturn dX10_back_22 rfl
  · rw [if_neg c4] at h3
    refine mr_if_eq_f (t := 21) (pc' := 9) dX10_back_6 (by decide) rfl c4 ?_
    refine mr_aload_n (pc' := 10) dX10_back_9 rfl rfl ?_
    refine mr_getR (pc' := 13) (ci := 10) (j := 2) (b := 22) hR dX10_back_10 rfl rfl rfl (by decide) (by decide) (by decide) rfl rfl ?_
    refine mr_iload_n (pc' := 14) dX10_back_13 rfl rfl ?_
    obtain ⟨a5, g6, h7⟩ := Option.bind_eq_some_iff.mp h3
    refine mr_aald22 (pc' := 15) hR dX10_back_14 rfl g6 ?_
    refine mr_getI (pc' := 18) (ci := 6) (j := 4) dX10_back_15 rfl rfl (gA22_tg g6) (by decide) (by decide) rfl ?_
    by_cases c8 : (S.1 a5 4) = (0 : Int32)
    · rw [if_pos c8] at h7
      refine mr_if_ne_f (t := 23) (pc' := 21) dX10_back_18 (by decide) rfl (not_not_intro c8) ?_
      refine mr_iconst (pc' := 22) (v := (-1 : Int32)) dX10_back_21 rfl (by decide) ?_
      obtain rfl := Option.some.inj h7
      exact mr_ireturn dX10_back_22 rfl
    · rw [if_neg c8] at h7
      refine mr_if_ne_t (t := 23) dX10_back_18 (by decide) c8 ?_
      refine mr_aload_n (pc' := 24) dX10_back_23 rfl rfl ?_
      refine mr_getR (pc' := 27) (ci := 10) (j := 1) (b := 3) hR dX10_back_24 rfl rfl rfl (by decide) (by decide) (by decide) rfl rfl ?_
      refine mr_aload_n (pc' := 28) dX10_back_27 rfl rfl ?_
      refine mr_getR (pc' := 31) (ci := 10) (j := 2) (b := 22) hR dX10_back_28 rfl rfl rfl (by decide) (by decide) (by decide) rfl rfl ?_
      refine mr_iload_n (pc' := 32) dX10_back_31 rfl rfl ?_
      obtain ⟨a9, g10, h11⟩ := Option.bind_eq_some_iff.mp h7
      refine mr_aald22 (pc' := 33) hR dX10_back_32 rfl g10 ?_
      obtain ⟨q12, g13, h14⟩ := Option.bind_eq_some_iff.mp h11
      refine mr_cv (pc' := 36) (a := 3) (d1 := 1) dX10_back_33 rfl rfl rfl rfl rfl rfl (by decide) rfl (by decide) (ok_X6_copyFrom hR rfl (gA22_tg g10) g13) ?_
      show mr X _ _ 36 _ [] (MM RR q12) _
      refine mr_aload_n (pc' := 37) dX10_back_36 rfl rfl ?_
      refine mr_getR (pc' := 40) (ci := 10) (j := 1) (b := 3) hR dX10_back_37 rfl rfl rfl (by decide) (by decide) (by decide) rfl rfl ?_
      refine mr_getR (pc' := 43) (ci := 6) (j := 1) (b := 11) hR dX10_back_40 rfl rfl rfl (by decide) (by decide) (by decide) rfl rfl ?_
      refine mr_getI (pc' := 46) (ci := 0) (j := 6) dX10_back_43 rfl rfl rfl (by decide) (by decide) rfl ?_
      obtain rfl := Option.some.inj h14
      exact mr_ireturn dX10_back_46 rfl
def lp_X11_four_3 (p1 : Int32) (K : fS → Option (fS)) : Nat → Int32 → fS → Option (fS)
  | 0, _, _ => none
  | n + 1, p2, S0 =>
    if p2 < (0 : Int32) then (K S0) else
    ((sI S0 146 400 (S0.1 145 1) (Int8.toInt32 (Int32.toInt8 (Int8.toInt32 (Int32.toInt8 (p1 >>> (p2 &&& 31))))))).bind fun S2 =>
    (some (pI S2 145 1 ((S2.1 145 1) + (1 : Int32)))).bind fun S5 =>
    lp_X11_four_3 p1 K n (p2 + (-8 : Int32)) S5)
set_option maxHeartbeats 4000000 in
set_option maxRecDepth 100000 in
theorem ok_lp_X11_four_3 {X : mm_C} {RR : Nat → Nat → Option Nat} (hR : RRok RR) {p1 : Int32}  {K : fS → Option (fS)} {r : fS} (hK : ∀ (Sk : fS), K Sk = some r → mr X 0 mY_X11_four 36 [] [] (MM RR Sk) (none, MM RR r)) : ∀ (n : Nat) (p2 : Int32) (S0 : fS), lp_X11_four_3 p1 K n p2 S0 = some r → mr X 0 mY_X11_four 3 [(0, .ref 145), (1, .int p1), (2, .int p2)] [] (MM RR S0) (none, MM RR r) := by
  intro n
  induction n with
  | zero => intro p2 S0 h; exact mm_no h
  | succ n ih =>
    intro p2 S0 h
    unfold lp_X11_four_3 at h
    refine mr_iload_n (pc' := 4) dX11_four_3 rfl rfl ?_
    by_cases c1 : p2 < (0 : Int32)
    · rw [if_pos c1] at h
      refine mr_if_lt_t (t := 36) dX11_four_4 (by decide) c1 ?_
      exact mr_sub [] trivial rfl (hK _  h)
    · rw [if_neg c1] at h
      refine mr_if_lt_f (t := 36) (pc' := 7) dX11_four_4 (by decide) rfl c1 ?_
      refine mr_aload_n (pc' := 8) dX11_four_7 rfl rfl ?_
      refine mr_getR (pc' := 11) (ci := 11) (j := 0) (b := 146) hR dX11_four_8 rfl rfl rfl (by decide) (by decide) (by decide) rfl rfl ?_
      refine mr_aload_n (pc' := 12) dX11_four_11 rfl rfl ?_
      refine mr_getI (pc' := 15) (ci := 11) (j := 1) dX11_four_12 rfl rfl rfl (by decide) (by decide) rfl ?_
      refine mr_iload_n (pc' := 16) dX11_four_15 rfl rfl ?_
      refine mr_iload_n (pc' := 17) dX11_four_16 rfl rfl ?_
      refine mr_ishr (pc' := 18) dX11_four_17 rfl ?_
      refine mr_i2b (pc' := 19) dX11_four_18 rfl ?_
      obtain ⟨S2, g3, h4⟩ := Option.bind_eq_some_iff.mp h
      refine mr_bast (pc' := 20) dX11_four_19 rfl rfl rfl g3 ?_
      refine mr_aload_n (pc' := 21) dX11_four_20 rfl rfl ?_
      refine mr_dup_ref (pc' := 22) dX11_four_21 rfl ?_
      refine mr_getI (pc' := 25) (ci := 11) (j := 1) dX11_four_22 rfl rfl rfl (by decide) (by decide) rfl ?_
      refine mr_iconst (pc' := 26) (v := (1 : Int32)) dX11_four_25 rfl (by decide) ?_
      refine mr_iadd (pc' := 27) dX11_four_26 rfl ?_
      obtain ⟨S5, g6, h7⟩ := Option.bind_eq_some_iff.mp h4
      refine mr_putI (pc' := 30) (ci := 11) (j := 1) dX11_four_27 rfl rfl rfl (by decide) (by decide) rfl rfl ?_
      rw [Option.some.inj g6]
      refine mr_iinc (pc' := 33) (x' := (p2 + (-8 : Int32))) (lv' := [(2, .int (p2 + (-8 : Int32))), (0, .ref 145), (1, .int p1)]) dX11_four_30 rfl (by decide) rfl rfl rfl ?_
      refine mr_goto (t := 3) dX11_four_33 (by decide) ?_
      exact mr_sub [(0, .ref 145), (1, .int p1), (2, .int (p2 + (-8 : Int32)))] ⟨rfl, rfl, rfl, trivial⟩ rfl (ih _ _  h7)
def f_X11_four (v1 : Int32) (S : fS) : Option (fS) :=
  lp_X11_four_3 v1 (fun S8 => some S8) FU (24 : Int32) S
set_option maxHeartbeats 4000000 in
set_option maxRecDepth 100000 in
theorem ok_X11_four {X : mm_C} {RR : Nat → Nat → Option Nat} (hR : RRok RR) {v1 : Int32}  {S : fS} {r : fS} (h : f_X11_four v1 S = some r) : mr X 0 mY_X11_four 0 (lv_args 0 [.ref 145, .int v1]) [] (MM RR S) (none, MM RR r) := by
  unfold f_X11_four at h
  show mr X _ _ 0 [(0, .ref 145), (1, .int v1)] [] (MM RR S) _
  refine mr_bipush (pc' := 2) (v := (24 : Int32)) dX11_four_0 rfl (by decide) ?_
  refine mr_istore_n (pc' := 3) (lv' := [(2, .int (24 : Int32)), (0, .ref 145), (1, .int v1)]) dX11_four_2 rfl (by decide) rfl ?_
  refine mr_sub [(0, .ref 145), (1, .int v1), (2, .int (24 : Int32))] ⟨rfl, rfl, rfl, trivial⟩ rfl ?_
  refine ok_lp_X11_four_3 hR  (fun S8 h9 => ?_) FU _ _  h
  obtain rfl := Option.some.inj h9
  exact mr_return dX11_four_36 rfl
def f_X11_feed (v1 : Int32) (v2 : Int32) (v3 : Int32) (v4 : Int32) (v5 : Int32) (S : fS) : Option (Int32 × fS) :=
  if ((S.1 145 1) + (20 : Int32)) ≤ (400 : Int32) then ((f_X11_four v1 S).bind fun q2 =>
  (f_X11_four v2 q2).bind fun q5 =>
  (f_X11_four v3 q5).bind fun q8 =>
  (f_X11_four v4 q8).bind fun q11 =>
  (f_X11_four v5 q11).bind fun q14 =>
  some ((q14.1 145 1), q14)) else
  (some ((-1 : Int32), S))
set_option maxHeartbeats 4000000 in
set_option maxRecDepth 100000 in
theorem ok_X11_feed {X : mm_C} {RR : Nat → Nat → Option Nat} (hR : RRok RR) {v1 : Int32} {v2 : Int32} {v3 : Int32} {v4 : Int32} {v5 : Int32}  {S : fS} {r : Int32 × fS} (h : f_X11_feed v1 v2 v3 v4 v5 S = some r) : mr X 1 mY_X11_feed 0 (lv_args 0 [.ref 145, .int v1, .int v2, .int v3, .int v4, .int v5]) [] (MM RR S) (some (.int r.1), MM RR r.2) := by
  unfold f_X11_feed at h
  show mr X _ _ 0 [(0, .ref 145), (1, .int v1), (2, .int v2), (3, .int v3), (4, .int v4), (5, .int v5)] [] (MM RR S) _
  refine mr_aload_n (pc' := 1) dX11_feed_0 rfl rfl ?_
  refine mr_getI (pc' := 4) (ci := 11) (j := 1) dX11_feed_1 rfl rfl rfl (by decide) (by decide) rfl ?_
  refine mr_bipush (pc' := 6) (v := (20 : Int32)) dX11_feed_4 rfl (by decide) ?_
  refine mr_iadd (pc' := 7) dX11_feed_6 rfl ?_
  refine mr_sipush (pc' := 10) (v := (400 : Int32)) dX11_feed_7 rfl (by decide) ?_
  by_cases c1 : ((S.1 145 1) + (20 : Int32)) ≤ (400 : Int32)
  · rw [if_pos c1] at h
    refine mr_icmp_le_t (t := 15) dX11_feed_10 (by decide) c1 ?_
    refine mr_aload_n (pc' := 16) dX11_feed_15 rfl rfl ?_
    refine mr_iload_n (pc' := 17) dX11_feed_16 rfl rfl ?_
    obtain ⟨q2, g3, h4⟩ := Option.bind_eq_some_iff.mp h
    refine mr_cv (pc' := 20) (a := 145) (d1 := 0) dX11_feed_17 rfl rfl rfl rfl rfl rfl (by decide) rfl (by decide) (ok_X11_four hR  g3) ?_
    show mr X _ _ 20 _ [] (MM RR q2) _
    refine mr_aload_n (pc' := 21) dX11_feed_20 rfl rfl ?_
    refine mr_iload_n (pc' := 22) dX11_feed_21 rfl rfl ?_
    obtain ⟨q5, g6, h7⟩ := Option.bind_eq_some_iff.mp h4
    refine mr_cv (pc' := 25) (a := 145) (d1 := 0) dX11_feed_22 rfl rfl rfl rfl rfl rfl (by decide) rfl (by decide) (ok_X11_four hR  g6) ?_
    show mr X _ _ 25 _ [] (MM RR q5) _
    refine mr_aload_n (pc' := 26) dX11_feed_25 rfl rfl ?_
    refine mr_iload_n (pc' := 27) dX11_feed_26 rfl rfl ?_
    obtain ⟨q8, g9, h10⟩ := Option.bind_eq_some_iff.mp h7
    refine mr_cv (pc' := 30) (a := 145) (d1 := 0) dX11_feed_27 rfl rfl rfl rfl rfl rfl (by decide) rfl (by decide) (ok_X11_four hR  g9) ?_
    show mr X _ _ 30 _ [] (MM RR q8) _
    refine mr_aload_n (pc' := 31) dX11_feed_30 rfl rfl ?_
    refine mr_iload (pc' := 33) dX11_feed_31 rfl rfl ?_
    obtain ⟨q11, g12, h13⟩ := Option.bind_eq_some_iff.mp h10
    refine mr_cv (pc' := 36) (a := 145) (d1 := 0) dX11_feed_33 rfl rfl rfl rfl rfl rfl (by decide) rfl (by decide) (ok_X11_four hR  g12) ?_
    show mr X _ _ 36 _ [] (MM RR q11) _
    refine mr_aload_n (pc' := 37) dX11_feed_36 rfl rfl ?_
    refine mr_iload (pc' := 39) dX11_feed_37 rfl rfl ?_
    obtain ⟨q14, g15, h16⟩ := Option.bind_eq_some_iff.mp h13
    refine mr_cv (pc' := 42) (a := 145) (d1 := 0) dX11_feed_39 rfl rfl rfl rfl rfl rfl (by decide) rfl (by decide) (ok_X11_four hR  g15) ?_
    show mr X _ _ 42 _ [] (MM RR q14) _
    refine mr_aload_n (pc' := 43) dX11_feed_42 rfl rfl ?_
    refine mr_getI (pc' := 46) (ci := 11) (j := 1) dX11_feed_43 rfl rfl rfl (by decide) (by decide) rfl ?_
    obtain rfl := Option.some.inj h16
    exact mr_ireturn dX11_feed_46 rfl
  · rw [if_neg c1] at h
    refine mr_icmp_le_f (t := 15) (pc' := 13) dX11_feed_10 (by decide) rfl c1 ?_
    refine mr_iconst (pc' := 14) (v := (-1 : Int32)) dX11_feed_13 rfl (by decide) ?_
    obtain rfl := Option.some.inj h
    exact mr_ireturn dX11_feed_14 rfl
def f_X11_end (v1 : Int32) (S : fS) : Option (Int32 × fS) :=
  if v1 < (0 : Int32) then (some ((-1 : Int32), S)) else
  (if v1 ≤ (S.1 145 1) then ((some (pI S 145 1 v1)).bind fun S3 =>
  some (v1, S3)) else
  (some ((-1 : Int32), S)))
set_option maxHeartbeats 4000000 in
set_option maxRecDepth 100000 in
theorem ok_X11_end {X : mm_C} {RR : Nat → Nat → Option Nat} (hR : RRok RR) {v1 : Int32}  {S : fS} {r : Int32 × fS} (h : f_X11_end v1 S = some r) : mr X 0 mY_X11_end 0 (lv_args 0 [.ref 145, .int v1]) [] (MM RR S) (some (.int r.1), MM RR r.2) := by
  unfold f_X11_end at h
  show mr X _ _ 0 [(0, .ref 145), (1, .int v1)] [] (MM RR S) _
  refine mr_iload_n (pc' := 1) dX11_end_0 rfl rfl ?_
  by_cases c1 : v1 < (0 : Int32)
  · rw [if_pos c1] at h
    refine mr_if_lt_t (t := 12) dX11_end_1 (by decide) c1 ?_
    refine mr_iconst (pc' := 13) (v := (-1 : Int32)) dX11_end_12 rfl (by decide) ?_
    obtain rfl := Option.some.inj h
    exact mr_ireturn dX11_end_13 rfl
  · rw [if_neg c1] at h
    refine mr_if_lt_f (t := 12) (pc' := 4) dX11_end_1 (by decide) rfl c1 ?_
    refine mr_iload_n (pc' := 5) dX11_end_4 rfl rfl ?_
    refine mr_aload_n (pc' := 6) dX11_end_5 rfl rfl ?_
    refine mr_getI (pc' := 9) (ci := 11) (j := 1) dX11_end_6 rfl rfl rfl (by decide) (by decide) rfl ?_
    by_cases c2 : v1 ≤ (S.1 145 1)
    · rw [if_pos c2] at h
      refine mr_icmp_le_t (t := 14) dX11_end_9 (by decide) c2 ?_
      refine mr_aload_n (pc' := 15) dX11_end_14 rfl rfl ?_
      refine mr_iload_n (pc' := 16) dX11_end_15 rfl rfl ?_
      obtain ⟨S3, g4, h5⟩ := Option.bind_eq_some_iff.mp h
      refine mr_putI (pc' := 19) (ci := 11) (j := 1) dX11_end_16 rfl rfl rfl (by decide) (by decide) rfl rfl ?_
      rw [Option.some.inj g4]
      refine mr_iload_n (pc' := 20) dX11_end_19 rfl rfl ?_
      obtain rfl := Option.some.inj h5
      exact mr_ireturn dX11_end_20 rfl
    · rw [if_neg c2] at h
      refine mr_icmp_le_f (t := 14) (pc' := 12) dX11_end_9 (by decide) rfl c2 ?_
      refine mr_iconst (pc' := 13) (v := (-1 : Int32)) dX11_end_12 rfl (by decide) ?_
      obtain rfl := Option.some.inj h
      exact mr_ireturn dX11_end_13 rfl
def lp_X11_see_0  (K : fS → Option (Int32 × fS)) : Nat → fS → Option (Int32 × fS)
  | 0, _ => none
  | n + 1, S0 =>
    if (S0.1 145 1) ≤ (S0.1 145 13) then (K S0) else
    ((gI S0 146 400 (S0.1 145 13)).bind fun a2 =>
    if a2 = (32 : Int32) then ((some (pI S0 145 13 ((S0.1 145 13) + (1 : Int32)))).bind fun S6 =>
    lp_X11_see_0  K n  S6) else
    (K S0))
set_option maxHeartbeats 4000000 in
set_option maxRecDepth 100000 in
theorem ok_lp_X11_see_0 {X : mm_C} {RR : Nat → Nat → Option Nat} (hR : RRok RR)   {K : fS → Option (Int32 × fS)} {r : Int32 × fS} (hK : ∀ (Sk : fS), K Sk = some r → mr X 0 mY_X11_see 38 [(0, .ref 145)] [] (MM RR Sk) (some (.int r.1), MM RR r.2)) : ∀ (n : Nat) (S0 : fS), lp_X11_see_0  K n S0 = some r → mr X 0 mY_X11_see 0 [(0, .ref 145)] [] (MM RR S0) (some (.int r.1), MM RR r.2) := by
  intro n
  induction n with
  | zero => intro S0 h; exact mm_no h
  | succ n ih =>
    intro S0 h
    unfold lp_X11_see_0 at h
    refine mr_aload_n (pc' := 1) dX11_see_0 rfl rfl ?_
    refine mr_getI (pc' := 4) (ci := 11) (j := 13) dX11_see_1 rfl rfl rfl (by decide) (by decide) rfl ?_
    refine mr_aload_n (pc' := 5) dX11_see_4 rfl rfl ?_
    refine mr_getI (pc' := 8) (ci := 11) (j := 1) dX11_see_5 rfl rfl rfl (by decide) (by decide) rfl ?_
    by_cases c1 : (S0.1 145 1) ≤ (S0.1 145 13)
    · rw [if_pos c1] at h
      refine mr_icmp_ge_t (t := 38) dX11_see_8 (by decide) c1 ?_
      exact mr_sub [(0, .ref 145)] ⟨rfl, trivial⟩ rfl (hK _  h)
    · rw [if_neg c1] at h
      refine mr_icmp_ge_f (t := 38) (pc' := 11) dX11_see_8 (by decide) rfl c1 ?_
      refine mr_aload_n (pc' := 12) dX11_see_11 rfl rfl ?_
      refine mr_getR (pc' := 15) (ci := 11) (j := 0) (b := 146) hR dX11_see_12 rfl rfl rfl (by decide) (by decide) (by decide) rfl rfl ?_
      refine mr_aload_n (pc' := 16) dX11_see_15 rfl rfl ?_
      refine mr_getI (pc' := 19) (ci := 11) (j := 13) dX11_see_16 rfl rfl rfl (by decide) (by decide) rfl ?_
      obtain ⟨a2, g3, h4⟩ := Option.bind_eq_some_iff.mp h
      refine mr_bald (pc' := 20) dX11_see_19 rfl (Or.inl rfl) rfl g3 ?_
      refine mr_bipush (pc' := 22) (v := (32 : Int32)) dX11_see_20 rfl (by decide) ?_
      by_cases c5 : a2 = (32 : Int32)
      · rw [if_pos c5] at h4
        refine mr_icmp_ne_f (t := 38) (pc' := 25) dX11_see_22 (by decide) rfl (not_not_intro c5) ?_
        refine mr_aload_n (pc' := 26) dX11_see_25 rfl rfl ?_
        refine mr_dup_ref (pc' := 27) dX11_see_26 rfl ?_
        refine mr_getI (pc' := 30) (ci := 11) (j := 13) dX11_see_27 rfl rfl rfl (by decide) (by decide) rfl ?_
        refine mr_iconst (pc' := 31) (v := (1 : Int32)) dX11_see_30 rfl (by decide) ?_
        refine mr_iadd (pc' := 32) dX11_see_31 rfl ?_
        obtain ⟨S6, g7, h8⟩ := Option.bind_eq_some_iff.mp h4
        refine mr_putI (pc' := 35) (ci := 11) (j := 13) dX11_see_32 rfl rfl rfl (by decide) (by decide) rfl rfl ?_
        rw [Option.some.inj g7]
        refine mr_goto (t := 0) dX11_see_35 (by decide) ?_
        exact mr_sub [(0, .ref 145)] ⟨rfl, trivial⟩ rfl (ih _  h8)
      · rw [if_neg c5] at h4
        refine mr_icmp_ne_t (t := 38) dX11_see_22 (by decide) c5 ?_
        exact mr_sub [(0, .ref 145)] ⟨rfl, trivial⟩ rfl (hK _  h4)
def f_X11_see  (S : fS) : Option (Int32 × fS) :=
  lp_X11_see_0  (fun S9 => if (S9.1 145 1) ≤ (S9.1 145 13) then (some ((-1 : Int32), S9)) else
  ((gI S9 146 400 (S9.1 145 13)).bind fun a12 =>
  some ((a12 &&& (255 : Int32)), S9))) FU  S
set_option maxHeartbeats 4000000 in
set_option maxRecDepth 100000 in
theorem ok_X11_see {X : mm_C} {RR : Nat → Nat → Option Nat} (hR : RRok RR)   {S : fS} {r : Int32 × fS} (h : f_X11_see  S = some r) : mr X 0 mY_X11_see 0 (lv_args 0 [.ref 145]) [] (MM RR S) (some (.int r.1), MM RR r.2) := by
  unfold f_X11_see at h
  show mr X _ _ 0 [(0, .ref 145)] [] (MM RR S) _
  refine mr_sub [(0, .ref 145)] ⟨rfl, trivial⟩ rfl ?_
  refine ok_lp_X11_see_0 hR  (fun S9 h10 => ?_) FU _  h
  refine mr_aload_n (pc' := 39) dX11_see_38 rfl rfl ?_
  refine mr_getI (pc' := 42) (ci := 11) (j := 13) dX11_see_39 rfl rfl rfl (by decide) (by decide) rfl ?_
  refine mr_aload_n (pc' := 43) dX11_see_42 rfl rfl ?_
  refine mr_getI (pc' := 46) (ci := 11) (j := 1) dX11_see_43 rfl rfl rfl (by decide) (by decide) rfl ?_
  by_cases c11 : (S9.1 145 1) ≤ (S9.1 145 13)
  · rw [if_pos c11] at h10
    refine mr_icmp_ge_t (t := 65) dX11_see_46 (by decide) c11 ?_
    refine mr_iconst (pc' := 66) (v := (-1 : Int32)) dX11_see_65 rfl (by decide) ?_
    obtain rfl := Option.some.inj h10
    exact mr_ireturn dX11_see_66 rfl
  · rw [if_neg c11] at h10
    refine mr_icmp_ge_f (t := 65) (pc' := 49) dX11_see_46 (by decide) rfl c11 ?_
    refine mr_aload_n (pc' := 50) dX11_see_49 rfl rfl ?_
    refine mr_getR (pc' := 53) (ci := 11) (j := 0) (b := 146) hR dX11_see_50 rfl rfl rfl (by decide) (by decide) (by decide) rfl rfl ?_
    refine mr_aload_n (pc' := 54) dX11_see_53 rfl rfl ?_
    refine mr_getI (pc' := 57) (ci := 11) (j := 13) dX11_see_54 rfl rfl rfl (by decide) (by decide) rfl ?_
    obtain ⟨a12, g13, h14⟩ := Option.bind_eq_some_iff.mp h10
    refine mr_bald (pc' := 58) dX11_see_57 rfl (Or.inl rfl) rfl g13 ?_
    refine mr_sipush (pc' := 61) (v := (255 : Int32)) dX11_see_58 rfl (by decide) ?_
    refine mr_iand (pc' := 62) dX11_see_61 rfl ?_
    refine mr_goto (t := 66) dX11_see_62 (by decide) ?_
    obtain rfl := Option.some.inj h14
    exact mr_ireturn dX11_see_66 rfl
def f_X11_isLetter (v1 : Int32) (S : fS) : Option (Int32) :=
  if (S.1 145 1) ≤ v1 then (some (0 : Int32)) else
  ((gI S 146 400 v1).bind fun a2 =>
  if a2 < (97 : Int32) then (some (0 : Int32)) else
  ((gI S 146 400 v1).bind fun a6 =>
  if (122 : Int32) < a6 then (some (0 : Int32)) else
  (some (1 : Int32))))
set_option maxHeartbeats 4000000 in
set_option maxRecDepth 100000 in
theorem ok_X11_isLetter {X : mm_C} {RR : Nat → Nat → Option Nat} (hR : RRok RR) {v1 : Int32}  {S : fS} {r : Int32} (h : f_X11_isLetter v1 S = some r) : mr X 0 mY_X11_isLetter 0 (lv_args 0 [.ref 145, .int v1]) [] (MM RR S) (some (.int r), MM RR S) := by
  unfold f_X11_isLetter at h
  show mr X _ _ 0 [(0, .ref 145), (1, .int v1)] [] (MM RR S) _
  refine mr_iload_n (pc' := 1) dX11_isLetter_0 rfl rfl ?_
  refine mr_aload_n (pc' := 2) dX11_isLetter_1 rfl rfl ?_
  refine mr_getI (pc' := 5) (ci := 11) (j := 1) dX11_isLetter_2 rfl rfl rfl (by decide) (by decide) rfl ?_
  by_cases c1 : (S.1 145 1) ≤ v1
  · rw [if_pos c1] at h
    refine mr_icmp_ge_t (t := 34) dX11_isLetter_5 (by decide) c1 ?_
    refine mr_iconst (pc' := 35) (v := (0 : Int32)) dX11_isLetter_34 rfl (by decide) ?_
    obtain rfl := Option.some.inj h
    exact mr_zreturn dX11_isLetter_35 rfl (by decide)
  · rw [if_neg c1] at h
    refine mr_icmp_ge_f (t := 34) (pc' := 8) dX11_isLetter_5 (by decide) rfl c1 ?_
    refine mr_aload_n (pc' := 9) dX11_isLetter_8 rfl rfl ?_
    refine mr_getR (pc' := 12) (ci := 11) (j := 0) (b := 146) hR dX11_isLetter_9 rfl rfl rfl (by decide) (by decide) (by decide) rfl rfl ?_
    refine mr_iload_n (pc' := 13) dX11_isLetter_12 rfl rfl ?_
    obtain ⟨a2, g3, h4⟩ := Option.bind_eq_some_iff.mp h
    refine mr_bald (pc' := 14) dX11_isLetter_13 rfl (Or.inl rfl) rfl g3 ?_
    refine mr_bipush (pc' := 16) (v := (97 : Int32)) dX11_isLetter_14 rfl (by decide) ?_
    by_cases c5 : a2 < (97 : Int32)
    · rw [if_pos c5] at h4
      refine mr_icmp_lt_t (t := 34) dX11_isLetter_16 (by decide) c5 ?_
      refine mr_iconst (pc' := 35) (v := (0 : Int32)) dX11_isLetter_34 rfl (by decide) ?_
      obtain rfl := Option.some.inj h4
      exact mr_zreturn dX11_isLetter_35 rfl (by decide)
    · rw [if_neg c5] at h4
      refine mr_icmp_lt_f (t := 34) (pc' := 19) dX11_isLetter_16 (by decide) rfl c5 ?_
      refine mr_aload_n (pc' := 20) dX11_isLetter_19 rfl rfl ?_
      refine mr_getR (pc' := 23) (ci := 11) (j := 0) (b := 146) hR dX11_isLetter_20 rfl rfl rfl (by decide) (by decide) (by decide) rfl rfl ?_
      refine mr_iload_n (pc' := 24) dX11_isLetter_23 rfl rfl ?_
      obtain ⟨a6, g7, h8⟩ := Option.bind_eq_some_iff.mp h4
      refine mr_bald (pc' := 25) dX11_isLetter_24 rfl (Or.inl rfl) rfl g7 ?_
      refine mr_bipush (pc' := 27) (v := (122 : Int32)) dX11_isLetter_25 rfl (by decide) ?_
      by_cases c9 : (122 : Int32) < a6
      · rw [if_pos c9] at h8
        refine mr_icmp_gt_t (t := 34) dX11_isLetter_27 (by decide) c9 ?_
        refine mr_iconst (pc' := 35) (v := (0 : Int32)) dX11_isLetter_34 rfl (by decide) ?_
        obtain rfl := Option.some.inj h8
        exact mr_zreturn dX11_isLetter_35 rfl (by decide)
      · rw [if_neg c9] at h8
        refine mr_icmp_gt_f (t := 34) (pc' := 30) dX11_isLetter_27 (by decide) rfl c9 ?_
        refine mr_iconst (pc' := 31) (v := (1 : Int32)) dX11_isLetter_30 rfl (by decide) ?_
        refine mr_goto (t := 35) dX11_isLetter_31 (by decide) ?_
        obtain rfl := Option.some.inj h8
        exact mr_zreturn dX11_isLetter_35 rfl (by decide)
def lp_X11_isWord_10 (p1 : Int64) (K : Int64 → Int32 → fS → Option (Int32 × fS)) : Nat → Int64 → Int32 → fS → Option (Int32 × fS)
  | 0, _, _, _ => none
  | n + 1, p3, p5, S0 =>
    (f_X11_isLetter ((S0.1 145 13) + p5) S0).bind fun q4 =>
    if q4 = (0 : Int32) then (K p3 p5 S0) else
    (if (8 : Int32) ≤ p5 then (lp_X11_isWord_10 p1 K n p3 (p5 + (1 : Int32)) S0) else
    ((gI S0 146 400 ((S0.1 145 13) + p5)).bind fun a9 =>
    lp_X11_isWord_10 p1 K n ((p3 <<< (Int32.toInt64 (8 : Int32) &&& 63)) ||| (Int32.toInt64 a9)) (p5 + (1 : Int32)) S0))
set_option maxHeartbeats 4000000 in
set_option maxRecDepth 100000 in
theorem ok_lp_X11_isWord_10 {X : mm_C} {RR : Nat → Nat → Option Nat} (hR : RRok RR) {p1 : Int64}  {K : Int64 → Int32 → fS → Option (Int32 × fS)} {r : Int32 × fS} (hK : ∀ (k3 : Int64) (k5 : Int32) (Sk : fS), K k3 k5 Sk = some r → mr X 1 mY_X11_isWord 56 [(1, .long p1), (3, .long k3), (5, .int k5)] [] (MM RR Sk) (some (.int r.1), MM RR r.2)) : ∀ (n : Nat) (p3 : Int64) (p5 : Int32) (S0 : fS), lp_X11_isWord_10 p1 K n p3 p5 S0 = some r → mr X 1 mY_X11_isWord 10 [(0, .ref 145), (1, .long p1), (3, .long p3), (5, .int p5)] [] (MM RR S0) (some (.int r.1), MM RR r.2) := by
  intro n
  induction n with
  | zero => intro p3 p5 S0 h; exact mm_no h
  | succ n ih =>
    intro p3 p5 S0 h
    unfold lp_X11_isWord_10 at h
    refine mr_aload_n (pc' := 11) dX11_isWord_10 rfl rfl ?_
    refine mr_aload_n (pc' := 12) dX11_isWord_11 rfl rfl ?_
    refine mr_getI (pc' := 15) (ci := 11) (j := 13) dX11_isWord_12 rfl rfl rfl (by decide) (by decide) rfl ?_
    refine mr_iload (pc' := 17) dX11_isWord_15 rfl rfl ?_
    refine mr_iadd (pc' := 18) dX11_isWord_17 rfl ?_
    obtain ⟨q4, g5, h6⟩ := Option.bind_eq_some_iff.mp h
    refine mr_cv (pc' := 21) (a := 145) (d1 := 0) dX11_isWord_18 rfl rfl rfl rfl rfl rfl (by decide) rfl (by decide) (ok_X11_isLetter hR  g5) ?_
    show mr X _ _ 21 _ [.int q4] (MM RR S0) _
    by_cases c7 : q4 = (0 : Int32)
    · rw [if_pos c7] at h6
      refine mr_if_eq_t (t := 56) dX11_isWord_21 (by decide) c7 ?_
      exact mr_sub [(1, .long p1), (3, .long p3), (5, .int p5)] ⟨rfl, rfl, rfl, trivial⟩ rfl (hK _ _ _  h6)
    · rw [if_neg c7] at h6
      refine mr_if_eq_f (t := 56) (pc' := 24) dX11_isWord_21 (by decide) rfl c7 ?_
      refine mr_iload (pc' := 26) dX11_isWord_24 rfl rfl ?_
      refine mr_bipush (pc' := 28) (v := (8 : Int32)) dX11_isWord_26 rfl (by decide) ?_
      by_cases c8 : (8 : Int32) ≤ p5
      · rw [if_pos c8] at h6
        refine mr_icmp_ge_t (t := 50) dX11_isWord_28 (by decide) c8 ?_
        refine mr_iinc (pc' := 53) (x' := (p5 + (1 : Int32))) (lv' := [(5, .int (p5 + (1 : Int32))), (0, .ref 145), (1, .long p1), (3, .long p3)]) dX11_isWord_50 rfl (by decide) rfl rfl rfl ?_
        refine mr_goto (t := 10) dX11_isWord_53 (by decide) ?_
        exact mr_sub [(0, .ref 145), (1, .long p1), (3, .long p3), (5, .int (p5 + (1 : Int32)))] ⟨rfl, rfl, rfl, rfl, trivial⟩ rfl (ih _ _ _  h6)
      · rw [if_neg c8] at h6
        refine mr_icmp_ge_f (t := 50) (pc' := 31) dX11_isWord_28 (by decide) rfl c8 ?_
        refine mr_lload_n (pc' := 32) dX11_isWord_31 rfl rfl ?_
        refine mr_bipush (pc' := 34) (v := (8 : Int32)) dX11_isWord_32 rfl (by decide) ?_
        refine mr_lshl (pc' := 35) dX11_isWord_34 rfl ?_
        refine mr_aload_n (pc' := 36) dX11_isWord_35 rfl rfl ?_
        refine mr_getR (pc' := 39) (ci := 11) (j := 0) (b := 146) hR dX11_isWord_36 rfl rfl rfl (by decide) (by decide) (by decide) rfl rfl ?_
        refine mr_aload_n (pc' := 40) dX11_isWord_39 rfl rfl ?_
        refine mr_getI (pc' := 43) (ci := 11) (j := 13) dX11_isWord_40 rfl rfl rfl (by decide) (by decide) rfl ?_
        refine mr_iload (pc' := 45) dX11_isWord_43 rfl rfl ?_
        refine mr_iadd (pc' := 46) dX11_isWord_45 rfl ?_
        obtain ⟨a9, g10, h11⟩ := Option.bind_eq_some_iff.mp h6
        refine mr_bald (pc' := 47) dX11_isWord_46 rfl (Or.inl rfl) rfl g10 ?_
        refine mr_i2l (pc' := 48) dX11_isWord_47 rfl ?_
        refine mr_lor (pc' := 49) dX11_isWord_48 rfl ?_
        refine mr_lstore_n (pc' := 50) (lv' := [(3, .long ((p3 <<< (Int32.toInt64 (8 : Int32) &&& 63)) ||| (Int32.toInt64 a9))), (0, .ref 145), (1, .long p1), (5, .int p5)]) dX11_isWord_49 rfl (by decide) rfl ?_
        refine mr_iinc (pc' := 53) (x' := (p5 + (1 : Int32))) (lv' := [(5, .int (p5 + (1 : Int32))), (3, .long ((p3 <<< (Int32.toInt64 (8 : Int32) &&& 63)) ||| (Int32.toInt64 a9))), (0, .ref 145), (1, .long p1)]) dX11_isWord_50 rfl (by decide) rfl rfl rfl ?_
        refine mr_goto (t := 10) dX11_isWord_53 (by decide) ?_
        exact mr_sub [(0, .ref 145), (1, .long p1), (3, .long ((p3 <<< (Int32.toInt64 (8 : Int32) &&& 63)) ||| (Int32.toInt64 a9))), (5, .int (p5 + (1 : Int32)))] ⟨rfl, rfl, rfl, rfl, trivial⟩ rfl (ih _ _ _  h11)
def f_X11_isWord (v1 : Int64) (S : fS) : Option (Int32 × fS) :=
  (f_X11_see  S).bind fun q1 =>
  lp_X11_isWord_10 v1 (fun u12 u13 S14 => if u13 ≤ (0 : Int32) then (some ((0 : Int32), S14)) else
  (if (9 : Int32) ≤ u13 then (some ((0 : Int32), S14)) else
  (if u12 = v1 then (some ((1 : Int32), S14)) else
  (some ((0 : Int32), S14))))) FU (0 : Int64) (0 : Int32) q1.2
set_option maxHeartbeats 4000000 in
set_option maxRecDepth 100000 in
theorem ok_X11_isWord {X : mm_C} {RR : Nat → Nat → Option Nat} (hR : RRok RR) {v1 : Int64}  {S : fS} {r : Int32 × fS} (h : f_X11_isWord v1 S = some r) : mr X 1 mY_X11_isWord 0 (lv_args 0 [.ref 145, .long v1]) [] (MM RR S) (some (.int r.1), MM RR r.2) := by
  unfold f_X11_isWord at h
  show mr X _ _ 0 [(0, .ref 145), (1, .long v1)] [] (MM RR S) _
  refine mr_aload_n (pc' := 1) dX11_isWord_0 rfl rfl ?_
  obtain ⟨q1, g2, h3⟩ := Option.bind_eq_some_iff.mp h
  refine mr_cv (pc' := 4) (a := 145) (d1 := 0) dX11_isWord_1 rfl rfl rfl rfl rfl rfl (by decide) rfl (by decide) (ok_X11_see hR  g2) ?_
  show mr X _ _ 4 _ [.int q1.1] (MM RR q1.2) _
  refine mr_pop_int (pc' := 5) dX11_isWord_4 rfl ?_
  refine mr_lconst (pc' := 6) (v := (0 : Int64)) dX11_isWord_5 rfl (by decide) ?_
  refine mr_lstore_n (pc' := 7) (lv' := [(3, .long (0 : Int64)), (0, .ref 145), (1, .long v1)]) dX11_isWord_6 rfl (by decide) rfl ?_
  refine mr_iconst (pc' := 8) (v := (0 : Int32)) dX11_isWord_7 rfl (by decide) ?_
  refine mr_istore (pc' := 10) (lv' := [(5, .int (0 : Int32)), (3, .long (0 : Int64)), (0, .ref 145), (1, .long v1)]) dX11_isWord_8 rfl (by decide) rfl ?_
  refine mr_sub [(0, .ref 145), (1, .long v1), (3, .long (0 : Int64)), (5, .int (0 : Int32))] ⟨rfl, rfl, rfl, rfl, trivial⟩ rfl ?_
  refine ok_lp_X11_isWord_10 hR  (fun u12 u13 S14 h15 => ?_) FU _ _ _  h3
  refine mr_iload (pc' := 58) dX11_isWord_56 rfl rfl ?_
  by_cases c16 : u13 ≤ (0 : Int32)
  · rw [if_pos c16] at h15
    refine mr_if_le_t (t := 78) dX11_isWord_58 (by decide) c16 ?_
    refine mr_iconst (pc' := 79) (v := (0 : Int32)) dX11_isWord_78 rfl (by decide) ?_
    obtain rfl := Option.some.inj h15
    exact mr_zreturn dX11_isWord_79 rfl (by decide)
  · rw [if_neg c16] at h15
    refine mr_if_le_f (t := 78) (pc' := 61) dX11_isWord_58 (by decide) rfl c16 ?_
    refine mr_iload (pc' := 63) dX11_isWord_61 rfl rfl ?_
    refine mr_bipush (pc' := 65) (v := (9 : Int32)) dX11_isWord_63 rfl (by decide) ?_
    by_cases c17 : (9 : Int32) ≤ u13
    · rw [if_pos c17] at h15
      refine mr_icmp_ge_t (t := 78) dX11_isWord_65 (by decide) c17 ?_
      refine mr_iconst (pc' := 79) (v := (0 : Int32)) dX11_isWord_78 rfl (by decide) ?_
      obtain rfl := Option.some.inj h15
      exact mr_zreturn dX11_isWord_79 rfl (by decide)
    · rw [if_neg c17] at h15
      refine mr_icmp_ge_f (t := 78) (pc' := 68) dX11_isWord_65 (by decide) rfl c17 ?_
      refine mr_lload_n (pc' := 69) dX11_isWord_68 rfl rfl ?_
      refine mr_lload_n (pc' := 70) dX11_isWord_69 rfl rfl ?_
      by_cases c18 : u12 = v1
      · rw [if_pos c18] at h15
        refine mr_lcmp_ne_f (t := 78) (pc' := 74) dX11_isWord_70 rfl dX11_isWord_71 (by decide) rfl (not_not_intro c18) ?_
        refine mr_iconst (pc' := 75) (v := (1 : Int32)) dX11_isWord_74 rfl (by decide) ?_
        refine mr_goto (t := 79) dX11_isWord_75 (by decide) ?_
        obtain rfl := Option.some.inj h15
        exact mr_zreturn dX11_isWord_79 rfl (by decide)
      · rw [if_neg c18] at h15
        refine mr_lcmp_ne_t (t := 78) dX11_isWord_70 rfl dX11_isWord_71 (by decide) c18 ?_
        refine mr_iconst (pc' := 79) (v := (0 : Int32)) dX11_isWord_78 rfl (by decide) ?_
        obtain rfl := Option.some.inj h15
        exact mr_zreturn dX11_isWord_79 rfl (by decide)
def f_X11_fails (v1 : Int32) (v2 : Int32) (S : fS) : Option (Int32 × fS) :=
  if (S.1 145 14) = (0 : Int32) then ((some (pI S 145 14 (((1 : Int32) + ((8 : Int32) * v2)) + v1))).bind fun S2 =>
  some ((0 : Int32), S2)) else
  (some ((0 : Int32), S))
set_option maxHeartbeats 4000000 in
set_option maxRecDepth 100000 in
theorem ok_X11_fails {X : mm_C} {RR : Nat → Nat → Option Nat} (hR : RRok RR) {v1 : Int32} {v2 : Int32}  {S : fS} {r : Int32 × fS} (h : f_X11_fails v1 v2 S = some r) : mr X 0 mY_X11_fails 0 (lv_args 0 [.ref 145, .int v1, .int v2]) [] (MM RR S) (some (.int r.1), MM RR r.2) := by
  unfold f_X11_fails at h
  show mr X _ _ 0 [(0, .ref 145), (1, .int v1), (2, .int v2)] [] (MM RR S) _
  refine mr_aload_n (pc' := 1) dX11_fails_0 rfl rfl ?_
  refine mr_getI (pc' := 4) (ci := 11) (j := 14) dX11_fails_1 rfl rfl rfl (by decide) (by decide) rfl ?_
  by_cases c1 : (S.1 145 14) = (0 : Int32)
  · rw [if_pos c1] at h
    refine mr_if_ne_f (t := 19) (pc' := 7) dX11_fails_4 (by decide) rfl (not_not_intro c1) ?_
    refine mr_aload_n (pc' := 8) dX11_fails_7 rfl rfl ?_
    refine mr_iconst (pc' := 9) (v := (1 : Int32)) dX11_fails_8 rfl (by decide) ?_
    refine mr_bipush (pc' := 11) (v := (8 : Int32)) dX11_fails_9 rfl (by decide) ?_
    refine mr_iload_n (pc' := 12) dX11_fails_11 rfl rfl ?_
    refine mr_imul (pc' := 13) dX11_fails_12 rfl ?_
    refine mr_iadd (pc' := 14) dX11_fails_13 rfl ?_
    refine mr_iload_n (pc' := 15) dX11_fails_14 rfl rfl ?_
    refine mr_iadd (pc' := 16) dX11_fails_15 rfl ?_
    obtain ⟨S2, g3, h4⟩ := Option.bind_eq_some_iff.mp h
    refine mr_putI (pc' := 19) (ci := 11) (j := 14) dX11_fails_16 rfl rfl rfl (by decide) (by decide) rfl rfl ?_
    rw [Option.some.inj g3]
    refine mr_iconst (pc' := 20) (v := (0 : Int32)) dX11_fails_19 rfl (by decide) ?_
    obtain rfl := Option.some.inj h4
    exact mr_zreturn dX11_fails_20 rfl (by decide)
  · rw [if_neg c1] at h
    refine mr_if_ne_t (t := 19) dX11_fails_4 (by decide) c1 ?_
    refine mr_iconst (pc' := 20) (v := (0 : Int32)) dX11_fails_19 rfl (by decide) ?_
    obtain rfl := Option.some.inj h
    exact mr_zreturn dX11_fails_20 rfl (by decide)
def lp_X11_passWord_0  (K : fS → Option (fS)) : Nat → fS → Option (fS)
  | 0, _ => none
  | n + 1, S0 =>
    (f_X11_isLetter (S0.1 145 13) S0).bind fun q1 =>
    if q1 = (0 : Int32) then (K S0) else
    ((some (pI S0 145 13 ((S0.1 145 13) + (1 : Int32)))).bind fun S5 =>
    lp_X11_passWord_0  K n  S5)
set_option maxHeartbeats 4000000 in
set_option maxRecDepth 100000 in
theorem ok_lp_X11_passWord_0 {X : mm_C} {RR : Nat → Nat → Option Nat} (hR : RRok RR)   {K : fS → Option (fS)} {r : fS} (hK : ∀ (Sk : fS), K Sk = some r → mr X 1 mY_X11_passWord 24 [] [] (MM RR Sk) (none, MM RR r)) : ∀ (n : Nat) (S0 : fS), lp_X11_passWord_0  K n S0 = some r → mr X 1 mY_X11_passWord 0 [(0, .ref 145)] [] (MM RR S0) (none, MM RR r) := by
  intro n
  induction n with
  | zero => intro S0 h; exact mm_no h
  | succ n ih =>
    intro S0 h
    unfold lp_X11_passWord_0 at h
    refine mr_aload_n (pc' := 1) dX11_passWord_0 rfl rfl ?_
    refine mr_aload_n (pc' := 2) dX11_passWord_1 rfl rfl ?_
    refine mr_getI (pc' := 5) (ci := 11) (j := 13) dX11_passWord_2 rfl rfl rfl (by decide) (by decide) rfl ?_
    obtain ⟨q1, g2, h3⟩ := Option.bind_eq_some_iff.mp h
    refine mr_cv (pc' := 8) (a := 145) (d1 := 0) dX11_passWord_5 rfl rfl rfl rfl rfl rfl (by decide) rfl (by decide) (ok_X11_isLetter hR  g2) ?_
    show mr X _ _ 8 _ [.int q1] (MM RR S0) _
    by_cases c4 : q1 = (0 : Int32)
    · rw [if_pos c4] at h3
      refine mr_if_eq_t (t := 24) dX11_passWord_8 (by decide) c4 ?_
      exact mr_sub [] trivial rfl (hK _  h3)
    · rw [if_neg c4] at h3
      refine mr_if_eq_f (t := 24) (pc' := 11) dX11_passWord_8 (by decide) rfl c4 ?_
      refine mr_aload_n (pc' := 12) dX11_passWord_11 rfl rfl ?_
      refine mr_dup_ref (pc' := 13) dX11_passWord_12 rfl ?_
      refine mr_getI (pc' := 16) (ci := 11) (j := 13) dX11_passWord_13 rfl rfl rfl (by decide) (by decide) rfl ?_
      refine mr_iconst (pc' := 17) (v := (1 : Int32)) dX11_passWord_16 rfl (by decide) ?_
      refine mr_iadd (pc' := 18) dX11_passWord_17 rfl ?_
      obtain ⟨S5, g6, h7⟩ := Option.bind_eq_some_iff.mp h3
      refine mr_putI (pc' := 21) (ci := 11) (j := 13) dX11_passWord_18 rfl rfl rfl (by decide) (by decide) rfl rfl ?_
      rw [Option.some.inj g6]
      refine mr_goto (t := 0) dX11_passWord_21 (by decide) ?_
      exact mr_sub [(0, .ref 145)] ⟨rfl, trivial⟩ rfl (ih _  h7)
def f_X11_passWord  (S : fS) : Option (fS) :=
  lp_X11_passWord_0  (fun S8 => some S8) FU  S
set_option maxHeartbeats 4000000 in
set_option maxRecDepth 100000 in
theorem ok_X11_passWord {X : mm_C} {RR : Nat → Nat → Option Nat} (hR : RRok RR)   {S : fS} {r : fS} (h : f_X11_passWord  S = some r) : mr X 1 mY_X11_passWord 0 (lv_args 0 [.ref 145]) [] (MM RR S) (none, MM RR r) := by
  unfold f_X11_passWord at h
  show mr X _ _ 0 [(0, .ref 145)] [] (MM RR S) _
  refine mr_sub [(0, .ref 145)] ⟨rfl, trivial⟩ rfl ?_
  refine ok_lp_X11_passWord_0 hR  (fun S8 h9 => ?_) FU _  h
  obtain rfl := Option.some.inj h9
  exact mr_return dX11_passWord_24 rfl
def f_X11_isDigit (v1 : Int32) (S : fS) : Option (Int32) :=
  if (S.1 145 1) ≤ v1 then (some (0 : Int32)) else
  ((gI S 146 400 v1).bind fun a2 =>
  if a2 < (48 : Int32) then (some (0 : Int32)) else
  ((gI S 146 400 v1).bind fun a6 =>
  if (57 : Int32) < a6 then (some (0 : Int32)) else
  (some (1 : Int32))))
set_option maxHeartbeats 4000000 in
set_option maxRecDepth 100000 in
theorem ok_X11_isDigit {X : mm_C} {RR : Nat → Nat → Option Nat} (hR : RRok RR) {v1 : Int32}  {S : fS} {r : Int32} (h : f_X11_isDigit v1 S = some r) : mr X 0 mY_X11_isDigit 0 (lv_args 0 [.ref 145, .int v1]) [] (MM RR S) (some (.int r), MM RR S) := by
  unfold f_X11_isDigit at h
  show mr X _ _ 0 [(0, .ref 145), (1, .int v1)] [] (MM RR S) _
  refine mr_iload_n (pc' := 1) dX11_isDigit_0 rfl rfl ?_
  refine mr_aload_n (pc' := 2) dX11_isDigit_1 rfl rfl ?_
  refine mr_getI (pc' := 5) (ci := 11) (j := 1) dX11_isDigit_2 rfl rfl rfl (by decide) (by decide) rfl ?_
  by_cases c1 : (S.1 145 1) ≤ v1
  · rw [if_pos c1] at h
    refine mr_icmp_ge_t (t := 34) dX11_isDigit_5 (by decide) c1 ?_
    refine mr_iconst (pc' := 35) (v := (0 : Int32)) dX11_isDigit_34 rfl (by decide) ?_
    obtain rfl := Option.some.inj h
    exact mr_zreturn dX11_isDigit_35 rfl (by decide)
  · rw [if_neg c1] at h
    refine mr_icmp_ge_f (t := 34) (pc' := 8) dX11_isDigit_5 (by decide) rfl c1 ?_
    refine mr_aload_n (pc' := 9) dX11_isDigit_8 rfl rfl ?_
    refine mr_getR (pc' := 12) (ci := 11) (j := 0) (b := 146) hR dX11_isDigit_9 rfl rfl rfl (by decide) (by decide) (by decide) rfl rfl ?_
    refine mr_iload_n (pc' := 13) dX11_isDigit_12 rfl rfl ?_
    obtain ⟨a2, g3, h4⟩ := Option.bind_eq_some_iff.mp h
    refine mr_bald (pc' := 14) dX11_isDigit_13 rfl (Or.inl rfl) rfl g3 ?_
    refine mr_bipush (pc' := 16) (v := (48 : Int32)) dX11_isDigit_14 rfl (by decide) ?_
    by_cases c5 : a2 < (48 : Int32)
    · rw [if_pos c5] at h4
      refine mr_icmp_lt_t (t := 34) dX11_isDigit_16 (by decide) c5 ?_
      refine mr_iconst (pc' := 35) (v := (0 : Int32)) dX11_isDigit_34 rfl (by decide) ?_
      obtain rfl := Option.some.inj h4
      exact mr_zreturn dX11_isDigit_35 rfl (by decide)
    · rw [if_neg c5] at h4
      refine mr_icmp_lt_f (t := 34) (pc' := 19) dX11_isDigit_16 (by decide) rfl c5 ?_
      refine mr_aload_n (pc' := 20) dX11_isDigit_19 rfl rfl ?_
      refine mr_getR (pc' := 23) (ci := 11) (j := 0) (b := 146) hR dX11_isDigit_20 rfl rfl rfl (by decide) (by decide) (by decide) rfl rfl ?_
      refine mr_iload_n (pc' := 24) dX11_isDigit_23 rfl rfl ?_
      obtain ⟨a6, g7, h8⟩ := Option.bind_eq_some_iff.mp h4
      refine mr_bald (pc' := 25) dX11_isDigit_24 rfl (Or.inl rfl) rfl g7 ?_
      refine mr_bipush (pc' := 27) (v := (57 : Int32)) dX11_isDigit_25 rfl (by decide) ?_
      by_cases c9 : (57 : Int32) < a6
      · rw [if_pos c9] at h8
        refine mr_icmp_gt_t (t := 34) dX11_isDigit_27 (by decide) c9 ?_
        refine mr_iconst (pc' := 35) (v := (0 : Int32)) dX11_isDigit_34 rfl (by decide) ?_
        obtain rfl := Option.some.inj h8
        exact mr_zreturn dX11_isDigit_35 rfl (by decide)
      · rw [if_neg c9] at h8
        refine mr_icmp_gt_f (t := 34) (pc' := 30) dX11_isDigit_27 (by decide) rfl c9 ?_
        refine mr_iconst (pc' := 31) (v := (1 : Int32)) dX11_isDigit_30 rfl (by decide) ?_
        refine mr_goto (t := 35) dX11_isDigit_31 (by decide) ?_
        obtain rfl := Option.some.inj h8
        exact mr_zreturn dX11_isDigit_35 rfl (by decide)
def f_X11_in (v0 : Int64) (v2 : Int64) (v4 : Int64) (S : fS) : Option (Int32) :=
  if v0 < v2 then (some (0 : Int32)) else
  (if v4 < v0 then (some (0 : Int32)) else
  (some (1 : Int32)))
set_option maxHeartbeats 4000000 in
set_option maxRecDepth 100000 in
theorem ok_X11_in {X : mm_C} {RR : Nat → Nat → Option Nat} (hR : RRok RR) {v0 : Int64} {v2 : Int64} {v4 : Int64}  {S : fS} {r : Int32} (h : f_X11_in v0 v2 v4 S = some r) : mr X 0 mY_X11_in 0 (lv_args 0 [.long v0, .long v2, .long v4]) [] (MM RR S) (some (.int r), MM RR S) := by
  unfold f_X11_in at h
  show mr X _ _ 0 [(0, .long v0), (2, .long v2), (4, .long v4)] [] (MM RR S) _
  refine mr_lload_n (pc' := 1) dX11_in_0 rfl rfl ?_
  refine mr_lload_n (pc' := 2) dX11_in_1 rfl rfl ?_
  by_cases c1 : v0 < v2
  · rw [if_pos c1] at h
    refine mr_lcmp_lt_t (t := 17) dX11_in_2 rfl dX11_in_3 (by decide) c1 ?_
    refine mr_iconst (pc' := 18) (v := (0 : Int32)) dX11_in_17 rfl (by decide) ?_
    obtain rfl := Option.some.inj h
    exact mr_zreturn dX11_in_18 rfl (by decide)
  · rw [if_neg c1] at h
    refine mr_lcmp_lt_f (t := 17) (pc' := 6) dX11_in_2 rfl dX11_in_3 (by decide) rfl c1 ?_
    refine mr_lload_n (pc' := 7) dX11_in_6 rfl rfl ?_
    refine mr_lload (pc' := 9) dX11_in_7 rfl rfl ?_
    by_cases c2 : v4 < v0
    · rw [if_pos c2] at h
      refine mr_lcmp_gt_t (t := 17) dX11_in_9 rfl dX11_in_10 (by decide) c2 ?_
      refine mr_iconst (pc' := 18) (v := (0 : Int32)) dX11_in_17 rfl (by decide) ?_
      obtain rfl := Option.some.inj h
      exact mr_zreturn dX11_in_18 rfl (by decide)
    · rw [if_neg c2] at h
      refine mr_lcmp_gt_f (t := 17) (pc' := 13) dX11_in_9 rfl dX11_in_10 (by decide) rfl c2 ?_
      refine mr_iconst (pc' := 14) (v := (1 : Int32)) dX11_in_13 rfl (by decide) ?_
      refine mr_goto (t := 18) dX11_in_14 (by decide) ?_
      obtain rfl := Option.some.inj h
      exact mr_zreturn dX11_in_18 rfl (by decide)
def lp_X11_numberHere_34 (p1 : Int32) (p2 : Int32) (p3 : Int32) (K : Int32 → fS → Option (Int32 × fS)) : Nat → Int32 → fS → Option (Int32 × fS)
  | 0, _, _ => none
  | n + 1, p4, S0 =>
    (f_X11_isDigit (S0.1 145 13) S0).bind fun q8 =>
    if q8 = (0 : Int32) then (K p4 S0) else
    (if (5 : Int32) ≤ ((S0.1 145 13) - p3) then ((some (pI S0 145 13 ((S0.1 145 13) + (1 : Int32)))).bind fun S13 =>
    lp_X11_numberHere_34 p1 p2 p3 K n p4 S13) else
    ((gI S0 146 400 (S0.1 145 13)).bind fun a16 =>
    (some (pI S0 145 13 ((S0.1 145 13) + (1 : Int32)))).bind fun S19 =>
    lp_X11_numberHere_34 p1 p2 p3 K n ((((10 : Int32) * p4) + a16) - (48 : Int32)) S19))
set_option maxHeartbeats 4000000 in
set_option maxRecDepth 100000 in
theorem ok_lp_X11_numberHere_34 {X : mm_C} {RR : Nat → Nat → Option Nat} (hR : RRok RR) {p1 : Int32} {p2 : Int32} {p3 : Int32}  {K : Int32 → fS → Option (Int32 × fS)} {r : Int32 × fS} (hK : ∀ (k4 : Int32) (Sk : fS), K k4 Sk = some r → mr X 1 mY_X11_numberHere 88 [(0, .ref 145), (1, .int p1), (2, .int p2), (3, .int p3), (4, .int k4)] [] (MM RR Sk) (some (.int r.1), MM RR r.2)) : ∀ (n : Nat) (p4 : Int32) (S0 : fS), lp_X11_numberHere_34 p1 p2 p3 K n p4 S0 = some r → mr X 1 mY_X11_numberHere 34 [(0, .ref 145), (1, .int p1), (2, .int p2), (3, .int p3), (4, .int p4)] [] (MM RR S0) (some (.int r.1), MM RR r.2) := by
  intro n
  induction n with
  | zero => intro p4 S0 h; exact mm_no h
  | succ n ih =>
    intro p4 S0 h
    unfold lp_X11_numberHere_34 at h
    refine mr_aload_n (pc' := 35) dX11_numberHere_34 rfl rfl ?_
    refine mr_aload_n (pc' := 36) dX11_numberHere_35 rfl rfl ?_
    refine mr_getI (pc' := 39) (ci := 11) (j := 13) dX11_numberHere_36 rfl rfl rfl (by decide) (by decide) rfl ?_
    obtain ⟨q8, g9, h10⟩ := Option.bind_eq_some_iff.mp h
    refine mr_cv (pc' := 42) (a := 145) (d1 := 0) dX11_numberHere_39 rfl rfl rfl rfl rfl rfl (by decide) rfl (by decide) (ok_X11_isDigit hR  g9) ?_
    show mr X _ _ 42 _ [.int q8] (MM RR S0) _
    by_cases c11 : q8 = (0 : Int32)
    · rw [if_pos c11] at h10
      refine mr_if_eq_t (t := 88) dX11_numberHere_42 (by decide) c11 ?_
      exact mr_sub [(0, .ref 145), (1, .int p1), (2, .int p2), (3, .int p3), (4, .int p4)] ⟨rfl, rfl, rfl, rfl, rfl, trivial⟩ rfl (hK _ _  h10)
    · rw [if_neg c11] at h10
      refine mr_if_eq_f (t := 88) (pc' := 45) dX11_numberHere_42 (by decide) rfl c11 ?_
      refine mr_aload_n (pc' := 46) dX11_numberHere_45 rfl rfl ?_
      refine mr_getI (pc' := 49) (ci := 11) (j := 13) dX11_numberHere_46 rfl rfl rfl (by decide) (by decide) rfl ?_
      refine mr_iload_n (pc' := 50) dX11_numberHere_49 rfl rfl ?_
      refine mr_isub (pc' := 51) dX11_numberHere_50 rfl ?_
      refine mr_iconst (pc' := 52) (v := (5 : Int32)) dX11_numberHere_51 rfl (by decide) ?_
      by_cases c12 : (5 : Int32) ≤ ((S0.1 145 13) - p3)
      · rw [if_pos c12] at h10
        refine mr_icmp_ge_t (t := 75) dX11_numberHere_52 (by decide) c12 ?_
        refine mr_aload_n (pc' := 76) dX11_numberHere_75 rfl rfl ?_
        refine mr_dup_ref (pc' := 77) dX11_numberHere_76 rfl ?_
        refine mr_getI (pc' := 80) (ci := 11) (j := 13) dX11_numberHere_77 rfl rfl rfl (by decide) (by decide) rfl ?_
        refine mr_iconst (pc' := 81) (v := (1 : Int32)) dX11_numberHere_80 rfl (by decide) ?_
        refine mr_iadd (pc' := 82) dX11_numberHere_81 rfl ?_
        obtain ⟨S13, g14, h15⟩ := Option.bind_eq_some_iff.mp h10
        refine mr_putI (pc' := 85) (ci := 11) (j := 13) dX11_numberHere_82 rfl rfl rfl (by decide) (by decide) rfl rfl ?_
        rw [Option.some.inj g14]
        refine mr_goto (t := 34) dX11_numberHere_85 (by decide) ?_
        exact mr_sub [(0, .ref 145), (1, .int p1), (2, .int p2), (3, .int p3), (4, .int p4)] ⟨rfl, rfl, rfl, rfl, rfl, trivial⟩ rfl (ih _ _  h15)
      · rw [if_neg c12] at h10
        refine mr_icmp_ge_f (t := 75) (pc' := 55) dX11_numberHere_52 (by decide) rfl c12 ?_
        refine mr_bipush (pc' := 57) (v := (10 : Int32)) dX11_numberHere_55 rfl (by decide) ?_
        refine mr_iload (pc' := 59) dX11_numberHere_57 rfl rfl ?_
        refine mr_imul (pc' := 60) dX11_numberHere_59 rfl ?_
        refine mr_aload_n (pc' := 61) dX11_numberHere_60 rfl rfl ?_
        refine mr_getR (pc' := 64) (ci := 11) (j := 0) (b := 146) hR dX11_numberHere_61 rfl rfl rfl (by decide) (by decide) (by decide) rfl rfl ?_
        refine mr_aload_n (pc' := 65) dX11_numberHere_64 rfl rfl ?_
        refine mr_getI (pc' := 68) (ci := 11) (j := 13) dX11_numberHere_65 rfl rfl rfl (by decide) (by decide) rfl ?_
        obtain ⟨a16, g17, h18⟩ := Option.bind_eq_some_iff.mp h10
        refine mr_bald (pc' := 69) dX11_numberHere_68 rfl (Or.inl rfl) rfl g17 ?_
        refine mr_iadd (pc' := 70) dX11_numberHere_69 rfl ?_
        refine mr_bipush (pc' := 72) (v := (48 : Int32)) dX11_numberHere_70 rfl (by decide) ?_
        refine mr_isub (pc' := 73) dX11_numberHere_72 rfl ?_
        refine mr_istore (pc' := 75) (lv' := [(4, .int ((((10 : Int32) * p4) + a16) - (48 : Int32))), (0, .ref 145), (1, .int p1), (2, .int p2), (3, .int p3)]) dX11_numberHere_73 rfl (by decide) rfl ?_
        refine mr_aload_n (pc' := 76) dX11_numberHere_75 rfl rfl ?_
        refine mr_dup_ref (pc' := 77) dX11_numberHere_76 rfl ?_
        refine mr_getI (pc' := 80) (ci := 11) (j := 13) dX11_numberHere_77 rfl rfl rfl (by decide) (by decide) rfl ?_
        refine mr_iconst (pc' := 81) (v := (1 : Int32)) dX11_numberHere_80 rfl (by decide) ?_
        refine mr_iadd (pc' := 82) dX11_numberHere_81 rfl ?_
        obtain ⟨S19, g20, h21⟩ := Option.bind_eq_some_iff.mp h18
        refine mr_putI (pc' := 85) (ci := 11) (j := 13) dX11_numberHere_82 rfl rfl rfl (by decide) (by decide) rfl rfl ?_
        rw [Option.some.inj g20]
        refine mr_goto (t := 34) dX11_numberHere_85 (by decide) ?_
        exact mr_sub [(0, .ref 145), (1, .int p1), (2, .int p2), (3, .int p3), (4, .int ((((10 : Int32) * p4) + a16) - (48 : Int32)))] ⟨rfl, rfl, rfl, rfl, rfl, trivial⟩ rfl (ih _ _  h21)
def f_X11_numberHere (v1 : Int32) (v2 : Int32) (S : fS) : Option (Int32 × fS) :=
  (f_X11_see  S).bind fun q1 =>
  (f_X11_isDigit (q1.2.1 145 13) q1.2).bind fun q4 =>
  if q4 = (0 : Int32) then ((f_X11_fails (0 : Int32) (q1.2.1 145 13) q1.2).bind fun q41 =>
  (bZ q41.1).bind fun z44 => some (z44, q41.2)) else
  (lp_X11_numberHere_34 v1 v2 (q1.2.1 145 13) (fun u22 S23 => (some (pI S23 145 15 u22)).bind fun S25 =>
  if (5 : Int32) < ((S25.1 145 13) - (q1.2.1 145 13)) then ((f_X11_fails (1 : Int32) (q1.2.1 145 13) S25).bind fun q29 =>
  if q29.1 = (0 : Int32) then (some ((0 : Int32), q29.2)) else
  (some ((1 : Int32), q29.2))) else
  ((f_X11_in (Int32.toInt64 u22) (Int32.toInt64 v1) (Int32.toInt64 v2) S25).bind fun q33 =>
  if q33 = (0 : Int32) then ((f_X11_fails (1 : Int32) (q1.2.1 145 13) S25).bind fun q37 =>
  if q37.1 = (0 : Int32) then (some ((0 : Int32), q37.2)) else
  (some ((1 : Int32), q37.2))) else
  (some ((1 : Int32), S25)))) FU (0 : Int32) q1.2)
set_option maxHeartbeats 4000000 in
set_option maxRecDepth 100000 in
theorem ok_X11_numberHere {X : mm_C} {RR : Nat → Nat → Option Nat} (hR : RRok RR) {v1 : Int32} {v2 : Int32}  {S : fS} {r : Int32 × fS} (h : f_X11_numberHere v1 v2 S = some r) : mr X 1 mY_X11_numberHere 0 (lv_args 0 [.ref 145, .int v1, .int v2]) [] (MM RR S) (some (.int r.1), MM RR r.2) := by
  unfold f_X11_numberHere at h
  show mr X _ _ 0 [(0, .ref 145), (1, .int v1), (2, .int v2)] [] (MM RR S) _
  refine mr_aload_n (pc' := 1) dX11_numberHere_0 rfl rfl ?_
  obtain ⟨q1, g2, h3⟩ := Option.bind_eq_some_iff.mp h
  refine mr_cv (pc' := 4) (a := 145) (d1 := 0) dX11_numberHere_1 rfl rfl rfl rfl rfl rfl (by decide) rfl (by decide) (ok_X11_see hR  g2) ?_
  show mr X _ _ 4 _ [.int q1.1] (MM RR q1.2) _
  refine mr_pop_int (pc' := 5) dX11_numberHere_4 rfl ?_
  refine mr_aload_n (pc' := 6) dX11_numberHere_5 rfl rfl ?_
  refine mr_aload_n (pc' := 7) dX11_numberHere_6 rfl rfl ?_
  refine mr_getI (pc' := 10) (ci := 11) (j := 13) dX11_numberHere_7 rfl rfl rfl (by decide) (by decide) rfl ?_
  obtain ⟨q4, g5, h6⟩ := Option.bind_eq_some_iff.mp h3
  refine mr_cv (pc' := 13) (a := 145) (d1 := 0) dX11_numberHere_10 rfl rfl rfl rfl rfl rfl (by decide) rfl (by decide) (ok_X11_isDigit hR  g5) ?_
  show mr X _ _ 13 _ [.int q4] (MM RR q1.2) _
  by_cases c7 : q4 = (0 : Int32)
  · rw [if_pos c7] at h6
    refine mr_if_ne_f (t := 26) (pc' := 16) dX11_numberHere_13 (by decide) rfl (not_not_intro c7) ?_
    refine mr_aload_n (pc' := 17) dX11_numberHere_16 rfl rfl ?_
    refine mr_iconst (pc' := 18) (v := (0 : Int32)) dX11_numberHere_17 rfl (by decide) ?_
    refine mr_aload_n (pc' := 19) dX11_numberHere_18 rfl rfl ?_
    refine mr_getI (pc' := 22) (ci := 11) (j := 13) dX11_numberHere_19 rfl rfl rfl (by decide) (by decide) rfl ?_
    obtain ⟨q41, g42, h43⟩ := Option.bind_eq_some_iff.mp h6
    refine mr_cv (pc' := 25) (a := 145) (d1 := 0) dX11_numberHere_22 rfl rfl rfl rfl rfl rfl (by decide) rfl (by decide) (ok_X11_fails hR  g42) ?_
    show mr X _ _ 25 _ [.int q41.1] (MM RR q41.2) _
    obtain ⟨z44, g45, h46⟩ := Option.bind_eq_some_iff.mp h43
    obtain ⟨g47, e48⟩ := mm_ifs g45
    cases e48
    cases h46
    exact mr_zreturn dX11_numberHere_25 rfl g47
  · rw [if_neg c7] at h6
    refine mr_if_ne_t (t := 26) dX11_numberHere_13 (by decide) c7 ?_
    refine mr_aload_n (pc' := 27) dX11_numberHere_26 rfl rfl ?_
    refine mr_getI (pc' := 30) (ci := 11) (j := 13) dX11_numberHere_27 rfl rfl rfl (by decide) (by decide) rfl ?_
    refine mr_istore_n (pc' := 31) (lv' := [(3, .int (q1.2.1 145 13)), (0, .ref 145), (1, .int v1), (2, .int v2)]) dX11_numberHere_30 rfl (by decide) rfl ?_
    refine mr_iconst (pc' := 32) (v := (0 : Int32)) dX11_numberHere_31 rfl (by decide) ?_
    refine mr_istore (pc' := 34) (lv' := [(4, .int (0 : Int32)), (3, .int (q1.2.1 145 13)), (0, .ref 145), (1, .int v1), (2, .int v2)]) dX11_numberHere_32 rfl (by decide) rfl ?_
    refine mr_sub [(0, .ref 145), (1, .int v1), (2, .int v2), (3, .int (q1.2.1 145 13)), (4, .int (0 : Int32))] ⟨rfl, rfl, rfl, rfl, rfl, trivial⟩ rfl ?_
    refine ok_lp_X11_numberHere_34 hR  (fun u22 S23 h24 => ?_) FU _ _  h6
    refine mr_aload_n (pc' := 89) dX11_numberHere_88 rfl rfl ?_
    refine mr_iload (pc' := 91) dX11_numberHere_89 rfl rfl ?_
    obtain ⟨S25, g26, h27⟩ := Option.bind_eq_some_iff.mp h24
    refine mr_putI (pc' := 94) (ci := 11) (j := 15) dX11_numberHere_91 rfl rfl rfl (by decide) (by decide) rfl rfl ?_
    rw [Option.some.inj g26]
    refine mr_aload_n (pc' := 95) dX11_numberHere_94 rfl rfl ?_
    refine mr_getI (pc' := 98) (ci := 11) (j := 13) dX11_numberHere_95 rfl rfl rfl (by decide) (by decide) rfl ?_
    refine mr_iload_n (pc' := 99) dX11_numberHere_98 rfl rfl ?_
    refine mr_isub (pc' := 100) dX11_numberHere_99 rfl ?_
    refine mr_iconst (pc' := 101) (v := (5 : Int32)) dX11_numberHere_100 rfl (by decide) ?_
    by_cases c28 : (5 : Int32) < ((S25.1 145 13) - (q1.2.1 145 13))
    · rw [if_pos c28] at h27
      refine mr_icmp_gt_t (t := 117) dX11_numberHere_101 (by decide) c28 ?_
      refine mr_aload_n (pc' := 118) dX11_numberHere_117 rfl rfl ?_
      refine mr_iconst (pc' := 119) (v := (1 : Int32)) dX11_numberHere_118 rfl (by decide) ?_
      refine mr_iload_n (pc' := 120) dX11_numberHere_119 rfl rfl ?_
      obtain ⟨q29, g30, h31⟩ := Option.bind_eq_some_iff.mp h27
      refine mr_cv (pc' := 123) (a := 145) (d1 := 0) dX11_numberHere_120 rfl rfl rfl rfl rfl rfl (by decide) rfl (by decide) (ok_X11_fails hR  g30) ?_
      show mr X _ _ 123 _ [.int q29.1] (MM RR q29.2) _
      by_cases c32 : q29.1 = (0 : Int32)
      · rw [if_pos c32] at h31
        refine mr_if_eq_t (t := 130) dX11_numberHere_123 (by decide) c32 ?_
        refine mr_iconst (pc' := 131) (v := (0 : Int32)) dX11_numberHere_130 rfl (by decide) ?_
        obtain rfl := Option.some.inj h31
        exact mr_zreturn dX11_numberHere_131 rfl (by decide)
      · rw [if_neg c32] at h31
        refine mr_if_eq_f (t := 130) (pc' := 126) dX11_numberHere_123 (by decide) rfl c32 ?_
        refine mr_iconst (pc' := 127) (v := (1 : Int32)) dX11_numberHere_126 rfl (by decide) ?_
        refine mr_goto (t := 131) dX11_numberHere_127 (by decide) ?_
        obtain rfl := Option.some.inj h31
        exact mr_zreturn dX11_numberHere_131 rfl (by decide)
    · rw [if_neg c28] at h27
      refine mr_icmp_gt_f (t := 117) (pc' := 104) dX11_numberHere_101 (by decide) rfl c28 ?_
      refine mr_iload (pc' := 106) dX11_numberHere_104 rfl rfl ?_
      refine mr_i2l (pc' := 107) dX11_numberHere_106 rfl ?_
      refine mr_iload_n (pc' := 108) dX11_numberHere_107 rfl rfl ?_
      refine mr_i2l (pc' := 109) dX11_numberHere_108 rfl ?_
      refine mr_iload_n (pc' := 110) dX11_numberHere_109 rfl rfl ?_
      refine mr_i2l (pc' := 111) dX11_numberHere_110 rfl ?_
      obtain ⟨q33, g34, h35⟩ := Option.bind_eq_some_iff.mp h27
      refine mr_cs (pc' := 114) (d1 := 0) dX11_numberHere_111 rfl rfl rfl rfl (by decide) (Nat.le_of_ble_eq_true rfl) rfl rfl rfl (by decide) (ok_X11_in hR  g34) ?_
      show mr X _ _ 114 _ [.int q33] (MM RR S25) _
      by_cases c36 : q33 = (0 : Int32)
      · rw [if_pos c36] at h35
        refine mr_if_ne_f (t := 126) (pc' := 117) dX11_numberHere_114 (by decide) rfl (not_not_intro c36) ?_
        refine mr_aload_n (pc' := 118) dX11_numberHere_117 rfl rfl ?_
        refine mr_iconst (pc' := 119) (v := (1 : Int32)) dX11_numberHere_118 rfl (by decide) ?_
        refine mr_iload_n (pc' := 120) dX11_numberHere_119 rfl rfl ?_
        obtain ⟨q37, g38, h39⟩ := Option.bind_eq_some_iff.mp h35
        refine mr_cv (pc' := 123) (a := 145) (d1 := 0) dX11_numberHere_120 rfl rfl rfl rfl rfl rfl (by decide) rfl (by decide) (ok_X11_fails hR  g38) ?_
        show mr X _ _ 123 _ [.int q37.1] (MM RR q37.2) _
        by_cases c40 : q37.1 = (0 : Int32)
        · rw [if_pos c40] at h39
          refine mr_if_eq_t (t := 130) dX11_numberHere_123 (by decide) c40 ?_
          refine mr_iconst (pc' := 131) (v := (0 : Int32)) dX11_numberHere_130 rfl (by decide) ?_
          obtain rfl := Option.some.inj h39
          exact mr_zreturn dX11_numberHere_131 rfl (by decide)
        · rw [if_neg c40] at h39
          refine mr_if_eq_f (t := 130) (pc' := 126) dX11_numberHere_123 (by decide) rfl c40 ?_
          refine mr_iconst (pc' := 127) (v := (1 : Int32)) dX11_numberHere_126 rfl (by decide) ?_
          refine mr_goto (t := 131) dX11_numberHere_127 (by decide) ?_
          obtain rfl := Option.some.inj h39
          exact mr_zreturn dX11_numberHere_131 rfl (by decide)
      · rw [if_neg c36] at h35
        refine mr_if_ne_t (t := 126) dX11_numberHere_114 (by decide) c36 ?_
        refine mr_iconst (pc' := 127) (v := (1 : Int32)) dX11_numberHere_126 rfl (by decide) ?_
        refine mr_goto (t := 131) dX11_numberHere_127 (by decide) ?_
        obtain rfl := Option.some.inj h35
        exact mr_zreturn dX11_numberHere_131 rfl (by decide)
def f_X11_takesWord (v1 : Int64) (S : fS) : Option (Int32 × fS) :=
  (f_X11_isWord v1 S).bind fun q1 =>
  if q1.1 = (0 : Int32) then (some ((0 : Int32), q1.2)) else
  ((f_X11_passWord  q1.2).bind fun q5 =>
  some ((1 : Int32), q5))
set_option maxHeartbeats 4000000 in
set_option maxRecDepth 100000 in
theorem ok_X11_takesWord {X : mm_C} {RR : Nat → Nat → Option Nat} (hR : RRok RR) {v1 : Int64}  {S : fS} {r : Int32 × fS} (h : f_X11_takesWord v1 S = some r) : mr X 2 mY_X11_takesWord 0 (lv_args 0 [.ref 145, .long v1]) [] (MM RR S) (some (.int r.1), MM RR r.2) := by
  unfold f_X11_takesWord at h
  show mr X _ _ 0 [(0, .ref 145), (1, .long v1)] [] (MM RR S) _
  refine mr_aload_n (pc' := 1) dX11_takesWord_0 rfl rfl ?_
  refine mr_lload_n (pc' := 2) dX11_takesWord_1 rfl rfl ?_
  obtain ⟨q1, g2, h3⟩ := Option.bind_eq_some_iff.mp h
  refine mr_cv (pc' := 5) (a := 145) (d1 := 1) dX11_takesWord_2 rfl rfl rfl rfl rfl rfl (by decide) rfl (by decide) (ok_X11_isWord hR  g2) ?_
  show mr X _ _ 5 _ [.int q1.1] (MM RR q1.2) _
  by_cases c4 : q1.1 = (0 : Int32)
  · rw [if_pos c4] at h3
    refine mr_if_ne_f (t := 10) (pc' := 8) dX11_takesWord_5 (by decide) rfl (not_not_intro c4) ?_
    refine mr_iconst (pc' := 9) (v := (0 : Int32)) dX11_takesWord_8 rfl (by decide) ?_
    obtain rfl := Option.some.inj h3
    exact mr_zreturn dX11_takesWord_9 rfl (by decide)
  · rw [if_neg c4] at h3
    refine mr_if_ne_t (t := 10) dX11_takesWord_5 (by decide) c4 ?_
    refine mr_aload_n (pc' := 11) dX11_takesWord_10 rfl rfl ?_
    obtain ⟨q5, g6, h7⟩ := Option.bind_eq_some_iff.mp h3
    refine mr_cv (pc' := 14) (a := 145) (d1 := 1) dX11_takesWord_11 rfl rfl rfl rfl rfl rfl (by decide) rfl (by decide) (ok_X11_passWord hR  g6) ?_
    show mr X _ _ 14 _ [] (MM RR q5) _
    refine mr_iconst (pc' := 15) (v := (1 : Int32)) dX11_takesWord_14 rfl (by decide) ?_
    obtain rfl := Option.some.inj h7
    exact mr_zreturn dX11_takesWord_15 rfl (by decide)
def f_X11_opens (v1 : Int32) (S : fS) : Option (Int32 × fS) :=
  if (S.1 145 18) = (10 : Int32) then ((f_X11_fails (2 : Int32) (S.1 145 13) S).bind fun q11 =>
  (bZ q11.1).bind fun z14 => some (z14, q11.2)) else
  ((some (pI S 145 18 ((S.1 145 18) + (1 : Int32)))).bind fun S2 =>
  (sI S2 154 400 (S2.1 145 21) v1).bind fun S5 =>
  (some (pI S5 145 21 ((S5.1 145 21) + (1 : Int32)))).bind fun S8 =>
  some ((1 : Int32), S8))
set_option maxHeartbeats 4000000 in
set_option maxRecDepth 100000 in
theorem ok_X11_opens {X : mm_C} {RR : Nat → Nat → Option Nat} (hR : RRok RR) {v1 : Int32}  {S : fS} {r : Int32 × fS} (h : f_X11_opens v1 S = some r) : mr X 1 mY_X11_opens 0 (lv_args 0 [.ref 145, .int v1]) [] (MM RR S) (some (.int r.1), MM RR r.2) := by
  unfold f_X11_opens at h
  show mr X _ _ 0 [(0, .ref 145), (1, .int v1)] [] (MM RR S) _
  refine mr_aload_n (pc' := 1) dX11_opens_0 rfl rfl ?_
  refine mr_getI (pc' := 4) (ci := 11) (j := 18) dX11_opens_1 rfl rfl rfl (by decide) (by decide) rfl ?_
  refine mr_bipush (pc' := 6) (v := (10 : Int32)) dX11_opens_4 rfl (by decide) ?_
  by_cases c1 : (S.1 145 18) = (10 : Int32)
  · rw [if_pos c1] at h
    refine mr_icmp_ne_f (t := 19) (pc' := 9) dX11_opens_6 (by decide) rfl (not_not_intro c1) ?_
    refine mr_aload_n (pc' := 10) dX11_opens_9 rfl rfl ?_
    refine mr_iconst (pc' := 11) (v := (2 : Int32)) dX11_opens_10 rfl (by decide) ?_
    refine mr_aload_n (pc' := 12) dX11_opens_11 rfl rfl ?_
    refine mr_getI (pc' := 15) (ci := 11) (j := 13) dX11_opens_12 rfl rfl rfl (by decide) (by decide) rfl ?_
    obtain ⟨q11, g12, h13⟩ := Option.bind_eq_some_iff.mp h
    refine mr_cv (pc' := 18) (a := 145) (d1 := 0) dX11_opens_15 rfl rfl rfl rfl rfl rfl (by decide) rfl (by decide) (ok_X11_fails hR  g12) ?_
    show mr X _ _ 18 _ [.int q11.1] (MM RR q11.2) _
    obtain ⟨z14, g15, h16⟩ := Option.bind_eq_some_iff.mp h13
    obtain ⟨g17, e18⟩ := mm_ifs g15
    cases e18
    cases h16
    exact mr_zreturn dX11_opens_18 rfl g17
  · rw [if_neg c1] at h
    refine mr_icmp_ne_t (t := 19) dX11_opens_6 (by decide) c1 ?_
    refine mr_aload_n (pc' := 20) dX11_opens_19 rfl rfl ?_
    refine mr_dup_ref (pc' := 21) dX11_opens_20 rfl ?_
    refine mr_getI (pc' := 24) (ci := 11) (j := 18) dX11_opens_21 rfl rfl rfl (by decide) (by decide) rfl ?_
    refine mr_iconst (pc' := 25) (v := (1 : Int32)) dX11_opens_24 rfl (by decide) ?_
    refine mr_iadd (pc' := 26) dX11_opens_25 rfl ?_
    obtain ⟨S2, g3, h4⟩ := Option.bind_eq_some_iff.mp h
    refine mr_putI (pc' := 29) (ci := 11) (j := 18) dX11_opens_26 rfl rfl rfl (by decide) (by decide) rfl rfl ?_
    rw [Option.some.inj g3]
    refine mr_aload_n (pc' := 30) dX11_opens_29 rfl rfl ?_
    refine mr_getR (pc' := 33) (ci := 11) (j := 20) (b := 154) hR dX11_opens_30 rfl rfl rfl (by decide) (by decide) (by decide) rfl rfl ?_
    refine mr_aload_n (pc' := 34) dX11_opens_33 rfl rfl ?_
    refine mr_getI (pc' := 37) (ci := 11) (j := 21) dX11_opens_34 rfl rfl rfl (by decide) (by decide) rfl ?_
    refine mr_iload_n (pc' := 38) dX11_opens_37 rfl rfl ?_
    obtain ⟨S5, g6, h7⟩ := Option.bind_eq_some_iff.mp h4
    refine mr_iast (pc' := 39) dX11_opens_38 rfl rfl rfl g6 ?_
    refine mr_aload_n (pc' := 40) dX11_opens_39 rfl rfl ?_
    refine mr_dup_ref (pc' := 41) dX11_opens_40 rfl ?_
    refine mr_getI (pc' := 44) (ci := 11) (j := 21) dX11_opens_41 rfl rfl rfl (by decide) (by decide) rfl ?_
    refine mr_iconst (pc' := 45) (v := (1 : Int32)) dX11_opens_44 rfl (by decide) ?_
    refine mr_iadd (pc' := 46) dX11_opens_45 rfl ?_
    obtain ⟨S8, g9, h10⟩ := Option.bind_eq_some_iff.mp h7
    refine mr_putI (pc' := 49) (ci := 11) (j := 21) dX11_opens_46 rfl rfl rfl (by decide) (by decide) rfl rfl ?_
    rw [Option.some.inj g9]
    refine mr_iconst (pc' := 50) (v := (1 : Int32)) dX11_opens_49 rfl (by decide) ?_
    obtain rfl := Option.some.inj h10
    exact mr_zreturn dX11_opens_50 rfl (by decide)
def f_X11_makes (v1 : Int32) (S : fS) : Option (Int32 × fS) :=
  if (S.1 145 17) = (60 : Int32) then ((f_X11_fails (3 : Int32) v1 S).bind fun q5 =>
  (bZ q5.1).bind fun z8 => some (z8, q5.2)) else
  ((some (pI S 145 17 ((S.1 145 17) + (1 : Int32)))).bind fun S2 =>
  some ((1 : Int32), S2))
set_option maxHeartbeats 4000000 in
set_option maxRecDepth 100000 in
theorem ok_X11_makes {X : mm_C} {RR : Nat → Nat → Option Nat} (hR : RRok RR) {v1 : Int32}  {S : fS} {r : Int32 × fS} (h : f_X11_makes v1 S = some r) : mr X 1 mY_X11_makes 0 (lv_args 0 [.ref 145, .int v1]) [] (MM RR S) (some (.int r.1), MM RR r.2) := by
  unfold f_X11_makes at h
  show mr X _ _ 0 [(0, .ref 145), (1, .int v1)] [] (MM RR S) _
  refine mr_aload_n (pc' := 1) dX11_makes_0 rfl rfl ?_
  refine mr_getI (pc' := 4) (ci := 11) (j := 17) dX11_makes_1 rfl rfl rfl (by decide) (by decide) rfl ?_
  refine mr_bipush (pc' := 6) (v := (60 : Int32)) dX11_makes_4 rfl (by decide) ?_
  by_cases c1 : (S.1 145 17) = (60 : Int32)
  · rw [if_pos c1] at h
    refine mr_icmp_ne_f (t := 16) (pc' := 9) dX11_makes_6 (by decide) rfl (not_not_intro c1) ?_
    refine mr_aload_n (pc' := 10) dX11_makes_9 rfl rfl ?_
    refine mr_iconst (pc' := 11) (v := (3 : Int32)) dX11_makes_10 rfl (by decide) ?_
    refine mr_iload_n (pc' := 12) dX11_makes_11 rfl rfl ?_
    obtain ⟨q5, g6, h7⟩ := Option.bind_eq_some_iff.mp h
    refine mr_cv (pc' := 15) (a := 145) (d1 := 0) dX11_makes_12 rfl rfl rfl rfl rfl rfl (by decide) rfl (by decide) (ok_X11_fails hR  g6) ?_
    show mr X _ _ 15 _ [.int q5.1] (MM RR q5.2) _
    obtain ⟨z8, g9, h10⟩ := Option.bind_eq_some_iff.mp h7
    obtain ⟨g11, e12⟩ := mm_ifs g9
    cases e12
    cases h10
    exact mr_zreturn dX11_makes_15 rfl g11
  · rw [if_neg c1] at h
    refine mr_icmp_ne_t (t := 16) dX11_makes_6 (by decide) c1 ?_
    refine mr_aload_n (pc' := 17) dX11_makes_16 rfl rfl ?_
    refine mr_dup_ref (pc' := 18) dX11_makes_17 rfl ?_
    refine mr_getI (pc' := 21) (ci := 11) (j := 17) dX11_makes_18 rfl rfl rfl (by decide) (by decide) rfl ?_
    refine mr_iconst (pc' := 22) (v := (1 : Int32)) dX11_makes_21 rfl (by decide) ?_
    refine mr_iadd (pc' := 23) dX11_makes_22 rfl ?_
    obtain ⟨S2, g3, h4⟩ := Option.bind_eq_some_iff.mp h
    refine mr_putI (pc' := 26) (ci := 11) (j := 17) dX11_makes_23 rfl rfl rfl (by decide) (by decide) rfl rfl ?_
    rw [Option.some.inj g3]
    refine mr_iconst (pc' := 27) (v := (1 : Int32)) dX11_makes_26 rfl (by decide) ?_
    obtain rfl := Option.some.inj h4
    exact mr_zreturn dX11_makes_27 rfl (by decide)
def f_X11_puts (v1 : Int32) (v2 : Int32) (S : fS) : Option (fS) :=
  (gI S 148 7 (S.1 145 16)).bind fun a1 =>
  (sI S 147 2400 (((400 : Int32) * (S.1 145 16)) + a1) (v1 + ((16 : Int32) * v2))).bind fun S4 =>
  (gI S4 148 7 (S4.1 145 16)).bind fun a7 =>
  (sI S4 148 7 (S4.1 145 16) (a7 + (1 : Int32))).bind fun S10 =>
  some S10
set_option maxHeartbeats 4000000 in
set_option maxRecDepth 100000 in
theorem ok_X11_puts {X : mm_C} {RR : Nat → Nat → Option Nat} (hR : RRok RR) {v1 : Int32} {v2 : Int32}  {S : fS} {r : fS} (h : f_X11_puts v1 v2 S = some r) : mr X 0 mY_X11_puts 0 (lv_args 0 [.ref 145, .int v1, .int v2]) [] (MM RR S) (none, MM RR r) := by
  unfold f_X11_puts at h
  show mr X _ _ 0 [(0, .ref 145), (1, .int v1), (2, .int v2)] [] (MM RR S) _
  refine mr_aload_n (pc' := 1) dX11_puts_0 rfl rfl ?_
  refine mr_getR (pc' := 4) (ci := 11) (j := 3) (b := 147) hR dX11_puts_1 rfl rfl rfl (by decide) (by decide) (by decide) rfl rfl ?_
  refine mr_sipush (pc' := 7) (v := (400 : Int32)) dX11_puts_4 rfl (by decide) ?_
  refine mr_aload_n (pc' := 8) dX11_puts_7 rfl rfl ?_
  refine mr_getI (pc' := 11) (ci := 11) (j := 16) dX11_puts_8 rfl rfl rfl (by decide) (by decide) rfl ?_
  refine mr_imul (pc' := 12) dX11_puts_11 rfl ?_
  refine mr_aload_n (pc' := 13) dX11_puts_12 rfl rfl ?_
  refine mr_getR (pc' := 16) (ci := 11) (j := 4) (b := 148) hR dX11_puts_13 rfl rfl rfl (by decide) (by decide) (by decide) rfl rfl ?_
  refine mr_aload_n (pc' := 17) dX11_puts_16 rfl rfl ?_
  refine mr_getI (pc' := 20) (ci := 11) (j := 16) dX11_puts_17 rfl rfl rfl (by decide) (by decide) rfl ?_
  obtain ⟨a1, g2, h3⟩ := Option.bind_eq_some_iff.mp h
  refine mr_iald (pc' := 21) dX11_puts_20 rfl rfl rfl g2 ?_
  refine mr_iadd (pc' := 22) dX11_puts_21 rfl ?_
  refine mr_iload_n (pc' := 23) dX11_puts_22 rfl rfl ?_
  refine mr_bipush (pc' := 25) (v := (16 : Int32)) dX11_puts_23 rfl (by decide) ?_
  refine mr_iload_n (pc' := 26) dX11_puts_25 rfl rfl ?_
  refine mr_imul (pc' := 27) dX11_puts_26 rfl ?_
  refine mr_iadd (pc' := 28) dX11_puts_27 rfl ?_
  obtain ⟨S4, g5, h6⟩ := Option.bind_eq_some_iff.mp h3
  refine mr_iast (pc' := 29) dX11_puts_28 rfl rfl rfl g5 ?_
  refine mr_aload_n (pc' := 30) dX11_puts_29 rfl rfl ?_
  refine mr_getR (pc' := 33) (ci := 11) (j := 4) (b := 148) hR dX11_puts_30 rfl rfl rfl (by decide) (by decide) (by decide) rfl rfl ?_
  refine mr_aload_n (pc' := 34) dX11_puts_33 rfl rfl ?_
  refine mr_getI (pc' := 37) (ci := 11) (j := 16) dX11_puts_34 rfl rfl rfl (by decide) (by decide) rfl ?_
  refine mr_dup2 (pc' := 38) dX11_puts_37 rfl ?_
  obtain ⟨a7, g8, h9⟩ := Option.bind_eq_some_iff.mp h6
  refine mr_iald (pc' := 39) dX11_puts_38 rfl rfl rfl g8 ?_
  refine mr_iconst (pc' := 40) (v := (1 : Int32)) dX11_puts_39 rfl (by decide) ?_
  refine mr_iadd (pc' := 41) dX11_puts_40 rfl ?_
  obtain ⟨S10, g11, h12⟩ := Option.bind_eq_some_iff.mp h9
  refine mr_iast (pc' := 42) dX11_puts_41 rfl rfl rfl g11 ?_
  obtain rfl := Option.some.inj h12
  exact mr_return dX11_puts_42 rfl
def f_X11_wordHere  (S : fS) : Option (Int32 × fS) :=
  (f_X11_isWord (7237495 : Int64) S).bind fun q1 =>
  if q1.1 = (0 : Int32) then ((f_X11_isWord (499967946343 : Int64) q1.2).bind fun q5 =>
  if q5.1 = (0 : Int32) then ((f_X11_isWord (439905906546 : Int64) q5.2).bind fun q9 =>
  if q9.1 = (0 : Int32) then ((f_X11_isWord (6383461 : Int64) q9.2).bind fun q13 =>
  if q13.1 = (0 : Int32) then ((f_X11_isWord (1751478885 : Int64) q13.2).bind fun q17 =>
  if q17.1 = (0 : Int32) then ((f_X11_isWord (1918989413 : Int64) q17.2).bind fun q21 =>
  if q21.1 = (0 : Int32) then ((f_X11_isWord (122511331521396 : Int64) q21.2).bind fun q25 =>
  if q25.1 = (0 : Int32) then ((f_X11_isWord (8750341718045717364 : Int64) q25.2).bind fun q29 =>
  if q29.1 = (0 : Int32) then (some ((-1 : Int32), q29.2)) else
  (some ((7 : Int32), q29.2))) else
  (some ((6 : Int32), q25.2))) else
  (some ((5 : Int32), q21.2))) else
  (some ((4 : Int32), q17.2))) else
  (some ((3 : Int32), q13.2))) else
  (some ((2 : Int32), q9.2))) else
  (some ((1 : Int32), q5.2))) else
  (some ((0 : Int32), q1.2))
set_option maxHeartbeats 4000000 in
set_option maxRecDepth 100000 in
theorem ok_X11_wordHere {X : mm_C} {RR : Nat → Nat → Option Nat} (hR : RRok RR)   {S : fS} {r : Int32 × fS} (h : f_X11_wordHere  S = some r) : mr X 2 mY_X11_wordHere 0 (lv_args 0 [.ref 145]) [] (MM RR S) (some (.int r.1), MM RR r.2) := by
  unfold f_X11_wordHere at h
  show mr X _ _ 0 [(0, .ref 145)] [] (MM RR S) _
  refine mr_aload_n (pc' := 1) dX11_wordHere_0 rfl rfl ?_
  refine mr_ldc2 (pc' := 4) (v := (7237495 : Int64)) dX11_wordHere_1 rfl rfl ?_
  obtain ⟨q1, g2, h3⟩ := Option.bind_eq_some_iff.mp h
  refine mr_cv (pc' := 7) (a := 145) (d1 := 1) dX11_wordHere_4 rfl rfl rfl rfl rfl rfl (by decide) rfl (by decide) (ok_X11_isWord hR  g2) ?_
  show mr X _ _ 7 _ [.int q1.1] (MM RR q1.2) _
  by_cases c4 : q1.1 = (0 : Int32)
  · rw [if_pos c4] at h3
    refine mr_if_eq_t (t := 12) dX11_wordHere_7 (by decide) c4 ?_
    refine mr_aload_n (pc' := 13) dX11_wordHere_12 rfl rfl ?_
    refine mr_ldc2 (pc' := 16) (v := (499967946343 : Int64)) dX11_wordHere_13 rfl rfl ?_
    obtain ⟨q5, g6, h7⟩ := Option.bind_eq_some_iff.mp h3
    refine mr_cv (pc' := 19) (a := 145) (d1 := 1) dX11_wordHere_16 rfl rfl rfl rfl rfl rfl (by decide) rfl (by decide) (ok_X11_isWord hR  g6) ?_
    show mr X _ _ 19 _ [.int q5.1] (MM RR q5.2) _
    by_cases c8 : q5.1 = (0 : Int32)
    · rw [if_pos c8] at h7
      refine mr_if_eq_t (t := 24) dX11_wordHere_19 (by decide) c8 ?_
      refine mr_aload_n (pc' := 25) dX11_wordHere_24 rfl rfl ?_
      refine mr_ldc2 (pc' := 28) (v := (439905906546 : Int64)) dX11_wordHere_25 rfl rfl ?_
      obtain ⟨q9, g10, h11⟩ := Option.bind_eq_some_iff.mp h7
      refine mr_cv (pc' := 31) (a := 145) (d1 := 1) dX11_wordHere_28 rfl rfl rfl rfl rfl rfl (by decide) rfl (by decide) (ok_X11_isWord hR  g10) ?_
      show mr X _ _ 31 _ [.int q9.1] (MM RR q9.2) _
      by_cases c12 : q9.1 = (0 : Int32)
      · rw [if_pos c12] at h11
        refine mr_if_eq_t (t := 36) dX11_wordHere_31 (by decide) c12 ?_
        refine mr_aload_n (pc' := 37) dX11_wordHere_36 rfl rfl ?_
        refine mr_ldc2 (pc' := 40) (v := (6383461 : Int64)) dX11_wordHere_37 rfl rfl ?_
        obtain ⟨q13, g14, h15⟩ := Option.bind_eq_some_iff.mp h11
        refine mr_cv (pc' := 43) (a := 145) (d1 := 1) dX11_wordHere_40 rfl rfl rfl rfl rfl rfl (by decide) rfl (by decide) (ok_X11_isWord hR  g14) ?_
        show mr X _ _ 43 _ [.int q13.1] (MM RR q13.2) _
        by_cases c16 : q13.1 = (0 : Int32)
        · rw [if_pos c16] at h15
          refine mr_if_eq_t (t := 48) dX11_wordHere_43 (by decide) c16 ?_
          refine mr_aload_n (pc' := 49) dX11_wordHere_48 rfl rfl ?_
          refine mr_ldc2 (pc' := 52) (v := (1751478885 : Int64)) dX11_wordHere_49 rfl rfl ?_
          obtain ⟨q17, g18, h19⟩ := Option.bind_eq_some_iff.mp h15
          refine mr_cv (pc' := 55) (a := 145) (d1 := 1) dX11_wordHere_52 rfl rfl rfl rfl rfl rfl (by decide) rfl (by decide) (ok_X11_isWord hR  g18) ?_
          show mr X _ _ 55 _ [.int q17.1] (MM RR q17.2) _
          by_cases c20 : q17.1 = (0 : Int32)
          · rw [if_pos c20] at h19
            refine mr_if_eq_t (t := 60) dX11_wordHere_55 (by decide) c20 ?_
            refine mr_aload_n (pc' := 61) dX11_wordHere_60 rfl rfl ?_
            refine mr_ldc2 (pc' := 64) (v := (1918989413 : Int64)) dX11_wordHere_61 rfl rfl ?_
            obtain ⟨q21, g22, h23⟩ := Option.bind_eq_some_iff.mp h19
            refine mr_cv (pc' := 67) (a := 145) (d1 := 1) dX11_wordHere_64 rfl rfl rfl rfl rfl rfl (by decide) rfl (by decide) (ok_X11_isWord hR  g22) ?_
            show mr X _ _ 67 _ [.int q21.1] (MM RR q21.2) _
            by_cases c24 : q21.1 = (0 : Int32)
            · rw [if_pos c24] at h23
              refine mr_if_eq_t (t := 72) dX11_wordHere_67 (by decide) c24 ?_
              refine mr_aload_n (pc' := 73) dX11_wordHere_72 rfl rfl ?_
              refine mr_ldc2 (pc' := 76) (v := (122511331521396 : Int64)) dX11_wordHere_73 rfl rfl ?_
              obtain ⟨q25, g26, h27⟩ := Option.bind_eq_some_iff.mp h23
              refine mr_cv (pc' := 79) (a := 145) (d1 := 1) dX11_wordHere_76 rfl rfl rfl rfl rfl rfl (by decide) rfl (by decide) (ok_X11_isWord hR  g26) ?_
              show mr X _ _ 79 _ [.int q25.1] (MM RR q25.2) _
              by_cases c28 : q25.1 = (0 : Int32)
              · rw [if_pos c28] at h27
                refine mr_if_eq_t (t := 87) dX11_wordHere_79 (by decide) c28 ?_
                refine mr_aload_n (pc' := 88) dX11_wordHere_87 rfl rfl ?_
                refine mr_ldc2 (pc' := 91) (v := (8750341718045717364 : Int64)) dX11_wordHere_88 rfl rfl ?_
                obtain ⟨q29, g30, h31⟩ := Option.bind_eq_some_iff.mp h27
                refine mr_cv (pc' := 94) (a := 145) (d1 := 1) dX11_wordHere_91 rfl rfl rfl rfl rfl rfl (by decide) rfl (by decide) (ok_X11_isWord hR  g30) ?_
                show mr X _ _ 94 _ [.int q29.1] (MM RR q29.2) _
                by_cases c32 : q29.1 = (0 : Int32)
                · rw [if_pos c32] at h31
                  refine mr_if_eq_t (t := 102) dX11_wordHere_94 (by decide) c32 ?_
                  refine mr_iconst (pc' := 103) (v := (-1 : Int32)) dX11_wordHere_102 rfl (by decide) ?_
                  obtain rfl := Option.some.inj h31
                  exact mr_ireturn dX11_wordHere_103 rfl
                · rw [if_neg c32] at h31
                  refine mr_if_eq_f (t := 102) (pc' := 97) dX11_wordHere_94 (by decide) rfl c32 ?_
                  refine mr_bipush (pc' := 99) (v := (7 : Int32)) dX11_wordHere_97 rfl (by decide) ?_
                  refine mr_goto (t := 103) dX11_wordHere_99 (by decide) ?_
                  obtain rfl := Option.some.inj h31
                  exact mr_ireturn dX11_wordHere_103 rfl
              · rw [if_neg c28] at h27
                refine mr_if_eq_f (t := 87) (pc' := 82) dX11_wordHere_79 (by decide) rfl c28 ?_
                refine mr_bipush (pc' := 84) (v := (6 : Int32)) dX11_wordHere_82 rfl (by decide) ?_
                refine mr_goto (t := 103) dX11_wordHere_84 (by decide) ?_
                obtain rfl := Option.some.inj h27
                exact mr_ireturn dX11_wordHere_103 rfl
            · rw [if_neg c24] at h23
              refine mr_if_eq_f (t := 72) (pc' := 70) dX11_wordHere_67 (by decide) rfl c24 ?_
              refine mr_iconst (pc' := 71) (v := (5 : Int32)) dX11_wordHere_70 rfl (by decide) ?_
              obtain rfl := Option.some.inj h23
              exact mr_ireturn dX11_wordHere_71 rfl
          · rw [if_neg c20] at h19
            refine mr_if_eq_f (t := 60) (pc' := 58) dX11_wordHere_55 (by decide) rfl c20 ?_
            refine mr_iconst (pc' := 59) (v := (4 : Int32)) dX11_wordHere_58 rfl (by decide) ?_
            obtain rfl := Option.some.inj h19
            exact mr_ireturn dX11_wordHere_59 rfl
        · rw [if_neg c16] at h15
          refine mr_if_eq_f (t := 48) (pc' := 46) dX11_wordHere_43 (by decide) rfl c16 ?_
          refine mr_iconst (pc' := 47) (v := (3 : Int32)) dX11_wordHere_46 rfl (by decide) ?_
          obtain rfl := Option.some.inj h15
          exact mr_ireturn dX11_wordHere_47 rfl
      · rw [if_neg c12] at h11
        refine mr_if_eq_f (t := 36) (pc' := 34) dX11_wordHere_31 (by decide) rfl c12 ?_
        refine mr_iconst (pc' := 35) (v := (2 : Int32)) dX11_wordHere_34 rfl (by decide) ?_
        obtain rfl := Option.some.inj h11
        exact mr_ireturn dX11_wordHere_35 rfl
    · rw [if_neg c8] at h7
      refine mr_if_eq_f (t := 24) (pc' := 22) dX11_wordHere_19 (by decide) rfl c8 ?_
      refine mr_iconst (pc' := 23) (v := (1 : Int32)) dX11_wordHere_22 rfl (by decide) ?_
      obtain rfl := Option.some.inj h7
      exact mr_ireturn dX11_wordHere_23 rfl
  · rw [if_neg c4] at h3
    refine mr_if_eq_f (t := 12) (pc' := 10) dX11_wordHere_7 (by decide) rfl c4 ?_
    refine mr_iconst (pc' := 11) (v := (0 : Int32)) dX11_wordHere_10 rfl (by decide) ?_
    obtain rfl := Option.some.inj h3
    exact mr_ireturn dX11_wordHere_11 rfl
def f_X11_value  (S : fS) : Option (Int32 × fS) :=
  (f_X11_see  S).bind fun q1 =>
  (f_X11_isDigit (q1.2.1 145 13) q1.2).bind fun q4 =>
  if q4 = (0 : Int32) then ((f_X11_wordHere  q1.2).bind fun q8 =>
  if (0 : Int32) ≤ q8.1 then ((f_X11_makes (q1.2.1 145 13) q8.2).bind fun q12 =>
  if q12.1 = (0 : Int32) then (some ((0 : Int32), q12.2)) else
  ((f_X11_passWord  q12.2).bind fun q16 =>
  (f_X11_puts (1 : Int32) q8.1 q16).bind fun q19 =>
  some ((1 : Int32), q19))) else
  ((f_X11_fails (0 : Int32) (q1.2.1 145 13) q8.2).bind fun q22 =>
  (bZ q22.1).bind fun z25 => some (z25, q22.2))) else
  ((f_X11_numberHere (0 : Int32) (99999 : Int32) q1.2).bind fun q30 =>
  if q30.1 = (0 : Int32) then (some ((0 : Int32), q30.2)) else
  ((f_X11_makes (q1.2.1 145 13) q30.2).bind fun q34 =>
  if q34.1 = (0 : Int32) then (some ((0 : Int32), q34.2)) else
  ((f_X11_puts (0 : Int32) (q34.2.1 145 15) q34.2).bind fun q38 =>
  some ((1 : Int32), q38))))
set_option maxHeartbeats 4000000 in
set_option maxRecDepth 100000 in
theorem ok_X11_value {X : mm_C} {RR : Nat → Nat → Option Nat} (hR : RRok RR)   {S : fS} {r : Int32 × fS} (h : f_X11_value  S = some r) : mr X 3 mY_X11_value 0 (lv_args 0 [.ref 145]) [] (MM RR S) (some (.int r.1), MM RR r.2) := by
  unfold f_X11_value at h
  show mr X _ _ 0 [(0, .ref 145)] [] (MM RR S) _
  refine mr_aload_n (pc' := 1) dX11_value_0 rfl rfl ?_
  obtain ⟨q1, g2, h3⟩ := Option.bind_eq_some_iff.mp h
  refine mr_cv (pc' := 4) (a := 145) (d1 := 0) dX11_value_1 rfl rfl rfl rfl rfl rfl (by decide) rfl (by decide) (ok_X11_see hR  g2) ?_
  show mr X _ _ 4 _ [.int q1.1] (MM RR q1.2) _
  refine mr_pop_int (pc' := 5) dX11_value_4 rfl ?_
  refine mr_aload_n (pc' := 6) dX11_value_5 rfl rfl ?_
  refine mr_getI (pc' := 9) (ci := 11) (j := 13) dX11_value_6 rfl rfl rfl (by decide) (by decide) rfl ?_
  refine mr_istore_n (pc' := 10) (lv' := [(1, .int (q1.2.1 145 13)), (0, .ref 145)]) dX11_value_9 rfl (by decide) rfl ?_
  refine mr_aload_n (pc' := 11) dX11_value_10 rfl rfl ?_
  refine mr_aload_n (pc' := 12) dX11_value_11 rfl rfl ?_
  refine mr_getI (pc' := 15) (ci := 11) (j := 13) dX11_value_12 rfl rfl rfl (by decide) (by decide) rfl ?_
  obtain ⟨q4, g5, h6⟩ := Option.bind_eq_some_iff.mp h3
  refine mr_cv (pc' := 18) (a := 145) (d1 := 0) dX11_value_15 rfl rfl rfl rfl rfl rfl (by decide) rfl (by decide) (ok_X11_isDigit hR  g5) ?_
  show mr X _ _ 18 _ [.int q4] (MM RR q1.2) _
  by_cases c7 : q4 = (0 : Int32)
  · rw [if_pos c7] at h6
    refine mr_if_eq_t (t := 52) dX11_value_18 (by decide) c7 ?_
    refine mr_aload_n (pc' := 53) dX11_value_52 rfl rfl ?_
    obtain ⟨q8, g9, h10⟩ := Option.bind_eq_some_iff.mp h6
    refine mr_cv (pc' := 56) (a := 145) (d1 := 2) dX11_value_53 rfl rfl rfl rfl rfl rfl (by decide) rfl (by decide) (ok_X11_wordHere hR  g9) ?_
    show mr X _ _ 56 _ [.int q8.1] (MM RR q8.2) _
    refine mr_istore_n (pc' := 57) (lv' := [(2, .int q8.1), (1, .int (q1.2.1 145 13)), (0, .ref 145)]) dX11_value_56 rfl (by decide) rfl ?_
    refine mr_iload_n (pc' := 58) dX11_value_57 rfl rfl ?_
    by_cases c11 : (0 : Int32) ≤ q8.1
    · rw [if_pos c11] at h10
      refine mr_if_ge_t (t := 68) dX11_value_58 (by decide) c11 ?_
      refine mr_aload_n (pc' := 69) dX11_value_68 rfl rfl ?_
      refine mr_iload_n (pc' := 70) dX11_value_69 rfl rfl ?_
      obtain ⟨q12, g13, h14⟩ := Option.bind_eq_some_iff.mp h10
      refine mr_cv (pc' := 73) (a := 145) (d1 := 1) dX11_value_70 rfl rfl rfl rfl rfl rfl (by decide) rfl (by decide) (ok_X11_makes hR  g13) ?_
      show mr X _ _ 73 _ [.int q12.1] (MM RR q12.2) _
      by_cases c15 : q12.1 = (0 : Int32)
      · rw [if_pos c15] at h14
        refine mr_if_ne_f (t := 78) (pc' := 76) dX11_value_73 (by decide) rfl (not_not_intro c15) ?_
        refine mr_iconst (pc' := 77) (v := (0 : Int32)) dX11_value_76 rfl (by decide) ?_
        obtain rfl := Option.some.inj h14
        exact mr_zreturn dX11_value_77 rfl (by decide)
      · rw [if_neg c15] at h14
        refine mr_if_ne_t (t := 78) dX11_value_73 (by decide) c15 ?_
        refine mr_aload_n (pc' := 79) dX11_value_78 rfl rfl ?_
        obtain ⟨q16, g17, h18⟩ := Option.bind_eq_some_iff.mp h14
        refine mr_cv (pc' := 82) (a := 145) (d1 := 1) dX11_value_79 rfl rfl rfl rfl rfl rfl (by decide) rfl (by decide) (ok_X11_passWord hR  g17) ?_
        show mr X _ _ 82 _ [] (MM RR q16) _
        refine mr_aload_n (pc' := 83) dX11_value_82 rfl rfl ?_
        refine mr_iconst (pc' := 84) (v := (1 : Int32)) dX11_value_83 rfl (by decide) ?_
        refine mr_iload_n (pc' := 85) dX11_value_84 rfl rfl ?_
        obtain ⟨q19, g20, h21⟩ := Option.bind_eq_some_iff.mp h18
        refine mr_cv (pc' := 88) (a := 145) (d1 := 0) dX11_value_85 rfl rfl rfl rfl rfl rfl (by decide) rfl (by decide) (ok_X11_puts hR  g20) ?_
        show mr X _ _ 88 _ [] (MM RR q19) _
        refine mr_iconst (pc' := 89) (v := (1 : Int32)) dX11_value_88 rfl (by decide) ?_
        obtain rfl := Option.some.inj h21
        exact mr_zreturn dX11_value_89 rfl (by decide)
    · rw [if_neg c11] at h10
      refine mr_if_ge_f (t := 68) (pc' := 61) dX11_value_58 (by decide) rfl c11 ?_
      refine mr_aload_n (pc' := 62) dX11_value_61 rfl rfl ?_
      refine mr_iconst (pc' := 63) (v := (0 : Int32)) dX11_value_62 rfl (by decide) ?_
      refine mr_iload_n (pc' := 64) dX11_value_63 rfl rfl ?_
      obtain ⟨q22, g23, h24⟩ := Option.bind_eq_some_iff.mp h10
      refine mr_cv (pc' := 67) (a := 145) (d1 := 0) dX11_value_64 rfl rfl rfl rfl rfl rfl (by decide) rfl (by decide) (ok_X11_fails hR  g23) ?_
      show mr X _ _ 67 _ [.int q22.1] (MM RR q22.2) _
      obtain ⟨z25, g26, h27⟩ := Option.bind_eq_some_iff.mp h24
      obtain ⟨g28, e29⟩ := mm_ifs g26
      cases e29
      cases h27
      exact mr_zreturn dX11_value_67 rfl g28
  · rw [if_neg c7] at h6
    refine mr_if_eq_f (t := 52) (pc' := 21) dX11_value_18 (by decide) rfl c7 ?_
    refine mr_aload_n (pc' := 22) dX11_value_21 rfl rfl ?_
    refine mr_iconst (pc' := 23) (v := (0 : Int32)) dX11_value_22 rfl (by decide) ?_
    refine mr_ldc (pc' := 25) (v := (99999 : Int32)) dX11_value_23 rfl rfl ?_
    obtain ⟨q30, g31, h32⟩ := Option.bind_eq_some_iff.mp h6
    refine mr_cv (pc' := 28) (a := 145) (d1 := 1) dX11_value_25 rfl rfl rfl rfl rfl rfl (by decide) rfl (by decide) (ok_X11_numberHere hR  g31) ?_
    show mr X _ _ 28 _ [.int q30.1] (MM RR q30.2) _
    by_cases c33 : q30.1 = (0 : Int32)
    · rw [if_pos c33] at h32
      refine mr_if_eq_t (t := 39) dX11_value_28 (by decide) c33 ?_
      refine mr_iconst (pc' := 40) (v := (0 : Int32)) dX11_value_39 rfl (by decide) ?_
      obtain rfl := Option.some.inj h32
      exact mr_zreturn dX11_value_40 rfl (by decide)
    · rw [if_neg c33] at h32
      refine mr_if_eq_f (t := 39) (pc' := 31) dX11_value_28 (by decide) rfl c33 ?_
      refine mr_aload_n (pc' := 32) dX11_value_31 rfl rfl ?_
      refine mr_iload_n (pc' := 33) dX11_value_32 rfl rfl ?_
      obtain ⟨q34, g35, h36⟩ := Option.bind_eq_some_iff.mp h32
      refine mr_cv (pc' := 36) (a := 145) (d1 := 1) dX11_value_33 rfl rfl rfl rfl rfl rfl (by decide) rfl (by decide) (ok_X11_makes hR  g35) ?_
      show mr X _ _ 36 _ [.int q34.1] (MM RR q34.2) _
      by_cases c37 : q34.1 = (0 : Int32)
      · rw [if_pos c37] at h36
        refine mr_if_ne_f (t := 41) (pc' := 39) dX11_value_36 (by decide) rfl (not_not_intro c37) ?_
        refine mr_iconst (pc' := 40) (v := (0 : Int32)) dX11_value_39 rfl (by decide) ?_
        obtain rfl := Option.some.inj h36
        exact mr_zreturn dX11_value_40 rfl (by decide)
      · rw [if_neg c37] at h36
        refine mr_if_ne_t (t := 41) dX11_value_36 (by decide) c37 ?_
        refine mr_aload_n (pc' := 42) dX11_value_41 rfl rfl ?_
        refine mr_iconst (pc' := 43) (v := (0 : Int32)) dX11_value_42 rfl (by decide) ?_
        refine mr_aload_n (pc' := 44) dX11_value_43 rfl rfl ?_
        refine mr_getI (pc' := 47) (ci := 11) (j := 15) dX11_value_44 rfl rfl rfl (by decide) (by decide) rfl ?_
        obtain ⟨q38, g39, h40⟩ := Option.bind_eq_some_iff.mp h36
        refine mr_cv (pc' := 50) (a := 145) (d1 := 0) dX11_value_47 rfl rfl rfl rfl rfl rfl (by decide) rfl (by decide) (ok_X11_puts hR  g39) ?_
        show mr X _ _ 50 _ [] (MM RR q38) _
        refine mr_iconst (pc' := 51) (v := (1 : Int32)) dX11_value_50 rfl (by decide) ?_
        obtain rfl := Option.some.inj h40
        exact mr_zreturn dX11_value_51 rfl (by decide)
def lp_X11_term_9  (K : fS → Option (Int32 × fS)) : Nat → fS → Option (Int32 × fS)
  | 0, _ => none
  | n + 1, S0 =>
    (f_X11_see  S0).bind fun q5 =>
    if q5.1 = (42 : Int32) then ((gI q5.2 146 400 (q5.2.1 145 13)).bind fun a9 =>
    if a9 = (42 : Int32) then ((some (pI q5.2 145 13 ((q5.2.1 145 13) + (1 : Int32)))).bind fun S23 =>
    (f_X11_value  S23).bind fun q26 =>
    if q26.1 = (0 : Int32) then (some ((0 : Int32), q26.2)) else
    ((f_X11_puts (4 : Int32) (0 : Int32) q26.2).bind fun q30 =>
    lp_X11_term_9  K n  q30)) else
    ((some (pI q5.2 145 13 ((q5.2.1 145 13) + (1 : Int32)))).bind fun S13 =>
    (f_X11_value  S13).bind fun q16 =>
    if q16.1 = (0 : Int32) then (some ((0 : Int32), q16.2)) else
    ((f_X11_puts (5 : Int32) (0 : Int32) q16.2).bind fun q20 =>
    lp_X11_term_9  K n  q20))) else
    ((f_X11_see  q5.2).bind fun q33 =>
    if q33.1 = (47 : Int32) then ((gI q33.2 146 400 (q33.2.1 145 13)).bind fun a37 =>
    if a37 = (42 : Int32) then ((some (pI q33.2 145 13 ((q33.2.1 145 13) + (1 : Int32)))).bind fun S51 =>
    (f_X11_value  S51).bind fun q54 =>
    if q54.1 = (0 : Int32) then (some ((0 : Int32), q54.2)) else
    ((f_X11_puts (4 : Int32) (0 : Int32) q54.2).bind fun q58 =>
    lp_X11_term_9  K n  q58)) else
    ((some (pI q33.2 145 13 ((q33.2.1 145 13) + (1 : Int32)))).bind fun S41 =>
    (f_X11_value  S41).bind fun q44 =>
    if q44.1 = (0 : Int32) then (some ((0 : Int32), q44.2)) else
    ((f_X11_puts (5 : Int32) (0 : Int32) q44.2).bind fun q48 =>
    lp_X11_term_9  K n  q48))) else
    (K q33.2))
set_option maxHeartbeats 4000000 in
set_option maxRecDepth 100000 in
theorem ok_lp_X11_term_9 {X : mm_C} {RR : Nat → Nat → Option Nat} (hR : RRok RR)   {K : fS → Option (Int32 × fS)} {r : Int32 × fS} (hK : ∀ (Sk : fS), K Sk = some r → mr X 4 mY_X11_term 75 [] [] (MM RR Sk) (some (.int r.1), MM RR r.2)) : ∀ (n : Nat) (S0 : fS), lp_X11_term_9  K n S0 = some r → mr X 4 mY_X11_term 9 [(0, .ref 145)] [] (MM RR S0) (some (.int r.1), MM RR r.2) := by
  intro n
  induction n with
  | zero => intro S0 h; exact mm_no h
  | succ n ih =>
    intro S0 h
    unfold lp_X11_term_9 at h
    refine mr_aload_n (pc' := 10) dX11_term_9 rfl rfl ?_
    obtain ⟨q5, g6, h7⟩ := Option.bind_eq_some_iff.mp h
    refine mr_cv (pc' := 13) (a := 145) (d1 := 0) dX11_term_10 rfl rfl rfl rfl rfl rfl (by decide) rfl (by decide) (ok_X11_see hR  g6) ?_
    show mr X _ _ 13 _ [.int q5.1] (MM RR q5.2) _
    refine mr_bipush (pc' := 15) (v := (42 : Int32)) dX11_term_13 rfl (by decide) ?_
    by_cases c8 : q5.1 = (42 : Int32)
    · rw [if_pos c8] at h7
      refine mr_icmp_eq_t (t := 27) dX11_term_15 (by decide) c8 ?_
      refine mr_aload_n (pc' := 28) dX11_term_27 rfl rfl ?_
      refine mr_getR (pc' := 31) (ci := 11) (j := 0) (b := 146) hR dX11_term_28 rfl rfl rfl (by decide) (by decide) (by decide) rfl rfl ?_
      refine mr_aload_n (pc' := 32) dX11_term_31 rfl rfl ?_
      refine mr_getI (pc' := 35) (ci := 11) (j := 13) dX11_term_32 rfl rfl rfl (by decide) (by decide) rfl ?_
      obtain ⟨a9, g10, h11⟩ := Option.bind_eq_some_iff.mp h7
      refine mr_bald (pc' := 36) dX11_term_35 rfl (Or.inl rfl) rfl g10 ?_
      refine mr_bipush (pc' := 38) (v := (42 : Int32)) dX11_term_36 rfl (by decide) ?_
      by_cases c12 : a9 = (42 : Int32)
      · rw [if_pos c12] at h11
        refine mr_icmp_ne_f (t := 45) (pc' := 41) dX11_term_38 (by decide) rfl (not_not_intro c12) ?_
        refine mr_iconst (pc' := 42) (v := (4 : Int32)) dX11_term_41 rfl (by decide) ?_
        refine mr_goto (t := 46) dX11_term_42 (by decide) ?_
        refine mr_istore_n (pc' := 47) (lv' := [(1, .int (4 : Int32)), (0, .ref 145)]) dX11_term_46 rfl (by decide) rfl ?_
        refine mr_aload_n (pc' := 48) dX11_term_47 rfl rfl ?_
        refine mr_dup_ref (pc' := 49) dX11_term_48 rfl ?_
        refine mr_getI (pc' := 52) (ci := 11) (j := 13) dX11_term_49 rfl rfl rfl (by decide) (by decide) rfl ?_
        refine mr_iconst (pc' := 53) (v := (1 : Int32)) dX11_term_52 rfl (by decide) ?_
        refine mr_iadd (pc' := 54) dX11_term_53 rfl ?_
        obtain ⟨S23, g24, h25⟩ := Option.bind_eq_some_iff.mp h11
        refine mr_putI (pc' := 57) (ci := 11) (j := 13) dX11_term_54 rfl rfl rfl (by decide) (by decide) rfl rfl ?_
        rw [Option.some.inj g24]
        refine mr_aload_n (pc' := 58) dX11_term_57 rfl rfl ?_
        obtain ⟨q26, g27, h28⟩ := Option.bind_eq_some_iff.mp h25
        refine mr_cv (pc' := 61) (a := 145) (d1 := 3) dX11_term_58 rfl rfl rfl rfl rfl rfl (by decide) rfl (by decide) (ok_X11_value hR  g27) ?_
        show mr X _ _ 61 _ [.int q26.1] (MM RR q26.2) _
        by_cases c29 : q26.1 = (0 : Int32)
        · rw [if_pos c29] at h28
          refine mr_if_ne_f (t := 66) (pc' := 64) dX11_term_61 (by decide) rfl (not_not_intro c29) ?_
          refine mr_iconst (pc' := 65) (v := (0 : Int32)) dX11_term_64 rfl (by decide) ?_
          obtain rfl := Option.some.inj h28
          exact mr_zreturn dX11_term_65 rfl (by decide)
        · rw [if_neg c29] at h28
          refine mr_if_ne_t (t := 66) dX11_term_61 (by decide) c29 ?_
          refine mr_aload_n (pc' := 67) dX11_term_66 rfl rfl ?_
          refine mr_iload_n (pc' := 68) dX11_term_67 rfl rfl ?_
          refine mr_iconst (pc' := 69) (v := (0 : Int32)) dX11_term_68 rfl (by decide) ?_
          obtain ⟨q30, g31, h32⟩ := Option.bind_eq_some_iff.mp h28
          refine mr_cv (pc' := 72) (a := 145) (d1 := 0) dX11_term_69 rfl rfl rfl rfl rfl rfl (by decide) rfl (by decide) (ok_X11_puts hR  g31) ?_
          show mr X _ _ 72 _ [] (MM RR q30) _
          refine mr_goto (t := 9) dX11_term_72 (by decide) ?_
          exact mr_sub [(0, .ref 145)] ⟨rfl, trivial⟩ rfl (ih _  h32)
      · rw [if_neg c12] at h11
        refine mr_icmp_ne_t (t := 45) dX11_term_38 (by decide) c12 ?_
        refine mr_iconst (pc' := 46) (v := (5 : Int32)) dX11_term_45 rfl (by decide) ?_
        refine mr_istore_n (pc' := 47) (lv' := [(1, .int (5 : Int32)), (0, .ref 145)]) dX11_term_46 rfl (by decide) rfl ?_
        refine mr_aload_n (pc' := 48) dX11_term_47 rfl rfl ?_
        refine mr_dup_ref (pc' := 49) dX11_term_48 rfl ?_
        refine mr_getI (pc' := 52) (ci := 11) (j := 13) dX11_term_49 rfl rfl rfl (by decide) (by decide) rfl ?_
        refine mr_iconst (pc' := 53) (v := (1 : Int32)) dX11_term_52 rfl (by decide) ?_
        refine mr_iadd (pc' := 54) dX11_term_53 rfl ?_
        obtain ⟨S13, g14, h15⟩ := Option.bind_eq_some_iff.mp h11
        refine mr_putI (pc' := 57) (ci := 11) (j := 13) dX11_term_54 rfl rfl rfl (by decide) (by decide) rfl rfl ?_
        rw [Option.some.inj g14]
        refine mr_aload_n (pc' := 58) dX11_term_57 rfl rfl ?_
        obtain ⟨q16, g17, h18⟩ := Option.bind_eq_some_iff.mp h15
        refine mr_cv (pc' := 61) (a := 145) (d1 := 3) dX11_term_58 rfl rfl rfl rfl rfl rfl (by decide) rfl (by decide) (ok_X11_value hR  g17) ?_
        show mr X _ _ 61 _ [.int q16.1] (MM RR q16.2) _
        by_cases c19 : q16.1 = (0 : Int32)
        · rw [if_pos c19] at h18
          refine mr_if_ne_f (t := 66) (pc' := 64) dX11_term_61 (by decide) rfl (not_not_intro c19) ?_
          refine mr_iconst (pc' := 65) (v := (0 : Int32)) dX11_term_64 rfl (by decide) ?_
          obtain rfl := Option.some.inj h18
          exact mr_zreturn dX11_term_65 rfl (by decide)
        · rw [if_neg c19] at h18
          refine mr_if_ne_t (t := 66) dX11_term_61 (by decide) c19 ?_
          refine mr_aload_n (pc' := 67) dX11_term_66 rfl rfl ?_
          refine mr_iload_n (pc' := 68) dX11_term_67 rfl rfl ?_
          refine mr_iconst (pc' := 69) (v := (0 : Int32)) dX11_term_68 rfl (by decide) ?_
          obtain ⟨q20, g21, h22⟩ := Option.bind_eq_some_iff.mp h18
          refine mr_cv (pc' := 72) (a := 145) (d1 := 0) dX11_term_69 rfl rfl rfl rfl rfl rfl (by decide) rfl (by decide) (ok_X11_puts hR  g21) ?_
          show mr X _ _ 72 _ [] (MM RR q20) _
          refine mr_goto (t := 9) dX11_term_72 (by decide) ?_
          exact mr_sub [(0, .ref 145)] ⟨rfl, trivial⟩ rfl (ih _  h22)
    · rw [if_neg c8] at h7
      refine mr_icmp_eq_f (t := 27) (pc' := 18) dX11_term_15 (by decide) rfl c8 ?_
      refine mr_aload_n (pc' := 19) dX11_term_18 rfl rfl ?_
      obtain ⟨q33, g34, h35⟩ := Option.bind_eq_some_iff.mp h7
      refine mr_cv (pc' := 22) (a := 145) (d1 := 0) dX11_term_19 rfl rfl rfl rfl rfl rfl (by decide) rfl (by decide) (ok_X11_see hR  g34) ?_
      show mr X _ _ 22 _ [.int q33.1] (MM RR q33.2) _
      refine mr_bipush (pc' := 24) (v := (47 : Int32)) dX11_term_22 rfl (by decide) ?_
      by_cases c36 : q33.1 = (47 : Int32)
      · rw [if_pos c36] at h35
        refine mr_icmp_ne_f (t := 75) (pc' := 27) dX11_term_24 (by decide) rfl (not_not_intro c36) ?_
        refine mr_aload_n (pc' := 28) dX11_term_27 rfl rfl ?_
        refine mr_getR (pc' := 31) (ci := 11) (j := 0) (b := 146) hR dX11_term_28 rfl rfl rfl (by decide) (by decide) (by decide) rfl rfl ?_
        refine mr_aload_n (pc' := 32) dX11_term_31 rfl rfl ?_
        refine mr_getI (pc' := 35) (ci := 11) (j := 13) dX11_term_32 rfl rfl rfl (by decide) (by decide) rfl ?_
        obtain ⟨a37, g38, h39⟩ := Option.bind_eq_some_iff.mp h35
        refine mr_bald (pc' := 36) dX11_term_35 rfl (Or.inl rfl) rfl g38 ?_
        refine mr_bipush (pc' := 38) (v := (42 : Int32)) dX11_term_36 rfl (by decide) ?_
        by_cases c40 : a37 = (42 : Int32)
        · rw [if_pos c40] at h39
          refine mr_icmp_ne_f (t := 45) (pc' := 41) dX11_term_38 (by decide) rfl (not_not_intro c40) ?_
          refine mr_iconst (pc' := 42) (v := (4 : Int32)) dX11_term_41 rfl (by decide) ?_
          refine mr_goto (t := 46) dX11_term_42 (by decide) ?_
          refine mr_istore_n (pc' := 47) (lv' := [(1, .int (4 : Int32)), (0, .ref 145)]) dX11_term_46 rfl (by decide) rfl ?_
          refine mr_aload_n (pc' := 48) dX11_term_47 rfl rfl ?_
          refine mr_dup_ref (pc' := 49) dX11_term_48 rfl ?_
          refine mr_getI (pc' := 52) (ci := 11) (j := 13) dX11_term_49 rfl rfl rfl (by decide) (by decide) rfl ?_
          refine mr_iconst (pc' := 53) (v := (1 : Int32)) dX11_term_52 rfl (by decide) ?_
          refine mr_iadd (pc' := 54) dX11_term_53 rfl ?_
          obtain ⟨S51, g52, h53⟩ := Option.bind_eq_some_iff.mp h39
          refine mr_putI (pc' := 57) (ci := 11) (j := 13) dX11_term_54 rfl rfl rfl (by decide) (by decide) rfl rfl ?_
          rw [Option.some.inj g52]
          refine mr_aload_n (pc' := 58) dX11_term_57 rfl rfl ?_
          obtain ⟨q54, g55, h56⟩ := Option.bind_eq_some_iff.mp h53
          refine mr_cv (pc' := 61) (a := 145) (d1 := 3) dX11_term_58 rfl rfl rfl rfl rfl rfl (by decide) rfl (by decide) (ok_X11_value hR  g55) ?_
          show mr X _ _ 61 _ [.int q54.1] (MM RR q54.2) _
          by_cases c57 : q54.1 = (0 : Int32)
          · rw [if_pos c57] at h56
            refine mr_if_ne_f (t := 66) (pc' := 64) dX11_term_61 (by decide) rfl (not_not_intro c57) ?_
            refine mr_iconst (pc' := 65) (v := (0 : Int32)) dX11_term_64 rfl (by decide) ?_
            obtain rfl := Option.some.inj h56
            exact mr_zreturn dX11_term_65 rfl (by decide)
          · rw [if_neg c57] at h56
            refine mr_if_ne_t (t := 66) dX11_term_61 (by decide) c57 ?_
            refine mr_aload_n (pc' := 67) dX11_term_66 rfl rfl ?_
            refine mr_iload_n (pc' := 68) dX11_term_67 rfl rfl ?_
            refine mr_iconst (pc' := 69) (v := (0 : Int32)) dX11_term_68 rfl (by decide) ?_
            obtain ⟨q58, g59, h60⟩ := Option.bind_eq_some_iff.mp h56
            refine mr_cv (pc' := 72) (a := 145) (d1 := 0) dX11_term_69 rfl rfl rfl rfl rfl rfl (by decide) rfl (by decide) (ok_X11_puts hR  g59) ?_
            show mr X _ _ 72 _ [] (MM RR q58) _
            refine mr_goto (t := 9) dX11_term_72 (by decide) ?_
            exact mr_sub [(0, .ref 145)] ⟨rfl, trivial⟩ rfl (ih _  h60)
        · rw [if_neg c40] at h39
          refine mr_icmp_ne_t (t := 45) dX11_term_38 (by decide) c40 ?_
          refine mr_iconst (pc' := 46) (v := (5 : Int32)) dX11_term_45 rfl (by decide) ?_
          refine mr_istore_n (pc' := 47) (lv' := [(1, .int (5 : Int32)), (0, .ref 145)]) dX11_term_46 rfl (by decide) rfl ?_
          refine mr_aload_n (pc' := 48) dX11_term_47 rfl rfl ?_
          refine mr_dup_ref (pc' := 49) dX11_term_48 rfl ?_
          refine mr_getI (pc' := 52) (ci := 11) (j := 13) dX11_term_49 rfl rfl rfl (by decide) (by decide) rfl ?_
          refine mr_iconst (pc' := 53) (v := (1 : Int32)) dX11_term_52 rfl (by decide) ?_
          refine mr_iadd (pc' := 54) dX11_term_53 rfl ?_
          obtain ⟨S41, g42, h43⟩ := Option.bind_eq_some_iff.mp h39
          refine mr_putI (pc' := 57) (ci := 11) (j := 13) dX11_term_54 rfl rfl rfl (by decide) (by decide) rfl rfl ?_
          rw [Option.some.inj g42]
          refine mr_aload_n (pc' := 58) dX11_term_57 rfl rfl ?_
          obtain ⟨q44, g45, h46⟩ := Option.bind_eq_some_iff.mp h43
          refine mr_cv (pc' := 61) (a := 145) (d1 := 3) dX11_term_58 rfl rfl rfl rfl rfl rfl (by decide) rfl (by decide) (ok_X11_value hR  g45) ?_
          show mr X _ _ 61 _ [.int q44.1] (MM RR q44.2) _
          by_cases c47 : q44.1 = (0 : Int32)
          · rw [if_pos c47] at h46
            refine mr_if_ne_f (t := 66) (pc' := 64) dX11_term_61 (by decide) rfl (not_not_intro c47) ?_
            refine mr_iconst (pc' := 65) (v := (0 : Int32)) dX11_term_64 rfl (by decide) ?_
            obtain rfl := Option.some.inj h46
            exact mr_zreturn dX11_term_65 rfl (by decide)
          · rw [if_neg c47] at h46
            refine mr_if_ne_t (t := 66) dX11_term_61 (by decide) c47 ?_
            refine mr_aload_n (pc' := 67) dX11_term_66 rfl rfl ?_
            refine mr_iload_n (pc' := 68) dX11_term_67 rfl rfl ?_
            refine mr_iconst (pc' := 69) (v := (0 : Int32)) dX11_term_68 rfl (by decide) ?_
            obtain ⟨q48, g49, h50⟩ := Option.bind_eq_some_iff.mp h46
            refine mr_cv (pc' := 72) (a := 145) (d1 := 0) dX11_term_69 rfl rfl rfl rfl rfl rfl (by decide) rfl (by decide) (ok_X11_puts hR  g49) ?_
            show mr X _ _ 72 _ [] (MM RR q48) _
            refine mr_goto (t := 9) dX11_term_72 (by decide) ?_
            exact mr_sub [(0, .ref 145)] ⟨rfl, trivial⟩ rfl (ih _  h50)
      · rw [if_neg c36] at h35
        refine mr_icmp_ne_t (t := 75) dX11_term_24 (by decide) c36 ?_
        exact mr_sub [] trivial rfl (hK _  h35)
def f_X11_term  (S : fS) : Option (Int32 × fS) :=
  (f_X11_value  S).bind fun q1 =>
  if q1.1 = (0 : Int32) then (some ((0 : Int32), q1.2)) else
  (lp_X11_term_9  (fun S61 => some ((1 : Int32), S61)) FU  q1.2)
set_option maxHeartbeats 4000000 in
set_option maxRecDepth 100000 in
theorem ok_X11_term {X : mm_C} {RR : Nat → Nat → Option Nat} (hR : RRok RR)   {S : fS} {r : Int32 × fS} (h : f_X11_term  S = some r) : mr X 4 mY_X11_term 0 (lv_args 0 [.ref 145]) [] (MM RR S) (some (.int r.1), MM RR r.2) := by
  unfold f_X11_term at h
  show mr X _ _ 0 [(0, .ref 145)] [] (MM RR S) _
  refine mr_aload_n (pc' := 1) dX11_term_0 rfl rfl ?_
  obtain ⟨q1, g2, h3⟩ := Option.bind_eq_some_iff.mp h
  refine mr_cv (pc' := 4) (a := 145) (d1 := 3) dX11_term_1 rfl rfl rfl rfl rfl rfl (by decide) rfl (by decide) (ok_X11_value hR  g2) ?_
  show mr X _ _ 4 _ [.int q1.1] (MM RR q1.2) _
  by_cases c4 : q1.1 = (0 : Int32)
  · rw [if_pos c4] at h3
    refine mr_if_ne_f (t := 9) (pc' := 7) dX11_term_4 (by decide) rfl (not_not_intro c4) ?_
    refine mr_iconst (pc' := 8) (v := (0 : Int32)) dX11_term_7 rfl (by decide) ?_
    obtain rfl := Option.some.inj h3
    exact mr_zreturn dX11_term_8 rfl (by decide)
  · rw [if_neg c4] at h3
    refine mr_if_ne_t (t := 9) dX11_term_4 (by decide) c4 ?_
    refine mr_sub [(0, .ref 145)] ⟨rfl, trivial⟩ rfl ?_
    refine ok_lp_X11_term_9 hR  (fun S61 h62 => ?_) FU _  h3
    refine mr_iconst (pc' := 76) (v := (1 : Int32)) dX11_term_75 rfl (by decide) ?_
    obtain rfl := Option.some.inj h62
    exact mr_zreturn dX11_term_76 rfl (by decide)
def lp_X11_sum_9  (K : fS → Option (Int32 × fS)) : Nat → fS → Option (Int32 × fS)
  | 0, _ => none
  | n + 1, S0 =>
    (f_X11_see  S0).bind fun q5 =>
    if q5.1 = (43 : Int32) then ((gI q5.2 146 400 (q5.2.1 145 13)).bind fun a9 =>
    if a9 = (43 : Int32) then ((some (pI q5.2 145 13 ((q5.2.1 145 13) + (1 : Int32)))).bind fun S23 =>
    (f_X11_term  S23).bind fun q26 =>
    if q26.1 = (0 : Int32) then (some ((0 : Int32), q26.2)) else
    ((f_X11_puts (2 : Int32) (0 : Int32) q26.2).bind fun q30 =>
    lp_X11_sum_9  K n  q30)) else
    ((some (pI q5.2 145 13 ((q5.2.1 145 13) + (1 : Int32)))).bind fun S13 =>
    (f_X11_term  S13).bind fun q16 =>
    if q16.1 = (0 : Int32) then (some ((0 : Int32), q16.2)) else
    ((f_X11_puts (3 : Int32) (0 : Int32) q16.2).bind fun q20 =>
    lp_X11_sum_9  K n  q20))) else
    ((f_X11_see  q5.2).bind fun q33 =>
    if q33.1 = (45 : Int32) then ((gI q33.2 146 400 (q33.2.1 145 13)).bind fun a37 =>
    if a37 = (43 : Int32) then ((some (pI q33.2 145 13 ((q33.2.1 145 13) + (1 : Int32)))).bind fun S51 =>
    (f_X11_term  S51).bind fun q54 =>
    if q54.1 = (0 : Int32) then (some ((0 : Int32), q54.2)) else
    ((f_X11_puts (2 : Int32) (0 : Int32) q54.2).bind fun q58 =>
    lp_X11_sum_9  K n  q58)) else
    ((some (pI q33.2 145 13 ((q33.2.1 145 13) + (1 : Int32)))).bind fun S41 =>
    (f_X11_term  S41).bind fun q44 =>
    if q44.1 = (0 : Int32) then (some ((0 : Int32), q44.2)) else
    ((f_X11_puts (3 : Int32) (0 : Int32) q44.2).bind fun q48 =>
    lp_X11_sum_9  K n  q48))) else
    (K q33.2))
set_option maxHeartbeats 4000000 in
set_option maxRecDepth 100000 in
theorem ok_lp_X11_sum_9 {X : mm_C} {RR : Nat → Nat → Option Nat} (hR : RRok RR)   {K : fS → Option (Int32 × fS)} {r : Int32 × fS} (hK : ∀ (Sk : fS), K Sk = some r → mr X 5 mY_X11_sum 75 [] [] (MM RR Sk) (some (.int r.1), MM RR r.2)) : ∀ (n : Nat) (S0 : fS), lp_X11_sum_9  K n S0 = some r → mr X 5 mY_X11_sum 9 [(0, .ref 145)] [] (MM RR S0) (some (.int r.1), MM RR r.2) := by
  intro n
  induction n with
  | zero => intro S0 h; exact mm_no h
  | succ n ih =>
    intro S0 h
    unfold lp_X11_sum_9 at h
    refine mr_aload_n (pc' := 10) dX11_sum_9 rfl rfl ?_
    obtain ⟨q5, g6, h7⟩ := Option.bind_eq_some_iff.mp h
    refine mr_cv (pc' := 13) (a := 145) (d1 := 0) dX11_sum_10 rfl rfl rfl rfl rfl rfl (by decide) rfl (by decide) (ok_X11_see hR  g6) ?_
    show mr X _ _ 13 _ [.int q5.1] (MM RR q5.2) _
    refine mr_bipush (pc' := 15) (v := (43 : Int32)) dX11_sum_13 rfl (by decide) ?_
    by_cases c8 : q5.1 = (43 : Int32)
    · rw [if_pos c8] at h7
      refine mr_icmp_eq_t (t := 27) dX11_sum_15 (by decide) c8 ?_
      refine mr_aload_n (pc' := 28) dX11_sum_27 rfl rfl ?_
      refine mr_getR (pc' := 31) (ci := 11) (j := 0) (b := 146) hR dX11_sum_28 rfl rfl rfl (by decide) (by decide) (by decide) rfl rfl ?_
      refine mr_aload_n (pc' := 32) dX11_sum_31 rfl rfl ?_
      refine mr_getI (pc' := 35) (ci := 11) (j := 13) dX11_sum_32 rfl rfl rfl (by decide) (by decide) rfl ?_
      obtain ⟨a9, g10, h11⟩ := Option.bind_eq_some_iff.mp h7
      refine mr_bald (pc' := 36) dX11_sum_35 rfl (Or.inl rfl) rfl g10 ?_
      refine mr_bipush (pc' := 38) (v := (43 : Int32)) dX11_sum_36 rfl (by decide) ?_
      by_cases c12 : a9 = (43 : Int32)
      · rw [if_pos c12] at h11
        refine mr_icmp_ne_f (t := 45) (pc' := 41) dX11_sum_38 (by decide) rfl (not_not_intro c12) ?_
        refine mr_iconst (pc' := 42) (v := (2 : Int32)) dX11_sum_41 rfl (by decide) ?_
        refine mr_goto (t := 46) dX11_sum_42 (by decide) ?_
        refine mr_istore_n (pc' := 47) (lv' := [(1, .int (2 : Int32)), (0, .ref 145)]) dX11_sum_46 rfl (by decide) rfl ?_
        refine mr_aload_n (pc' := 48) dX11_sum_47 rfl rfl ?_
        refine mr_dup_ref (pc' := 49) dX11_sum_48 rfl ?_
        refine mr_getI (pc' := 52) (ci := 11) (j := 13) dX11_sum_49 rfl rfl rfl (by decide) (by decide) rfl ?_
        refine mr_iconst (pc' := 53) (v := (1 : Int32)) dX11_sum_52 rfl (by decide) ?_
        refine mr_iadd (pc' := 54) dX11_sum_53 rfl ?_
        obtain ⟨S23, g24, h25⟩ := Option.bind_eq_some_iff.mp h11
        refine mr_putI (pc' := 57) (ci := 11) (j := 13) dX11_sum_54 rfl rfl rfl (by decide) (by decide) rfl rfl ?_
        rw [Option.some.inj g24]
        refine mr_aload_n (pc' := 58) dX11_sum_57 rfl rfl ?_
        obtain ⟨q26, g27, h28⟩ := Option.bind_eq_some_iff.mp h25
        refine mr_cv (pc' := 61) (a := 145) (d1 := 4) dX11_sum_58 rfl rfl rfl rfl rfl rfl (by decide) rfl (by decide) (ok_X11_term hR  g27) ?_
        show mr X _ _ 61 _ [.int q26.1] (MM RR q26.2) _
        by_cases c29 : q26.1 = (0 : Int32)
        · rw [if_pos c29] at h28
          refine mr_if_ne_f (t := 66) (pc' := 64) dX11_sum_61 (by decide) rfl (not_not_intro c29) ?_
          refine mr_iconst (pc' := 65) (v := (0 : Int32)) dX11_sum_64 rfl (by decide) ?_
          obtain rfl := Option.some.inj h28
          exact mr_zreturn dX11_sum_65 rfl (by decide)
        · rw [if_neg c29] at h28
          refine mr_if_ne_t (t := 66) dX11_sum_61 (by decide) c29 ?_
          refine mr_aload_n (pc' := 67) dX11_sum_66 rfl rfl ?_
          refine mr_iload_n (pc' := 68) dX11_sum_67 rfl rfl ?_
          refine mr_iconst (pc' := 69) (v := (0 : Int32)) dX11_sum_68 rfl (by decide) ?_
          obtain ⟨q30, g31, h32⟩ := Option.bind_eq_some_iff.mp h28
          refine mr_cv (pc' := 72) (a := 145) (d1 := 0) dX11_sum_69 rfl rfl rfl rfl rfl rfl (by decide) rfl (by decide) (ok_X11_puts hR  g31) ?_
          show mr X _ _ 72 _ [] (MM RR q30) _
          refine mr_goto (t := 9) dX11_sum_72 (by decide) ?_
          exact mr_sub [(0, .ref 145)] ⟨rfl, trivial⟩ rfl (ih _  h32)
      · rw [if_neg c12] at h11
        refine mr_icmp_ne_t (t := 45) dX11_sum_38 (by decide) c12 ?_
        refine mr_iconst (pc' := 46) (v := (3 : Int32)) dX11_sum_45 rfl (by decide) ?_
        refine mr_istore_n (pc' := 47) (lv' := [(1, .int (3 : Int32)), (0, .ref 145)]) dX11_sum_46 rfl (by decide) rfl ?_
        refine mr_aload_n (pc' := 48) dX11_sum_47 rfl rfl ?_
        refine mr_dup_ref (pc' := 49) dX11_sum_48 rfl ?_
        refine mr_getI (pc' := 52) (ci := 11) (j := 13) dX11_sum_49 rfl rfl rfl (by decide) (by decide) rfl ?_
        refine mr_iconst (pc' := 53) (v := (1 : Int32)) dX11_sum_52 rfl (by decide) ?_
        refine mr_iadd (pc' := 54) dX11_sum_53 rfl ?_
        obtain ⟨S13, g14, h15⟩ := Option.bind_eq_some_iff.mp h11
        refine mr_putI (pc' := 57) (ci := 11) (j := 13) dX11_sum_54 rfl rfl rfl (by decide) (by decide) rfl rfl ?_
        rw [Option.some.inj g14]
        refine mr_aload_n (pc' := 58) dX11_sum_57 rfl rfl ?_
        obtain ⟨q16, g17, h18⟩ := Option.bind_eq_some_iff.mp h15
        refine mr_cv (pc' := 61) (a := 145) (d1 := 4) dX11_sum_58 rfl rfl rfl rfl rfl rfl (by decide) rfl (by decide) (ok_X11_term hR  g17) ?_
        show mr X _ _ 61 _ [.int q16.1] (MM RR q16.2) _
        by_cases c19 : q16.1 = (0 : Int32)
        · rw [if_pos c19] at h18
          refine mr_if_ne_f (t := 66) (pc' := 64) dX11_sum_61 (by decide) rfl (not_not_intro c19) ?_
          refine mr_iconst (pc' := 65) (v := (0 : Int32)) dX11_sum_64 rfl (by decide) ?_
          obtain rfl := Option.some.inj h18
          exact mr_zreturn dX11_sum_65 rfl (by decide)
        · rw [if_neg c19] at h18
          refine mr_if_ne_t (t := 66) dX11_sum_61 (by decide) c19 ?_
          refine mr_aload_n (pc' := 67) dX11_sum_66 rfl rfl ?_
          refine mr_iload_n (pc' := 68) dX11_sum_67 rfl rfl ?_
          refine mr_iconst (pc' := 69) (v := (0 : Int32)) dX11_sum_68 rfl (by decide) ?_
          obtain ⟨q20, g21, h22⟩ := Option.bind_eq_some_iff.mp h18
          refine mr_cv (pc' := 72) (a := 145) (d1 := 0) dX11_sum_69 rfl rfl rfl rfl rfl rfl (by decide) rfl (by decide) (ok_X11_puts hR  g21) ?_
          show mr X _ _ 72 _ [] (MM RR q20) _
          refine mr_goto (t := 9) dX11_sum_72 (by decide) ?_
          exact mr_sub [(0, .ref 145)] ⟨rfl, trivial⟩ rfl (ih _  h22)
    · rw [if_neg c8] at h7
      refine mr_icmp_eq_f (t := 27) (pc' := 18) dX11_sum_15 (by decide) rfl c8 ?_
      refine mr_aload_n (pc' := 19) dX11_sum_18 rfl rfl ?_
      obtain ⟨q33, g34, h35⟩ := Option.bind_eq_some_iff.mp h7
      refine mr_cv (pc' := 22) (a := 145) (d1 := 0) dX11_sum_19 rfl rfl rfl rfl rfl rfl (by decide) rfl (by decide) (ok_X11_see hR  g34) ?_
      show mr X _ _ 22 _ [.int q33.1] (MM RR q33.2) _
      refine mr_bipush (pc' := 24) (v := (45 : Int32)) dX11_sum_22 rfl (by decide) ?_
      by_cases c36 : q33.1 = (45 : Int32)
      · rw [if_pos c36] at h35
        refine mr_icmp_ne_f (t := 75) (pc' := 27) dX11_sum_24 (by decide) rfl (not_not_intro c36) ?_
        refine mr_aload_n (pc' := 28) dX11_sum_27 rfl rfl ?_
        refine mr_getR (pc' := 31) (ci := 11) (j := 0) (b := 146) hR dX11_sum_28 rfl rfl rfl (by decide) (by decide) (by decide) rfl rfl ?_
        refine mr_aload_n (pc' := 32) dX11_sum_31 rfl rfl ?_
        refine mr_getI (pc' := 35) (ci := 11) (j := 13) dX11_sum_32 rfl rfl rfl (by decide) (by decide) rfl ?_
        obtain ⟨a37, g38, h39⟩ := Option.bind_eq_some_iff.mp h35
        refine mr_bald (pc' := 36) dX11_sum_35 rfl (Or.inl rfl) rfl g38 ?_
        refine mr_bipush (pc' := 38) (v := (43 : Int32)) dX11_sum_36 rfl (by decide) ?_
        by_cases c40 : a37 = (43 : Int32)
        · rw [if_pos c40] at h39
          refine mr_icmp_ne_f (t := 45) (pc' := 41) dX11_sum_38 (by decide) rfl (not_not_intro c40) ?_
          refine mr_iconst (pc' := 42) (v := (2 : Int32)) dX11_sum_41 rfl (by decide) ?_
          refine mr_goto (t := 46) dX11_sum_42 (by decide) ?_
          refine mr_istore_n (pc' := 47) (lv' := [(1, .int (2 : Int32)), (0, .ref 145)]) dX11_sum_46 rfl (by decide) rfl ?_
          refine mr_aload_n (pc' := 48) dX11_sum_47 rfl rfl ?_
          refine mr_dup_ref (pc' := 49) dX11_sum_48 rfl ?_
          refine mr_getI (pc' := 52) (ci := 11) (j := 13) dX11_sum_49 rfl rfl rfl (by decide) (by decide) rfl ?_
          refine mr_iconst (pc' := 53) (v := (1 : Int32)) dX11_sum_52 rfl (by decide) ?_
          refine mr_iadd (pc' := 54) dX11_sum_53 rfl ?_
          obtain ⟨S51, g52, h53⟩ := Option.bind_eq_some_iff.mp h39
          refine mr_putI (pc' := 57) (ci := 11) (j := 13) dX11_sum_54 rfl rfl rfl (by decide) (by decide) rfl rfl ?_
          rw [Option.some.inj g52]
          refine mr_aload_n (pc' := 58) dX11_sum_57 rfl rfl ?_
          obtain ⟨q54, g55, h56⟩ := Option.bind_eq_some_iff.mp h53
          refine mr_cv (pc' := 61) (a := 145) (d1 := 4) dX11_sum_58 rfl rfl rfl rfl rfl rfl (by decide) rfl (by decide) (ok_X11_term hR  g55) ?_
          show mr X _ _ 61 _ [.int q54.1] (MM RR q54.2) _
          by_cases c57 : q54.1 = (0 : Int32)
          · rw [if_pos c57] at h56
            refine mr_if_ne_f (t := 66) (pc' := 64) dX11_sum_61 (by decide) rfl (not_not_intro c57) ?_
            refine mr_iconst (pc' := 65) (v := (0 : Int32)) dX11_sum_64 rfl (by decide) ?_
            obtain rfl := Option.some.inj h56
            exact mr_zreturn dX11_sum_65 rfl (by decide)
          · rw [if_neg c57] at h56
            refine mr_if_ne_t (t := 66) dX11_sum_61 (by decide) c57 ?_
            refine mr_aload_n (pc' := 67) dX11_sum_66 rfl rfl ?_
            refine mr_iload_n (pc' := 68) dX11_sum_67 rfl rfl ?_
            refine mr_iconst (pc' := 69) (v := (0 : Int32)) dX11_sum_68 rfl (by decide) ?_
            obtain ⟨q58, g59, h60⟩ := Option.bind_eq_some_iff.mp h56
            refine mr_cv (pc' := 72) (a := 145) (d1 := 0) dX11_sum_69 rfl rfl rfl rfl rfl rfl (by decide) rfl (by decide) (ok_X11_puts hR  g59) ?_
            show mr X _ _ 72 _ [] (MM RR q58) _
            refine mr_goto (t := 9) dX11_sum_72 (by decide) ?_
            exact mr_sub [(0, .ref 145)] ⟨rfl, trivial⟩ rfl (ih _  h60)
        · rw [if_neg c40] at h39
          refine mr_icmp_ne_t (t := 45) dX11_sum_38 (by decide) c40 ?_
          refine mr_iconst (pc' := 46) (v := (3 : Int32)) dX11_sum_45 rfl (by decide) ?_
          refine mr_istore_n (pc' := 47) (lv' := [(1, .int (3 : Int32)), (0, .ref 145)]) dX11_sum_46 rfl (by decide) rfl ?_
          refine mr_aload_n (pc' := 48) dX11_sum_47 rfl rfl ?_
          refine mr_dup_ref (pc' := 49) dX11_sum_48 rfl ?_
          refine mr_getI (pc' := 52) (ci := 11) (j := 13) dX11_sum_49 rfl rfl rfl (by decide) (by decide) rfl ?_
          refine mr_iconst (pc' := 53) (v := (1 : Int32)) dX11_sum_52 rfl (by decide) ?_
          refine mr_iadd (pc' := 54) dX11_sum_53 rfl ?_
          obtain ⟨S41, g42, h43⟩ := Option.bind_eq_some_iff.mp h39
          refine mr_putI (pc' := 57) (ci := 11) (j := 13) dX11_sum_54 rfl rfl rfl (by decide) (by decide) rfl rfl ?_
          rw [Option.some.inj g42]
          refine mr_aload_n (pc' := 58) dX11_sum_57 rfl rfl ?_
          obtain ⟨q44, g45, h46⟩ := Option.bind_eq_some_iff.mp h43
          refine mr_cv (pc' := 61) (a := 145) (d1 := 4) dX11_sum_58 rfl rfl rfl rfl rfl rfl (by decide) rfl (by decide) (ok_X11_term hR  g45) ?_
          show mr X _ _ 61 _ [.int q44.1] (MM RR q44.2) _
          by_cases c47 : q44.1 = (0 : Int32)
          · rw [if_pos c47] at h46
            refine mr_if_ne_f (t := 66) (pc' := 64) dX11_sum_61 (by decide) rfl (not_not_intro c47) ?_
            refine mr_iconst (pc' := 65) (v := (0 : Int32)) dX11_sum_64 rfl (by decide) ?_
            obtain rfl := Option.some.inj h46
            exact mr_zreturn dX11_sum_65 rfl (by decide)
          · rw [if_neg c47] at h46
            refine mr_if_ne_t (t := 66) dX11_sum_61 (by decide) c47 ?_
            refine mr_aload_n (pc' := 67) dX11_sum_66 rfl rfl ?_
            refine mr_iload_n (pc' := 68) dX11_sum_67 rfl rfl ?_
            refine mr_iconst (pc' := 69) (v := (0 : Int32)) dX11_sum_68 rfl (by decide) ?_
            obtain ⟨q48, g49, h50⟩ := Option.bind_eq_some_iff.mp h46
            refine mr_cv (pc' := 72) (a := 145) (d1 := 0) dX11_sum_69 rfl rfl rfl rfl rfl rfl (by decide) rfl (by decide) (ok_X11_puts hR  g49) ?_
            show mr X _ _ 72 _ [] (MM RR q48) _
            refine mr_goto (t := 9) dX11_sum_72 (by decide) ?_
            exact mr_sub [(0, .ref 145)] ⟨rfl, trivial⟩ rfl (ih _  h50)
      · rw [if_neg c36] at h35
        refine mr_icmp_ne_t (t := 75) dX11_sum_24 (by decide) c36 ?_
        exact mr_sub [] trivial rfl (hK _  h35)
def f_X11_sum  (S : fS) : Option (Int32 × fS) :=
  (f_X11_term  S).bind fun q1 =>
  if q1.1 = (0 : Int32) then (some ((0 : Int32), q1.2)) else
  (lp_X11_sum_9  (fun S61 => some ((1 : Int32), S61)) FU  q1.2)
set_option maxHeartbeats 4000000 in
set_option maxRecDepth 100000 in
theorem ok_X11_sum {X : mm_C} {RR : Nat → Nat → Option Nat} (hR : RRok RR)   {S : fS} {r : Int32 × fS} (h : f_X11_sum  S = some r) : mr X 5 mY_X11_sum 0 (lv_args 0 [.ref 145]) [] (MM RR S) (some (.int r.1), MM RR r.2) := by
  unfold f_X11_sum at h
  show mr X _ _ 0 [(0, .ref 145)] [] (MM RR S) _
  refine mr_aload_n (pc' := 1) dX11_sum_0 rfl rfl ?_
  obtain ⟨q1, g2, h3⟩ := Option.bind_eq_some_iff.mp h
  refine mr_cv (pc' := 4) (a := 145) (d1 := 4) dX11_sum_1 rfl rfl rfl rfl rfl rfl (by decide) rfl (by decide) (ok_X11_term hR  g2) ?_
  show mr X _ _ 4 _ [.int q1.1] (MM RR q1.2) _
  by_cases c4 : q1.1 = (0 : Int32)
  · rw [if_pos c4] at h3
    refine mr_if_ne_f (t := 9) (pc' := 7) dX11_sum_4 (by decide) rfl (not_not_intro c4) ?_
    refine mr_iconst (pc' := 8) (v := (0 : Int32)) dX11_sum_7 rfl (by decide) ?_
    obtain rfl := Option.some.inj h3
    exact mr_zreturn dX11_sum_8 rfl (by decide)
  · rw [if_neg c4] at h3
    refine mr_if_ne_t (t := 9) dX11_sum_4 (by decide) c4 ?_
    refine mr_sub [(0, .ref 145)] ⟨rfl, trivial⟩ rfl ?_
    refine ok_lp_X11_sum_9 hR  (fun S61 h62 => ?_) FU _  h3
    refine mr_iconst (pc' := 76) (v := (1 : Int32)) dX11_sum_75 rfl (by decide) ?_
    obtain rfl := Option.some.inj h62
    exact mr_zreturn dX11_sum_76 rfl (by decide)
def j_X11_compare_152  (s0 : Int32) (S : fS) : Option (Int32 × fS) :=
  (f_X11_sum  S).bind fun q21 =>
  if q21.1 = (0 : Int32) then (some ((0 : Int32), q21.2)) else
  ((f_X11_puts ((6 : Int32) + s0) (0 : Int32) q21.2).bind fun q25 =>
  some ((1 : Int32), q25))
set_option maxHeartbeats 4000000 in
set_option maxRecDepth 100000 in
theorem ok_j_X11_compare_152 {X : mm_C} {RR : Nat → Nat → Option Nat} (hR : RRok RR)  {s0 : Int32} {S : fS} {r : Int32 × fS} (h : j_X11_compare_152  s0 S = some r) : mr X 6 mY_X11_compare 152 [(0, .ref 145)] [.int s0] (MM RR S) (some (.int r.1), MM RR r.2) := by
  unfold j_X11_compare_152 at h
  refine mr_istore (pc' := 154) (lv' := [(4, .int s0), (0, .ref 145)]) dX11_compare_152 rfl (by decide) rfl ?_
  refine mr_aload_n (pc' := 155) dX11_compare_154 rfl rfl ?_
  obtain ⟨q21, g22, h23⟩ := Option.bind_eq_some_iff.mp h
  refine mr_cv (pc' := 158) (a := 145) (d1 := 5) dX11_compare_155 rfl rfl rfl rfl rfl rfl (by decide) rfl (by decide) (ok_X11_sum hR  g22) ?_
  show mr X _ _ 158 _ [.int q21.1] (MM RR q21.2) _
  by_cases c24 : q21.1 = (0 : Int32)
  · rw [if_pos c24] at h23
    refine mr_if_ne_f (t := 163) (pc' := 161) dX11_compare_158 (by decide) rfl (not_not_intro c24) ?_
    refine mr_iconst (pc' := 162) (v := (0 : Int32)) dX11_compare_161 rfl (by decide) ?_
    obtain rfl := Option.some.inj h23
    exact mr_zreturn dX11_compare_162 rfl (by decide)
  · rw [if_neg c24] at h23
    refine mr_if_ne_t (t := 163) dX11_compare_158 (by decide) c24 ?_
    refine mr_aload_n (pc' := 164) dX11_compare_163 rfl rfl ?_
    refine mr_bipush (pc' := 166) (v := (6 : Int32)) dX11_compare_164 rfl (by decide) ?_
    refine mr_iload (pc' := 168) dX11_compare_166 rfl rfl ?_
    refine mr_iadd (pc' := 169) dX11_compare_168 rfl ?_
    refine mr_iconst (pc' := 170) (v := (0 : Int32)) dX11_compare_169 rfl (by decide) ?_
    obtain ⟨q25, g26, h27⟩ := Option.bind_eq_some_iff.mp h23
    refine mr_cv (pc' := 173) (a := 145) (d1 := 0) dX11_compare_170 rfl rfl rfl rfl rfl rfl (by decide) rfl (by decide) (ok_X11_puts hR  g26) ?_
    show mr X _ _ 173 _ [] (MM RR q25) _
    refine mr_iconst (pc' := 174) (v := (1 : Int32)) dX11_compare_173 rfl (by decide) ?_
    obtain rfl := Option.some.inj h27
    exact mr_zreturn dX11_compare_174 rfl (by decide)
def j_X11_compare_105 (p1 : Int32) (p2 : Int32) (p3 : Int32)  (S : fS) : Option (Int32 × fS) :=
  (f_X11_makes p2 S).bind fun q14 =>
  if q14.1 = (0 : Int32) then (some ((0 : Int32), q14.2)) else
  (if p1 = (60 : Int32) then (if p3 = (0 : Int32) then (j_X11_compare_152  (0 : Int32) q14.2) else
  (j_X11_compare_152  (1 : Int32) q14.2)) else
  (if p1 = (61 : Int32) then (j_X11_compare_152  (2 : Int32) q14.2) else
  (if p3 = (0 : Int32) then (j_X11_compare_152  (4 : Int32) q14.2) else
  (j_X11_compare_152  (3 : Int32) q14.2))))
set_option maxHeartbeats 4000000 in
set_option maxRecDepth 100000 in
theorem ok_j_X11_compare_105 {X : mm_C} {RR : Nat → Nat → Option Nat} (hR : RRok RR) {p1 : Int32} {p2 : Int32} {p3 : Int32}  {S : fS} {r : Int32 × fS} (h : j_X11_compare_105 p1 p2 p3  S = some r) : mr X 6 mY_X11_compare 105 [(0, .ref 145), (1, .int p1), (2, .int p2), (3, .int p3)] [] (MM RR S) (some (.int r.1), MM RR r.2) := by
  unfold j_X11_compare_105 at h
  refine mr_aload_n (pc' := 106) dX11_compare_105 rfl rfl ?_
  refine mr_iload_n (pc' := 107) dX11_compare_106 rfl rfl ?_
  obtain ⟨q14, g15, h16⟩ := Option.bind_eq_some_iff.mp h
  refine mr_cv (pc' := 110) (a := 145) (d1 := 1) dX11_compare_107 rfl rfl rfl rfl rfl rfl (by decide) rfl (by decide) (ok_X11_makes hR  g15) ?_
  show mr X _ _ 110 _ [.int q14.1] (MM RR q14.2) _
  by_cases c17 : q14.1 = (0 : Int32)
  · rw [if_pos c17] at h16
    refine mr_if_ne_f (t := 115) (pc' := 113) dX11_compare_110 (by decide) rfl (not_not_intro c17) ?_
    refine mr_iconst (pc' := 114) (v := (0 : Int32)) dX11_compare_113 rfl (by decide) ?_
    obtain rfl := Option.some.inj h16
    exact mr_zreturn dX11_compare_114 rfl (by decide)
  · rw [if_neg c17] at h16
    refine mr_if_ne_t (t := 115) dX11_compare_110 (by decide) c17 ?_
    refine mr_iload_n (pc' := 116) dX11_compare_115 rfl rfl ?_
    refine mr_bipush (pc' := 118) (v := (60 : Int32)) dX11_compare_116 rfl (by decide) ?_
    by_cases c18 : p1 = (60 : Int32)
    · rw [if_pos c18] at h16
      refine mr_icmp_ne_f (t := 133) (pc' := 121) dX11_compare_118 (by decide) rfl (not_not_intro c18) ?_
      refine mr_iload_n (pc' := 122) dX11_compare_121 rfl rfl ?_
      by_cases c28 : p3 = (0 : Int32)
      · rw [if_pos c28] at h16
        refine mr_if_eq_t (t := 129) dX11_compare_122 (by decide) c28 ?_
        refine mr_iconst (pc' := 130) (v := (0 : Int32)) dX11_compare_129 rfl (by decide) ?_
        refine mr_goto (t := 152) dX11_compare_130 (by decide) ?_
        exact mr_sub [(0, .ref 145)] ⟨rfl, trivial⟩ rfl (ok_j_X11_compare_152 hR h16)
      · rw [if_neg c28] at h16
        refine mr_if_eq_f (t := 129) (pc' := 125) dX11_compare_122 (by decide) rfl c28 ?_
        refine mr_iconst (pc' := 126) (v := (1 : Int32)) dX11_compare_125 rfl (by decide) ?_
        refine mr_goto (t := 152) dX11_compare_126 (by decide) ?_
        exact mr_sub [(0, .ref 145)] ⟨rfl, trivial⟩ rfl (ok_j_X11_compare_152 hR h16)
    · rw [if_neg c18] at h16
      refine mr_icmp_ne_t (t := 133) dX11_compare_118 (by decide) c18 ?_
      refine mr_iload_n (pc' := 134) dX11_compare_133 rfl rfl ?_
      refine mr_bipush (pc' := 136) (v := (61 : Int32)) dX11_compare_134 rfl (by decide) ?_
      by_cases c19 : p1 = (61 : Int32)
      · rw [if_pos c19] at h16
        refine mr_icmp_ne_f (t := 143) (pc' := 139) dX11_compare_136 (by decide) rfl (not_not_intro c19) ?_
        refine mr_iconst (pc' := 140) (v := (2 : Int32)) dX11_compare_139 rfl (by decide) ?_
        refine mr_goto (t := 152) dX11_compare_140 (by decide) ?_
        exact mr_sub [(0, .ref 145)] ⟨rfl, trivial⟩ rfl (ok_j_X11_compare_152 hR h16)
      · rw [if_neg c19] at h16
        refine mr_icmp_ne_t (t := 143) dX11_compare_136 (by decide) c19 ?_
        refine mr_iload_n (pc' := 144) dX11_compare_143 rfl rfl ?_
        by_cases c20 : p3 = (0 : Int32)
        · rw [if_pos c20] at h16
          refine mr_if_eq_t (t := 151) dX11_compare_144 (by decide) c20 ?_
          refine mr_iconst (pc' := 152) (v := (4 : Int32)) dX11_compare_151 rfl (by decide) ?_
          exact mr_sub [(0, .ref 145)] ⟨rfl, trivial⟩ rfl (ok_j_X11_compare_152 hR h16)
        · rw [if_neg c20] at h16
          refine mr_if_eq_f (t := 151) (pc' := 147) dX11_compare_144 (by decide) rfl c20 ?_
          refine mr_iconst (pc' := 148) (v := (3 : Int32)) dX11_compare_147 rfl (by decide) ?_
          refine mr_goto (t := 152) dX11_compare_148 (by decide) ?_
          exact mr_sub [(0, .ref 145)] ⟨rfl, trivial⟩ rfl (ok_j_X11_compare_152 hR h16)
def j_X11_compare_90 (p1 : Int32) (p2 : Int32) (s0 : Int32) (S : fS) : Option (Int32 × fS) :=
  if s0 = (0 : Int32) then (j_X11_compare_105 p1 p2 s0  S) else
  ((some (pI S 145 13 ((S.1 145 13) + (1 : Int32)))).bind fun S29 =>
  j_X11_compare_105 p1 p2 s0  S29)
set_option maxHeartbeats 4000000 in
set_option maxRecDepth 100000 in
theorem ok_j_X11_compare_90 {X : mm_C} {RR : Nat → Nat → Option Nat} (hR : RRok RR) {p1 : Int32} {p2 : Int32} {s0 : Int32} {S : fS} {r : Int32 × fS} (h : j_X11_compare_90 p1 p2 s0 S = some r) : mr X 6 mY_X11_compare 90 [(0, .ref 145), (1, .int p1), (2, .int p2)] [.int s0] (MM RR S) (some (.int r.1), MM RR r.2) := by
  unfold j_X11_compare_90 at h
  refine mr_istore_n (pc' := 91) (lv' := [(3, .int s0), (0, .ref 145), (1, .int p1), (2, .int p2)]) dX11_compare_90 rfl (by decide) rfl ?_
  refine mr_iload_n (pc' := 92) dX11_compare_91 rfl rfl ?_
  by_cases c13 : s0 = (0 : Int32)
  · rw [if_pos c13] at h
    refine mr_if_eq_t (t := 105) dX11_compare_92 (by decide) c13 ?_
    exact mr_sub [(0, .ref 145), (1, .int p1), (2, .int p2), (3, .int s0)] ⟨rfl, rfl, rfl, rfl, trivial⟩ rfl (ok_j_X11_compare_105 hR h)
  · rw [if_neg c13] at h
    refine mr_if_eq_f (t := 105) (pc' := 95) dX11_compare_92 (by decide) rfl c13 ?_
    refine mr_aload_n (pc' := 96) dX11_compare_95 rfl rfl ?_
    refine mr_dup_ref (pc' := 97) dX11_compare_96 rfl ?_
    refine mr_getI (pc' := 100) (ci := 11) (j := 13) dX11_compare_97 rfl rfl rfl (by decide) (by decide) rfl ?_
    refine mr_iconst (pc' := 101) (v := (1 : Int32)) dX11_compare_100 rfl (by decide) ?_
    refine mr_iadd (pc' := 102) dX11_compare_101 rfl ?_
    obtain ⟨S29, g30, h31⟩ := Option.bind_eq_some_iff.mp h
    refine mr_putI (pc' := 105) (ci := 11) (j := 13) dX11_compare_102 rfl rfl rfl (by decide) (by decide) rfl rfl ?_
    rw [Option.some.inj g30]
    exact mr_sub [(0, .ref 145), (1, .int p1), (2, .int p2), (3, .int s0)] ⟨rfl, rfl, rfl, rfl, trivial⟩ rfl (ok_j_X11_compare_105 hR h31)
def j_X11_compare_89 (p1 : Int32) (p2 : Int32)  (S : fS) : Option (Int32 × fS) :=
  j_X11_compare_90 p1 p2 (0 : Int32) S
set_option maxHeartbeats 4000000 in
set_option maxRecDepth 100000 in
theorem ok_j_X11_compare_89 {X : mm_C} {RR : Nat → Nat → Option Nat} (hR : RRok RR) {p1 : Int32} {p2 : Int32}  {S : fS} {r : Int32 × fS} (h : j_X11_compare_89 p1 p2  S = some r) : mr X 6 mY_X11_compare 89 [(0, .ref 145), (1, .int p1), (2, .int p2)] [] (MM RR S) (some (.int r.1), MM RR r.2) := by
  unfold j_X11_compare_89 at h
  refine mr_iconst (pc' := 90) (v := (0 : Int32)) dX11_compare_89 rfl (by decide) ?_
  exact mr_sub [(0, .ref 145), (1, .int p1), (2, .int p2)] ⟨rfl, rfl, rfl, trivial⟩ rfl (ok_j_X11_compare_90 hR h)
def j_X11_compare_44 (p1 : Int32) (p2 : Int32)  (S : fS) : Option (Int32 × fS) :=
  (some (pI S 145 13 ((S.1 145 13) + (1 : Int32)))).bind fun S9 =>
  if p1 = (61 : Int32) then (j_X11_compare_89 p1 p2  S9) else
  (if (S9.1 145 1) ≤ (S9.1 145 13) then (j_X11_compare_89 p1 p2  S9) else
  ((gI S9 146 400 (S9.1 145 13)).bind fun a33 =>
  if a33 = (61 : Int32) then (j_X11_compare_90 p1 p2 (1 : Int32) S9) else
  (j_X11_compare_89 p1 p2  S9)))
set_option maxHeartbeats 4000000 in
set_option maxRecDepth 100000 in
theorem ok_j_X11_compare_44 {X : mm_C} {RR : Nat → Nat → Option Nat} (hR : RRok RR) {p1 : Int32} {p2 : Int32}  {S : fS} {r : Int32 × fS} (h : j_X11_compare_44 p1 p2  S = some r) : mr X 6 mY_X11_compare 44 [(0, .ref 145), (1, .int p1), (2, .int p2)] [] (MM RR S) (some (.int r.1), MM RR r.2) := by
  unfold j_X11_compare_44 at h
  refine mr_aload_n (pc' := 45) dX11_compare_44 rfl rfl ?_
  refine mr_dup_ref (pc' := 46) dX11_compare_45 rfl ?_
  refine mr_getI (pc' := 49) (ci := 11) (j := 13) dX11_compare_46 rfl rfl rfl (by decide) (by decide) rfl ?_
  refine mr_iconst (pc' := 50) (v := (1 : Int32)) dX11_compare_49 rfl (by decide) ?_
  refine mr_iadd (pc' := 51) dX11_compare_50 rfl ?_
  obtain ⟨S9, g10, h11⟩ := Option.bind_eq_some_iff.mp h
  refine mr_putI (pc' := 54) (ci := 11) (j := 13) dX11_compare_51 rfl rfl rfl (by decide) (by decide) rfl rfl ?_
  rw [Option.some.inj g10]
  refine mr_iload_n (pc' := 55) dX11_compare_54 rfl rfl ?_
  refine mr_bipush (pc' := 57) (v := (61 : Int32)) dX11_compare_55 rfl (by decide) ?_
  by_cases c12 : p1 = (61 : Int32)
  · rw [if_pos c12] at h11
    refine mr_icmp_eq_t (t := 89) dX11_compare_57 (by decide) c12 ?_
    exact mr_sub [(0, .ref 145), (1, .int p1), (2, .int p2)] ⟨rfl, rfl, rfl, trivial⟩ rfl (ok_j_X11_compare_89 hR h11)
  · rw [if_neg c12] at h11
    refine mr_icmp_eq_f (t := 89) (pc' := 60) dX11_compare_57 (by decide) rfl c12 ?_
    refine mr_aload_n (pc' := 61) dX11_compare_60 rfl rfl ?_
    refine mr_getI (pc' := 64) (ci := 11) (j := 13) dX11_compare_61 rfl rfl rfl (by decide) (by decide) rfl ?_
    refine mr_aload_n (pc' := 65) dX11_compare_64 rfl rfl ?_
    refine mr_getI (pc' := 68) (ci := 11) (j := 1) dX11_compare_65 rfl rfl rfl (by decide) (by decide) rfl ?_
    by_cases c32 : (S9.1 145 1) ≤ (S9.1 145 13)
    · rw [if_pos c32] at h11
      refine mr_icmp_ge_t (t := 89) dX11_compare_68 (by decide) c32 ?_
      exact mr_sub [(0, .ref 145), (1, .int p1), (2, .int p2)] ⟨rfl, rfl, rfl, trivial⟩ rfl (ok_j_X11_compare_89 hR h11)
    · rw [if_neg c32] at h11
      refine mr_icmp_ge_f (t := 89) (pc' := 71) dX11_compare_68 (by decide) rfl c32 ?_
      refine mr_aload_n (pc' := 72) dX11_compare_71 rfl rfl ?_
      refine mr_getR (pc' := 75) (ci := 11) (j := 0) (b := 146) hR dX11_compare_72 rfl rfl rfl (by decide) (by decide) (by decide) rfl rfl ?_
      refine mr_aload_n (pc' := 76) dX11_compare_75 rfl rfl ?_
      refine mr_getI (pc' := 79) (ci := 11) (j := 13) dX11_compare_76 rfl rfl rfl (by decide) (by decide) rfl ?_
      obtain ⟨a33, g34, h35⟩ := Option.bind_eq_some_iff.mp h11
      refine mr_bald (pc' := 80) dX11_compare_79 rfl (Or.inl rfl) rfl g34 ?_
      refine mr_bipush (pc' := 82) (v := (61 : Int32)) dX11_compare_80 rfl (by decide) ?_
      by_cases c36 : a33 = (61 : Int32)
      · rw [if_pos c36] at h35
        refine mr_icmp_ne_f (t := 89) (pc' := 85) dX11_compare_82 (by decide) rfl (not_not_intro c36) ?_
        refine mr_iconst (pc' := 86) (v := (1 : Int32)) dX11_compare_85 rfl (by decide) ?_
        refine mr_goto (t := 90) dX11_compare_86 (by decide) ?_
        exact mr_sub [(0, .ref 145), (1, .int p1), (2, .int p2)] ⟨rfl, rfl, rfl, trivial⟩ rfl (ok_j_X11_compare_90 hR h35)
      · rw [if_neg c36] at h35
        refine mr_icmp_ne_t (t := 89) dX11_compare_82 (by decide) c36 ?_
        exact mr_sub [(0, .ref 145), (1, .int p1), (2, .int p2)] ⟨rfl, rfl, rfl, trivial⟩ rfl (ok_j_X11_compare_89 hR h35)
def f_X11_compare  (S : fS) : Option (Int32 × fS) :=
  (f_X11_sum  S).bind fun q1 =>
  if q1.1 = (0 : Int32) then (some ((0 : Int32), q1.2)) else
  ((f_X11_see  q1.2).bind fun q5 =>
  if q5.1 = (60 : Int32) then (j_X11_compare_44 q5.1 (q5.2.1 145 13)  q5.2) else
  (if q5.1 = (61 : Int32) then (j_X11_compare_44 q5.1 (q5.2.1 145 13)  q5.2) else
  (if q5.1 = (62 : Int32) then (j_X11_compare_44 q5.1 (q5.2.1 145 13)  q5.2) else
  ((f_X11_fails (0 : Int32) (q5.2.1 145 13) q5.2).bind fun q39 =>
  (bZ q39.1).bind fun z42 => some (z42, q39.2)))))
set_option maxHeartbeats 4000000 in
set_option maxRecDepth 100000 in
theorem ok_X11_compare {X : mm_C} {RR : Nat → Nat → Option Nat} (hR : RRok RR)   {S : fS} {r : Int32 × fS} (h : f_X11_compare  S = some r) : mr X 6 mY_X11_compare 0 (lv_args 0 [.ref 145]) [] (MM RR S) (some (.int r.1), MM RR r.2) := by
  unfold f_X11_compare at h
  show mr X _ _ 0 [(0, .ref 145)] [] (MM RR S) _
  refine mr_aload_n (pc' := 1) dX11_compare_0 rfl rfl ?_
  obtain ⟨q1, g2, h3⟩ := Option.bind_eq_some_iff.mp h
  refine mr_cv (pc' := 4) (a := 145) (d1 := 5) dX11_compare_1 rfl rfl rfl rfl rfl rfl (by decide) rfl (by decide) (ok_X11_sum hR  g2) ?_
  show mr X _ _ 4 _ [.int q1.1] (MM RR q1.2) _
  by_cases c4 : q1.1 = (0 : Int32)
  · rw [if_pos c4] at h3
    refine mr_if_ne_f (t := 9) (pc' := 7) dX11_compare_4 (by decide) rfl (not_not_intro c4) ?_
    refine mr_iconst (pc' := 8) (v := (0 : Int32)) dX11_compare_7 rfl (by decide) ?_
    obtain rfl := Option.some.inj h3
    exact mr_zreturn dX11_compare_8 rfl (by decide)
  · rw [if_neg c4] at h3
    refine mr_if_ne_t (t := 9) dX11_compare_4 (by decide) c4 ?_
    refine mr_aload_n (pc' := 10) dX11_compare_9 rfl rfl ?_
    obtain ⟨q5, g6, h7⟩ := Option.bind_eq_some_iff.mp h3
    refine mr_cv (pc' := 13) (a := 145) (d1 := 0) dX11_compare_10 rfl rfl rfl rfl rfl rfl (by decide) rfl (by decide) (ok_X11_see hR  g6) ?_
    show mr X _ _ 13 _ [.int q5.1] (MM RR q5.2) _
    refine mr_istore_n (pc' := 14) (lv' := [(1, .int q5.1), (0, .ref 145)]) dX11_compare_13 rfl (by decide) rfl ?_
    refine mr_aload_n (pc' := 15) dX11_compare_14 rfl rfl ?_
    refine mr_getI (pc' := 18) (ci := 11) (j := 13) dX11_compare_15 rfl rfl rfl (by decide) (by decide) rfl ?_
    refine mr_istore_n (pc' := 19) (lv' := [(2, .int (q5.2.1 145 13)), (1, .int q5.1), (0, .ref 145)]) dX11_compare_18 rfl (by decide) rfl ?_
    refine mr_iload_n (pc' := 20) dX11_compare_19 rfl rfl ?_
    refine mr_bipush (pc' := 22) (v := (60 : Int32)) dX11_compare_20 rfl (by decide) ?_
    by_cases c8 : q5.1 = (60 : Int32)
    · rw [if_pos c8] at h7
      refine mr_icmp_eq_t (t := 44) dX11_compare_22 (by decide) c8 ?_
      exact mr_sub [(0, .ref 145), (1, .int q5.1), (2, .int (q5.2.1 145 13))] ⟨rfl, rfl, rfl, trivial⟩ rfl (ok_j_X11_compare_44 hR h7)
    · rw [if_neg c8] at h7
      refine mr_icmp_eq_f (t := 44) (pc' := 25) dX11_compare_22 (by decide) rfl c8 ?_
      refine mr_iload_n (pc' := 26) dX11_compare_25 rfl rfl ?_
      refine mr_bipush (pc' := 28) (v := (61 : Int32)) dX11_compare_26 rfl (by decide) ?_
      by_cases c37 : q5.1 = (61 : Int32)
      · rw [if_pos c37] at h7
        refine mr_icmp_eq_t (t := 44) dX11_compare_28 (by decide) c37 ?_
        exact mr_sub [(0, .ref 145), (1, .int q5.1), (2, .int (q5.2.1 145 13))] ⟨rfl, rfl, rfl, trivial⟩ rfl (ok_j_X11_compare_44 hR h7)
      · rw [if_neg c37] at h7
        refine mr_icmp_eq_f (t := 44) (pc' := 31) dX11_compare_28 (by decide) rfl c37 ?_
        refine mr_iload_n (pc' := 32) dX11_compare_31 rfl rfl ?_
        refine mr_bipush (pc' := 34) (v := (62 : Int32)) dX11_compare_32 rfl (by decide) ?_
        by_cases c38 : q5.1 = (62 : Int32)
        · rw [if_pos c38] at h7
          refine mr_icmp_eq_t (t := 44) dX11_compare_34 (by decide) c38 ?_
          exact mr_sub [(0, .ref 145), (1, .int q5.1), (2, .int (q5.2.1 145 13))] ⟨rfl, rfl, rfl, trivial⟩ rfl (ok_j_X11_compare_44 hR h7)
        · rw [if_neg c38] at h7
          refine mr_icmp_eq_f (t := 44) (pc' := 37) dX11_compare_34 (by decide) rfl c38 ?_
          refine mr_aload_n (pc' := 38) dX11_compare_37 rfl rfl ?_
          refine mr_iconst (pc' := 39) (v := (0 : Int32)) dX11_compare_38 rfl (by decide) ?_
          refine mr_iload_n (pc' := 40) dX11_compare_39 rfl rfl ?_
          obtain ⟨q39, g40, h41⟩ := Option.bind_eq_some_iff.mp h7
          refine mr_cv (pc' := 43) (a := 145) (d1 := 0) dX11_compare_40 rfl rfl rfl rfl rfl rfl (by decide) rfl (by decide) (ok_X11_fails hR  g40) ?_
          show mr X _ _ 43 _ [.int q39.1] (MM RR q39.2) _
          obtain ⟨z42, g43, h44⟩ := Option.bind_eq_some_iff.mp h41
          obtain ⟨g45, e46⟩ := mm_ifs g43
          cases e46
          cases h44
          exact mr_zreturn dX11_compare_43 rfl g45
def lp_X11_fact_2  (K : fS → Option (Int32 × fS)) : Nat → Int32 → fS → Option (Int32 × fS)
  | 0, _, _ => none
  | n + 1, p1, S0 =>
    if p1 = (0 : Int32) then (K S0) else
    ((f_X11_see  S0).bind fun q2 =>
    (f_X11_isWord (7237492 : Int64) q2.2).bind fun q5 =>
    if q5.1 = (0 : Int32) then (if q2.1 = (91 : Int32) then ((f_X11_opens (91 : Int32) q5.2).bind fun q10 =>
    if q10.1 = (0 : Int32) then (some ((0 : Int32), q10.2)) else
    ((some (pI q10.2 145 13 ((q10.2.1 145 13) + (1 : Int32)))).bind fun S14 =>
    lp_X11_fact_2  K n (1 : Int32) S14)) else
    (lp_X11_fact_2  K n (0 : Int32) q5.2)) else
    ((f_X11_opens (11 : Int32) q5.2).bind fun q17 =>
    if q17.1 = (0 : Int32) then (some ((0 : Int32), q17.2)) else
    ((f_X11_passWord  q17.2).bind fun q21 =>
    lp_X11_fact_2  K n (1 : Int32) q21)))
set_option maxHeartbeats 4000000 in
set_option maxRecDepth 100000 in
theorem ok_lp_X11_fact_2 {X : mm_C} {RR : Nat → Nat → Option Nat} (hR : RRok RR)   {K : fS → Option (Int32 × fS)} {r : Int32 × fS} (hK : ∀ (Sk : fS), K Sk = some r → mr X 7 mY_X11_fact 75 [(0, .ref 145)] [] (MM RR Sk) (some (.int r.1), MM RR r.2)) : ∀ (n : Nat) (p1 : Int32) (S0 : fS), lp_X11_fact_2  K n p1 S0 = some r → mr X 7 mY_X11_fact 2 [(0, .ref 145), (1, .int p1)] [] (MM RR S0) (some (.int r.1), MM RR r.2) := by
  intro n
  induction n with
  | zero => intro p1 S0 h; exact mm_no h
  | succ n ih =>
    intro p1 S0 h
    unfold lp_X11_fact_2 at h
    refine mr_iload_n (pc' := 3) dX11_fact_2 rfl rfl ?_
    by_cases c1 : p1 = (0 : Int32)
    · rw [if_pos c1] at h
      refine mr_if_eq_t (t := 75) dX11_fact_3 (by decide) c1 ?_
      exact mr_sub [(0, .ref 145)] ⟨rfl, trivial⟩ rfl (hK _  h)
    · rw [if_neg c1] at h
      refine mr_if_eq_f (t := 75) (pc' := 6) dX11_fact_3 (by decide) rfl c1 ?_
      refine mr_iconst (pc' := 7) (v := (0 : Int32)) dX11_fact_6 rfl (by decide) ?_
      refine mr_istore_n (pc' := 8) (lv' := [(1, .int (0 : Int32)), (0, .ref 145)]) dX11_fact_7 rfl (by decide) rfl ?_
      refine mr_aload_n (pc' := 9) dX11_fact_8 rfl rfl ?_
      obtain ⟨q2, g3, h4⟩ := Option.bind_eq_some_iff.mp h
      refine mr_cv (pc' := 12) (a := 145) (d1 := 0) dX11_fact_9 rfl rfl rfl rfl rfl rfl (by decide) rfl (by decide) (ok_X11_see hR  g3) ?_
      show mr X _ _ 12 _ [.int q2.1] (MM RR q2.2) _
      refine mr_istore_n (pc' := 13) (lv' := [(2, .int q2.1), (1, .int (0 : Int32)), (0, .ref 145)]) dX11_fact_12 rfl (by decide) rfl ?_
      refine mr_aload_n (pc' := 14) dX11_fact_13 rfl rfl ?_
      refine mr_ldc2 (pc' := 17) (v := (7237492 : Int64)) dX11_fact_14 rfl rfl ?_
      obtain ⟨q5, g6, h7⟩ := Option.bind_eq_some_iff.mp h4
      refine mr_cv (pc' := 20) (a := 145) (d1 := 1) dX11_fact_17 rfl rfl rfl rfl rfl rfl (by decide) rfl (by decide) (ok_X11_isWord hR  g6) ?_
      show mr X _ _ 20 _ [.int q5.1] (MM RR q5.2) _
      by_cases c8 : q5.1 = (0 : Int32)
      · rw [if_pos c8] at h7
        refine mr_if_eq_t (t := 43) dX11_fact_20 (by decide) c8 ?_
        refine mr_iload_n (pc' := 44) dX11_fact_43 rfl rfl ?_
        refine mr_bipush (pc' := 46) (v := (91 : Int32)) dX11_fact_44 rfl (by decide) ?_
        by_cases c9 : q2.1 = (91 : Int32)
        · rw [if_pos c9] at h7
          refine mr_icmp_ne_f (t := 72) (pc' := 49) dX11_fact_46 (by decide) rfl (not_not_intro c9) ?_
          refine mr_aload_n (pc' := 50) dX11_fact_49 rfl rfl ?_
          refine mr_bipush (pc' := 52) (v := (91 : Int32)) dX11_fact_50 rfl (by decide) ?_
          obtain ⟨q10, g11, h12⟩ := Option.bind_eq_some_iff.mp h7
          refine mr_cv (pc' := 55) (a := 145) (d1 := 1) dX11_fact_52 rfl rfl rfl rfl rfl rfl (by decide) rfl (by decide) (ok_X11_opens hR  g11) ?_
          show mr X _ _ 55 _ [.int q10.1] (MM RR q10.2) _
          by_cases c13 : q10.1 = (0 : Int32)
          · rw [if_pos c13] at h12
            refine mr_if_ne_f (t := 60) (pc' := 58) dX11_fact_55 (by decide) rfl (not_not_intro c13) ?_
            refine mr_iconst (pc' := 59) (v := (0 : Int32)) dX11_fact_58 rfl (by decide) ?_
            obtain rfl := Option.some.inj h12
            exact mr_zreturn dX11_fact_59 rfl (by decide)
          · rw [if_neg c13] at h12
            refine mr_if_ne_t (t := 60) dX11_fact_55 (by decide) c13 ?_
            refine mr_aload_n (pc' := 61) dX11_fact_60 rfl rfl ?_
            refine mr_dup_ref (pc' := 62) dX11_fact_61 rfl ?_
            refine mr_getI (pc' := 65) (ci := 11) (j := 13) dX11_fact_62 rfl rfl rfl (by decide) (by decide) rfl ?_
            refine mr_iconst (pc' := 66) (v := (1 : Int32)) dX11_fact_65 rfl (by decide) ?_
            refine mr_iadd (pc' := 67) dX11_fact_66 rfl ?_
            obtain ⟨S14, g15, h16⟩ := Option.bind_eq_some_iff.mp h12
            refine mr_putI (pc' := 70) (ci := 11) (j := 13) dX11_fact_67 rfl rfl rfl (by decide) (by decide) rfl rfl ?_
            rw [Option.some.inj g15]
            refine mr_iconst (pc' := 71) (v := (1 : Int32)) dX11_fact_70 rfl (by decide) ?_
            refine mr_istore_n (pc' := 72) (lv' := [(1, .int (1 : Int32)), (2, .int q2.1), (0, .ref 145)]) dX11_fact_71 rfl (by decide) rfl ?_
            refine mr_goto (t := 2) dX11_fact_72 (by decide) ?_
            exact mr_sub [(0, .ref 145), (1, .int (1 : Int32))] ⟨rfl, rfl, trivial⟩ rfl (ih _ _  h16)
        · rw [if_neg c9] at h7
          refine mr_icmp_ne_t (t := 72) dX11_fact_46 (by decide) c9 ?_
          refine mr_goto (t := 2) dX11_fact_72 (by decide) ?_
          exact mr_sub [(0, .ref 145), (1, .int (0 : Int32))] ⟨rfl, rfl, trivial⟩ rfl (ih _ _  h7)
      · rw [if_neg c8] at h7
        refine mr_if_eq_f (t := 43) (pc' := 23) dX11_fact_20 (by decide) rfl c8 ?_
        refine mr_aload_n (pc' := 24) dX11_fact_23 rfl rfl ?_
        refine mr_bipush (pc' := 26) (v := (11 : Int32)) dX11_fact_24 rfl (by decide) ?_
        obtain ⟨q17, g18, h19⟩ := Option.bind_eq_some_iff.mp h7
        refine mr_cv (pc' := 29) (a := 145) (d1 := 1) dX11_fact_26 rfl rfl rfl rfl rfl rfl (by decide) rfl (by decide) (ok_X11_opens hR  g18) ?_
        show mr X _ _ 29 _ [.int q17.1] (MM RR q17.2) _
        by_cases c20 : q17.1 = (0 : Int32)
        · rw [if_pos c20] at h19
          refine mr_if_ne_f (t := 34) (pc' := 32) dX11_fact_29 (by decide) rfl (not_not_intro c20) ?_
          refine mr_iconst (pc' := 33) (v := (0 : Int32)) dX11_fact_32 rfl (by decide) ?_
          obtain rfl := Option.some.inj h19
          exact mr_zreturn dX11_fact_33 rfl (by decide)
        · rw [if_neg c20] at h19
          refine mr_if_ne_t (t := 34) dX11_fact_29 (by decide) c20 ?_
          refine mr_aload_n (pc' := 35) dX11_fact_34 rfl rfl ?_
          obtain ⟨q21, g22, h23⟩ := Option.bind_eq_some_iff.mp h19
          refine mr_cv (pc' := 38) (a := 145) (d1 := 1) dX11_fact_35 rfl rfl rfl rfl rfl rfl (by decide) rfl (by decide) (ok_X11_passWord hR  g22) ?_
          show mr X _ _ 38 _ [] (MM RR q21) _
          refine mr_iconst (pc' := 39) (v := (1 : Int32)) dX11_fact_38 rfl (by decide) ?_
          refine mr_istore_n (pc' := 40) (lv' := [(1, .int (1 : Int32)), (2, .int q2.1), (0, .ref 145)]) dX11_fact_39 rfl (by decide) rfl ?_
          refine mr_goto (t := 72) dX11_fact_40 (by decide) ?_
          refine mr_goto (t := 2) dX11_fact_72 (by decide) ?_
          exact mr_sub [(0, .ref 145), (1, .int (1 : Int32))] ⟨rfl, rfl, trivial⟩ rfl (ih _ _  h23)
def f_X11_fact  (S : fS) : Option (Int32 × fS) :=
  lp_X11_fact_2  (fun S24 => (f_X11_compare  S24).bind fun q26 =>
  (bZ q26.1).bind fun z29 => some (z29, q26.2)) FU (1 : Int32) S
set_option maxHeartbeats 4000000 in
set_option maxRecDepth 100000 in
theorem ok_X11_fact {X : mm_C} {RR : Nat → Nat → Option Nat} (hR : RRok RR)   {S : fS} {r : Int32 × fS} (h : f_X11_fact  S = some r) : mr X 7 mY_X11_fact 0 (lv_args 0 [.ref 145]) [] (MM RR S) (some (.int r.1), MM RR r.2) := by
  unfold f_X11_fact at h
  show mr X _ _ 0 [(0, .ref 145)] [] (MM RR S) _
  refine mr_iconst (pc' := 1) (v := (1 : Int32)) dX11_fact_0 rfl (by decide) ?_
  refine mr_istore_n (pc' := 2) (lv' := [(1, .int (1 : Int32)), (0, .ref 145)]) dX11_fact_1 rfl (by decide) rfl ?_
  refine mr_sub [(0, .ref 145), (1, .int (1 : Int32))] ⟨rfl, rfl, trivial⟩ rfl ?_
  refine ok_lp_X11_fact_2 hR  (fun S24 h25 => ?_) FU _ _  h
  refine mr_aload_n (pc' := 76) dX11_fact_75 rfl rfl ?_
  obtain ⟨q26, g27, h28⟩ := Option.bind_eq_some_iff.mp h25
  refine mr_cv (pc' := 79) (a := 145) (d1 := 6) dX11_fact_76 rfl rfl rfl rfl rfl rfl (by decide) rfl (by decide) (ok_X11_compare hR  g27) ?_
  show mr X _ _ 79 _ [.int q26.1] (MM RR q26.2) _
  obtain ⟨z29, g30, h31⟩ := Option.bind_eq_some_iff.mp h28
  obtain ⟨g32, e33⟩ := mm_ifs g30
  cases e33
  cases h31
  exact mr_zreturn dX11_fact_79 rfl g32
def f_X11_strength (v0 : Int32) (S : fS) : Option (Int32) :=
  if v0 = (13 : Int32) then (some (1 : Int32)) else
  (if v0 = (12 : Int32) then (some (2 : Int32)) else
  (if v0 = (11 : Int32) then (some (3 : Int32)) else
  (some (0 : Int32))))
set_option maxHeartbeats 4000000 in
set_option maxRecDepth 100000 in
theorem ok_X11_strength {X : mm_C} {RR : Nat → Nat → Option Nat} (hR : RRok RR) {v0 : Int32}  {S : fS} {r : Int32} (h : f_X11_strength v0 S = some r) : mr X 0 mY_X11_strength 0 (lv_args 0 [.int v0]) [] (MM RR S) (some (.int r), MM RR S) := by
  unfold f_X11_strength at h
  show mr X _ _ 0 [(0, .int v0)] [] (MM RR S) _
  refine mr_iload_n (pc' := 1) dX11_strength_0 rfl rfl ?_
  refine mr_bipush (pc' := 3) (v := (13 : Int32)) dX11_strength_1 rfl (by decide) ?_
  by_cases c1 : v0 = (13 : Int32)
  · rw [if_pos c1] at h
    refine mr_icmp_ne_f (t := 10) (pc' := 6) dX11_strength_3 (by decide) rfl (not_not_intro c1) ?_
    refine mr_iconst (pc' := 7) (v := (1 : Int32)) dX11_strength_6 rfl (by decide) ?_
    refine mr_goto (t := 31) dX11_strength_7 (by decide) ?_
    obtain rfl := Option.some.inj h
    exact mr_ireturn dX11_strength_31 rfl
  · rw [if_neg c1] at h
    refine mr_icmp_ne_t (t := 10) dX11_strength_3 (by decide) c1 ?_
    refine mr_iload_n (pc' := 11) dX11_strength_10 rfl rfl ?_
    refine mr_bipush (pc' := 13) (v := (12 : Int32)) dX11_strength_11 rfl (by decide) ?_
    by_cases c2 : v0 = (12 : Int32)
    · rw [if_pos c2] at h
      refine mr_icmp_ne_f (t := 20) (pc' := 16) dX11_strength_13 (by decide) rfl (not_not_intro c2) ?_
      refine mr_iconst (pc' := 17) (v := (2 : Int32)) dX11_strength_16 rfl (by decide) ?_
      refine mr_goto (t := 31) dX11_strength_17 (by decide) ?_
      obtain rfl := Option.some.inj h
      exact mr_ireturn dX11_strength_31 rfl
    · rw [if_neg c2] at h
      refine mr_icmp_ne_t (t := 20) dX11_strength_13 (by decide) c2 ?_
      refine mr_iload_n (pc' := 21) dX11_strength_20 rfl rfl ?_
      refine mr_bipush (pc' := 23) (v := (11 : Int32)) dX11_strength_21 rfl (by decide) ?_
      by_cases c3 : v0 = (11 : Int32)
      · rw [if_pos c3] at h
        refine mr_icmp_ne_f (t := 30) (pc' := 26) dX11_strength_23 (by decide) rfl (not_not_intro c3) ?_
        refine mr_iconst (pc' := 27) (v := (3 : Int32)) dX11_strength_26 rfl (by decide) ?_
        refine mr_goto (t := 31) dX11_strength_27 (by decide) ?_
        obtain rfl := Option.some.inj h
        exact mr_ireturn dX11_strength_31 rfl
      · rw [if_neg c3] at h
        refine mr_icmp_ne_t (t := 30) dX11_strength_23 (by decide) c3 ?_
        refine mr_iconst (pc' := 31) (v := (0 : Int32)) dX11_strength_30 rfl (by decide) ?_
        obtain rfl := Option.some.inj h
        exact mr_ireturn dX11_strength_31 rfl
def lp_X11_settles_0 (p1 : Int32) (K : fS → Option (fS)) : Nat → fS → Option (fS)
  | 0, _ => none
  | n + 1, S0 =>
    if (S0.1 145 21) ≤ (0 : Int32) then (K S0) else
    ((gI S0 154 400 ((S0.1 145 21) - (1 : Int32))).bind fun a2 =>
    (f_X11_strength a2 S0).bind fun q5 =>
    if q5 < p1 then (K S0) else
    ((some (pI S0 145 21 ((S0.1 145 21) - (1 : Int32)))).bind fun S9 =>
    (gI S9 154 400 (S9.1 145 21)).bind fun a12 =>
    (f_X11_puts a12 (0 : Int32) S9).bind fun q15 =>
    (gI q15 154 400 (q15.1 145 21)).bind fun a18 =>
    if a18 = (11 : Int32) then ((some (pI q15 145 18 ((q15.1 145 18) - (1 : Int32)))).bind fun S22 =>
    lp_X11_settles_0 p1 K n  S22) else
    (lp_X11_settles_0 p1 K n  q15)))
set_option maxHeartbeats 4000000 in
set_option maxRecDepth 100000 in
theorem ok_lp_X11_settles_0 {X : mm_C} {RR : Nat → Nat → Option Nat} (hR : RRok RR) {p1 : Int32}  {K : fS → Option (fS)} {r : fS} (hK : ∀ (Sk : fS), K Sk = some r → mr X 1 mY_X11_settles 76 [] [] (MM RR Sk) (none, MM RR r)) : ∀ (n : Nat) (S0 : fS), lp_X11_settles_0 p1 K n S0 = some r → mr X 1 mY_X11_settles 0 [(0, .ref 145), (1, .int p1)] [] (MM RR S0) (none, MM RR r) := by
  intro n
  induction n with
  | zero => intro S0 h; exact mm_no h
  | succ n ih =>
    intro S0 h
    unfold lp_X11_settles_0 at h
    refine mr_aload_n (pc' := 1) dX11_settles_0 rfl rfl ?_
    refine mr_getI (pc' := 4) (ci := 11) (j := 21) dX11_settles_1 rfl rfl rfl (by decide) (by decide) rfl ?_
    by_cases c1 : (S0.1 145 21) ≤ (0 : Int32)
    · rw [if_pos c1] at h
      refine mr_if_le_t (t := 76) dX11_settles_4 (by decide) c1 ?_
      exact mr_sub [] trivial rfl (hK _  h)
    · rw [if_neg c1] at h
      refine mr_if_le_f (t := 76) (pc' := 7) dX11_settles_4 (by decide) rfl c1 ?_
      refine mr_aload_n (pc' := 8) dX11_settles_7 rfl rfl ?_
      refine mr_getR (pc' := 11) (ci := 11) (j := 20) (b := 154) hR dX11_settles_8 rfl rfl rfl (by decide) (by decide) (by decide) rfl rfl ?_
      refine mr_aload_n (pc' := 12) dX11_settles_11 rfl rfl ?_
      refine mr_getI (pc' := 15) (ci := 11) (j := 21) dX11_settles_12 rfl rfl rfl (by decide) (by decide) rfl ?_
      refine mr_iconst (pc' := 16) (v := (1 : Int32)) dX11_settles_15 rfl (by decide) ?_
      refine mr_isub (pc' := 17) dX11_settles_16 rfl ?_
      obtain ⟨a2, g3, h4⟩ := Option.bind_eq_some_iff.mp h
      refine mr_iald (pc' := 18) dX11_settles_17 rfl rfl rfl g3 ?_
      obtain ⟨q5, g6, h7⟩ := Option.bind_eq_some_iff.mp h4
      refine mr_cs (pc' := 21) (d1 := 0) dX11_settles_18 rfl rfl rfl rfl (by decide) (Nat.le_of_ble_eq_true rfl) rfl rfl rfl (by decide) (ok_X11_strength hR  g6) ?_
      show mr X _ _ 21 _ [.int q5] (MM RR S0) _
      refine mr_iload_n (pc' := 22) dX11_settles_21 rfl rfl ?_
      by_cases c8 : q5 < p1
      · rw [if_pos c8] at h7
        refine mr_icmp_lt_t (t := 76) dX11_settles_22 (by decide) c8 ?_
        exact mr_sub [] trivial rfl (hK _  h7)
      · rw [if_neg c8] at h7
        refine mr_icmp_lt_f (t := 76) (pc' := 25) dX11_settles_22 (by decide) rfl c8 ?_
        refine mr_aload_n (pc' := 26) dX11_settles_25 rfl rfl ?_
        refine mr_dup_ref (pc' := 27) dX11_settles_26 rfl ?_
        refine mr_getI (pc' := 30) (ci := 11) (j := 21) dX11_settles_27 rfl rfl rfl (by decide) (by decide) rfl ?_
        refine mr_iconst (pc' := 31) (v := (1 : Int32)) dX11_settles_30 rfl (by decide) ?_
        refine mr_isub (pc' := 32) dX11_settles_31 rfl ?_
        obtain ⟨S9, g10, h11⟩ := Option.bind_eq_some_iff.mp h7
        refine mr_putI (pc' := 35) (ci := 11) (j := 21) dX11_settles_32 rfl rfl rfl (by decide) (by decide) rfl rfl ?_
        rw [Option.some.inj g10]
        refine mr_aload_n (pc' := 36) dX11_settles_35 rfl rfl ?_
        refine mr_aload_n (pc' := 37) dX11_settles_36 rfl rfl ?_
        refine mr_getR (pc' := 40) (ci := 11) (j := 20) (b := 154) hR dX11_settles_37 rfl rfl rfl (by decide) (by decide) (by decide) rfl rfl ?_
        refine mr_aload_n (pc' := 41) dX11_settles_40 rfl rfl ?_
        refine mr_getI (pc' := 44) (ci := 11) (j := 21) dX11_settles_41 rfl rfl rfl (by decide) (by decide) rfl ?_
        obtain ⟨a12, g13, h14⟩ := Option.bind_eq_some_iff.mp h11
        refine mr_iald (pc' := 45) dX11_settles_44 rfl rfl rfl g13 ?_
        refine mr_iconst (pc' := 46) (v := (0 : Int32)) dX11_settles_45 rfl (by decide) ?_
        obtain ⟨q15, g16, h17⟩ := Option.bind_eq_some_iff.mp h14
        refine mr_cv (pc' := 49) (a := 145) (d1 := 0) dX11_settles_46 rfl rfl rfl rfl rfl rfl (by decide) rfl (by decide) (ok_X11_puts hR  g16) ?_
        show mr X _ _ 49 _ [] (MM RR q15) _
        refine mr_aload_n (pc' := 50) dX11_settles_49 rfl rfl ?_
        refine mr_getR (pc' := 53) (ci := 11) (j := 20) (b := 154) hR dX11_settles_50 rfl rfl rfl (by decide) (by decide) (by decide) rfl rfl ?_
        refine mr_aload_n (pc' := 54) dX11_settles_53 rfl rfl ?_
        refine mr_getI (pc' := 57) (ci := 11) (j := 21) dX11_settles_54 rfl rfl rfl (by decide) (by decide) rfl ?_
        obtain ⟨a18, g19, h20⟩ := Option.bind_eq_some_iff.mp h17
        refine mr_iald (pc' := 58) dX11_settles_57 rfl rfl rfl g19 ?_
        refine mr_bipush (pc' := 60) (v := (11 : Int32)) dX11_settles_58 rfl (by decide) ?_
        by_cases c21 : a18 = (11 : Int32)
        · rw [if_pos c21] at h20
          refine mr_icmp_ne_f (t := 0) (pc' := 63) dX11_settles_60 (by decide) rfl (not_not_intro c21) ?_
          refine mr_aload_n (pc' := 64) dX11_settles_63 rfl rfl ?_
          refine mr_dup_ref (pc' := 65) dX11_settles_64 rfl ?_
          refine mr_getI (pc' := 68) (ci := 11) (j := 18) dX11_settles_65 rfl rfl rfl (by decide) (by decide) rfl ?_
          refine mr_iconst (pc' := 69) (v := (1 : Int32)) dX11_settles_68 rfl (by decide) ?_
          refine mr_isub (pc' := 70) dX11_settles_69 rfl ?_
          obtain ⟨S22, g23, h24⟩ := Option.bind_eq_some_iff.mp h20
          refine mr_putI (pc' := 73) (ci := 11) (j := 18) dX11_settles_70 rfl rfl rfl (by decide) (by decide) rfl rfl ?_
          rw [Option.some.inj g23]
          refine mr_goto (t := 0) dX11_settles_73 (by decide) ?_
          exact mr_sub [(0, .ref 145), (1, .int p1)] ⟨rfl, rfl, trivial⟩ rfl (ih _  h24)
        · rw [if_neg c21] at h20
          refine mr_icmp_ne_t (t := 0) dX11_settles_60 (by decide) c21 ?_
          exact mr_sub [(0, .ref 145), (1, .int p1)] ⟨rfl, rfl, trivial⟩ rfl (ih _  h20)
def f_X11_settles (v1 : Int32) (S : fS) : Option (fS) :=
  lp_X11_settles_0 v1 (fun S25 => some S25) FU  S
set_option maxHeartbeats 4000000 in
set_option maxRecDepth 100000 in
theorem ok_X11_settles {X : mm_C} {RR : Nat → Nat → Option Nat} (hR : RRok RR) {v1 : Int32}  {S : fS} {r : fS} (h : f_X11_settles v1 S = some r) : mr X 1 mY_X11_settles 0 (lv_args 0 [.ref 145, .int v1]) [] (MM RR S) (none, MM RR r) := by
  unfold f_X11_settles at h
  show mr X _ _ 0 [(0, .ref 145), (1, .int v1)] [] (MM RR S) _
  refine mr_sub [(0, .ref 145), (1, .int v1)] ⟨rfl, rfl, trivial⟩ rfl ?_
  refine ok_lp_X11_settles_0 hR  (fun S25 h26 => ?_) FU _  h
  obtain rfl := Option.some.inj h26
  exact mr_return dX11_settles_76 rfl
def lp_X11_isInside_2  (S : fS) (K : Unit → Option (Int32)) : Nat → Int32 → Option (Int32)
  | 0, _ => none
  | n + 1, p1 =>
    if (S.1 145 21) ≤ p1 then (K ()) else
    ((gI S 154 400 p1).bind fun a2 =>
    if a2 = (91 : Int32) then (some (1 : Int32)) else
    (lp_X11_isInside_2  S K n (p1 + (1 : Int32))))
set_option maxHeartbeats 4000000 in
set_option maxRecDepth 100000 in
theorem ok_lp_X11_isInside_2 {X : mm_C} {RR : Nat → Nat → Option Nat} (hR : RRok RR)   {S : fS} {K : Unit → Option (Int32)} {r : Int32} (hK : ∀ (_ : Unit), K () = some r → mr X 0 mY_X11_isInside 29 [] [] (MM RR S) (some (.int r), MM RR S)) : ∀ (n : Nat) (p1 : Int32), lp_X11_isInside_2  S K n p1 = some r → mr X 0 mY_X11_isInside 2 [(0, .ref 145), (1, .int p1)] [] (MM RR S) (some (.int r), MM RR S) := by
  intro n
  induction n with
  | zero => intro p1 h; exact mm_no h
  | succ n ih =>
    intro p1 h
    unfold lp_X11_isInside_2 at h
    refine mr_iload_n (pc' := 3) dX11_isInside_2 rfl rfl ?_
    refine mr_aload_n (pc' := 4) dX11_isInside_3 rfl rfl ?_
    refine mr_getI (pc' := 7) (ci := 11) (j := 21) dX11_isInside_4 rfl rfl rfl (by decide) (by decide) rfl ?_
    by_cases c1 : (S.1 145 21) ≤ p1
    · rw [if_pos c1] at h
      refine mr_icmp_ge_t (t := 29) dX11_isInside_7 (by decide) c1 ?_
      exact mr_sub [] trivial rfl (hK () h)
    · rw [if_neg c1] at h
      refine mr_icmp_ge_f (t := 29) (pc' := 10) dX11_isInside_7 (by decide) rfl c1 ?_
      refine mr_aload_n (pc' := 11) dX11_isInside_10 rfl rfl ?_
      refine mr_getR (pc' := 14) (ci := 11) (j := 20) (b := 154) hR dX11_isInside_11 rfl rfl rfl (by decide) (by decide) (by decide) rfl rfl ?_
      refine mr_iload_n (pc' := 15) dX11_isInside_14 rfl rfl ?_
      obtain ⟨a2, g3, h4⟩ := Option.bind_eq_some_iff.mp h
      refine mr_iald (pc' := 16) dX11_isInside_15 rfl rfl rfl g3 ?_
      refine mr_bipush (pc' := 18) (v := (91 : Int32)) dX11_isInside_16 rfl (by decide) ?_
      by_cases c5 : a2 = (91 : Int32)
      · rw [if_pos c5] at h4
        refine mr_icmp_ne_f (t := 23) (pc' := 21) dX11_isInside_18 (by decide) rfl (not_not_intro c5) ?_
        refine mr_iconst (pc' := 22) (v := (1 : Int32)) dX11_isInside_21 rfl (by decide) ?_
        obtain rfl := Option.some.inj h4
        exact mr_zreturn dX11_isInside_22 rfl (by decide)
      · rw [if_neg c5] at h4
        refine mr_icmp_ne_t (t := 23) dX11_isInside_18 (by decide) c5 ?_
        refine mr_iinc (pc' := 26) (x' := (p1 + (1 : Int32))) (lv' := [(1, .int (p1 + (1 : Int32))), (0, .ref 145)]) dX11_isInside_23 rfl (by decide) rfl rfl rfl ?_
        refine mr_goto (t := 2) dX11_isInside_26 (by decide) ?_
        exact mr_sub [(0, .ref 145), (1, .int (p1 + (1 : Int32)))] ⟨rfl, rfl, trivial⟩ rfl (ih _  h4)
def f_X11_isInside  (S : fS) : Option (Int32) :=
  lp_X11_isInside_2  S (fun (_ : Unit) => some (0 : Int32)) FU (0 : Int32)
set_option maxHeartbeats 4000000 in
set_option maxRecDepth 100000 in
theorem ok_X11_isInside {X : mm_C} {RR : Nat → Nat → Option Nat} (hR : RRok RR)   {S : fS} {r : Int32} (h : f_X11_isInside  S = some r) : mr X 0 mY_X11_isInside 0 (lv_args 0 [.ref 145]) [] (MM RR S) (some (.int r), MM RR S) := by
  unfold f_X11_isInside at h
  show mr X _ _ 0 [(0, .ref 145)] [] (MM RR S) _
  refine mr_iconst (pc' := 1) (v := (0 : Int32)) dX11_isInside_0 rfl (by decide) ?_
  refine mr_istore_n (pc' := 2) (lv' := [(1, .int (0 : Int32)), (0, .ref 145)]) dX11_isInside_1 rfl (by decide) rfl ?_
  refine mr_sub [(0, .ref 145), (1, .int (0 : Int32))] ⟨rfl, rfl, trivial⟩ rfl ?_
  refine ok_lp_X11_isInside_2 hR  (fun _ h6 => ?_) FU _  h
  refine mr_iconst (pc' := 30) (v := (0 : Int32)) dX11_isInside_29 rfl (by decide) ?_
  obtain rfl := Option.some.inj h6
  exact mr_zreturn dX11_isInside_30 rfl (by decide)
def lp_X11_closes_5  (K : fS → Option (fS)) : Nat → fS → Option (fS)
  | 0, _ => none
  | n + 1, S0 =>
    (f_X11_see  S0).bind fun q4 =>
    if q4.1 = (93 : Int32) then ((f_X11_isInside  q4.2).bind fun q8 =>
    if q8 = (0 : Int32) then (K q4.2) else
    ((f_X11_settles (1 : Int32) q4.2).bind fun q12 =>
    (some (pI q12 145 21 ((q12.1 145 21) - (1 : Int32)))).bind fun S15 =>
    (some (pI S15 145 18 ((S15.1 145 18) - (1 : Int32)))).bind fun S18 =>
    (some (pI S18 145 13 ((S18.1 145 13) + (1 : Int32)))).bind fun S21 =>
    (f_X11_settles (3 : Int32) S21).bind fun q24 =>
    lp_X11_closes_5  K n  q24)) else
    (K q4.2)
set_option maxHeartbeats 4000000 in
set_option maxRecDepth 100000 in
theorem ok_lp_X11_closes_5 {X : mm_C} {RR : Nat → Nat → Option Nat} (hR : RRok RR)   {K : fS → Option (fS)} {r : fS} (hK : ∀ (Sk : fS), K Sk = some r → mr X 2 mY_X11_closes 64 [] [] (MM RR Sk) (none, MM RR r)) : ∀ (n : Nat) (S0 : fS), lp_X11_closes_5  K n S0 = some r → mr X 2 mY_X11_closes 5 [(0, .ref 145)] [] (MM RR S0) (none, MM RR r) := by
  intro n
  induction n with
  | zero => intro S0 h; exact mm_no h
  | succ n ih =>
    intro S0 h
    unfold lp_X11_closes_5 at h
    refine mr_aload_n (pc' := 6) dX11_closes_5 rfl rfl ?_
    obtain ⟨q4, g5, h6⟩ := Option.bind_eq_some_iff.mp h
    refine mr_cv (pc' := 9) (a := 145) (d1 := 0) dX11_closes_6 rfl rfl rfl rfl rfl rfl (by decide) rfl (by decide) (ok_X11_see hR  g5) ?_
    show mr X _ _ 9 _ [.int q4.1] (MM RR q4.2) _
    refine mr_bipush (pc' := 11) (v := (93 : Int32)) dX11_closes_9 rfl (by decide) ?_
    by_cases c7 : q4.1 = (93 : Int32)
    · rw [if_pos c7] at h6
      refine mr_icmp_ne_f (t := 64) (pc' := 14) dX11_closes_11 (by decide) rfl (not_not_intro c7) ?_
      refine mr_aload_n (pc' := 15) dX11_closes_14 rfl rfl ?_
      obtain ⟨q8, g9, h10⟩ := Option.bind_eq_some_iff.mp h6
      refine mr_cv (pc' := 18) (a := 145) (d1 := 0) dX11_closes_15 rfl rfl rfl rfl rfl rfl (by decide) rfl (by decide) (ok_X11_isInside hR  g9) ?_
      show mr X _ _ 18 _ [.int q8] (MM RR q4.2) _
      by_cases c11 : q8 = (0 : Int32)
      · rw [if_pos c11] at h10
        refine mr_if_eq_t (t := 64) dX11_closes_18 (by decide) c11 ?_
        exact mr_sub [] trivial rfl (hK _  h10)
      · rw [if_neg c11] at h10
        refine mr_if_eq_f (t := 64) (pc' := 21) dX11_closes_18 (by decide) rfl c11 ?_
        refine mr_aload_n (pc' := 22) dX11_closes_21 rfl rfl ?_
        refine mr_iconst (pc' := 23) (v := (1 : Int32)) dX11_closes_22 rfl (by decide) ?_
        obtain ⟨q12, g13, h14⟩ := Option.bind_eq_some_iff.mp h10
        refine mr_cv (pc' := 26) (a := 145) (d1 := 1) dX11_closes_23 rfl rfl rfl rfl rfl rfl (by decide) rfl (by decide) (ok_X11_settles hR  g13) ?_
        show mr X _ _ 26 _ [] (MM RR q12) _
        refine mr_aload_n (pc' := 27) dX11_closes_26 rfl rfl ?_
        refine mr_dup_ref (pc' := 28) dX11_closes_27 rfl ?_
        refine mr_getI (pc' := 31) (ci := 11) (j := 21) dX11_closes_28 rfl rfl rfl (by decide) (by decide) rfl ?_
        refine mr_iconst (pc' := 32) (v := (1 : Int32)) dX11_closes_31 rfl (by decide) ?_
        refine mr_isub (pc' := 33) dX11_closes_32 rfl ?_
        obtain ⟨S15, g16, h17⟩ := Option.bind_eq_some_iff.mp h14
        refine mr_putI (pc' := 36) (ci := 11) (j := 21) dX11_closes_33 rfl rfl rfl (by decide) (by decide) rfl rfl ?_
        rw [Option.some.inj g16]
        refine mr_aload_n (pc' := 37) dX11_closes_36 rfl rfl ?_
        refine mr_dup_ref (pc' := 38) dX11_closes_37 rfl ?_
        refine mr_getI (pc' := 41) (ci := 11) (j := 18) dX11_closes_38 rfl rfl rfl (by decide) (by decide) rfl ?_
        refine mr_iconst (pc' := 42) (v := (1 : Int32)) dX11_closes_41 rfl (by decide) ?_
        refine mr_isub (pc' := 43) dX11_closes_42 rfl ?_
        obtain ⟨S18, g19, h20⟩ := Option.bind_eq_some_iff.mp h17
        refine mr_putI (pc' := 46) (ci := 11) (j := 18) dX11_closes_43 rfl rfl rfl (by decide) (by decide) rfl rfl ?_
        rw [Option.some.inj g19]
        refine mr_aload_n (pc' := 47) dX11_closes_46 rfl rfl ?_
        refine mr_dup_ref (pc' := 48) dX11_closes_47 rfl ?_
        refine mr_getI (pc' := 51) (ci := 11) (j := 13) dX11_closes_48 rfl rfl rfl (by decide) (by decide) rfl ?_
        refine mr_iconst (pc' := 52) (v := (1 : Int32)) dX11_closes_51 rfl (by decide) ?_
        refine mr_iadd (pc' := 53) dX11_closes_52 rfl ?_
        obtain ⟨S21, g22, h23⟩ := Option.bind_eq_some_iff.mp h20
        refine mr_putI (pc' := 56) (ci := 11) (j := 13) dX11_closes_53 rfl rfl rfl (by decide) (by decide) rfl rfl ?_
        rw [Option.some.inj g22]
        refine mr_aload_n (pc' := 57) dX11_closes_56 rfl rfl ?_
        refine mr_iconst (pc' := 58) (v := (3 : Int32)) dX11_closes_57 rfl (by decide) ?_
        obtain ⟨q24, g25, h26⟩ := Option.bind_eq_some_iff.mp h23
        refine mr_cv (pc' := 61) (a := 145) (d1 := 1) dX11_closes_58 rfl rfl rfl rfl rfl rfl (by decide) rfl (by decide) (ok_X11_settles hR  g25) ?_
        show mr X _ _ 61 _ [] (MM RR q24) _
        refine mr_goto (t := 5) dX11_closes_61 (by decide) ?_
        exact mr_sub [(0, .ref 145)] ⟨rfl, trivial⟩ rfl (ih _  h26)
    · rw [if_neg c7] at h6
      refine mr_icmp_ne_t (t := 64) dX11_closes_11 (by decide) c7 ?_
      exact mr_sub [] trivial rfl (hK _  h6)
def f_X11_closes  (S : fS) : Option (fS) :=
  (f_X11_settles (3 : Int32) S).bind fun q1 =>
  lp_X11_closes_5  (fun S27 => some S27) FU  q1
set_option maxHeartbeats 4000000 in
set_option maxRecDepth 100000 in
theorem ok_X11_closes {X : mm_C} {RR : Nat → Nat → Option Nat} (hR : RRok RR)   {S : fS} {r : fS} (h : f_X11_closes  S = some r) : mr X 2 mY_X11_closes 0 (lv_args 0 [.ref 145]) [] (MM RR S) (none, MM RR r) := by
  unfold f_X11_closes at h
  show mr X _ _ 0 [(0, .ref 145)] [] (MM RR S) _
  refine mr_aload_n (pc' := 1) dX11_closes_0 rfl rfl ?_
  refine mr_iconst (pc' := 2) (v := (3 : Int32)) dX11_closes_1 rfl (by decide) ?_
  obtain ⟨q1, g2, h3⟩ := Option.bind_eq_some_iff.mp h
  refine mr_cv (pc' := 5) (a := 145) (d1 := 1) dX11_closes_2 rfl rfl rfl rfl rfl rfl (by decide) rfl (by decide) (ok_X11_settles hR  g2) ?_
  show mr X _ _ 5 _ [] (MM RR q1) _
  refine mr_sub [(0, .ref 145)] ⟨rfl, trivial⟩ rfl ?_
  refine ok_lp_X11_closes_5 hR  (fun S27 h28 => ?_) FU _  h3
  obtain rfl := Option.some.inj h28
  exact mr_return dX11_closes_64 rfl
def lp_X11_tested_12  (K : fS → Option (Int32 × fS)) : Nat → Int32 → fS → Option (Int32 × fS)
  | 0, _, _ => none
  | n + 1, p1, S0 =>
    if p1 = (0 : Int32) then (K S0) else
    ((f_X11_fact  S0).bind fun q8 =>
    if q8.1 = (0 : Int32) then (some ((0 : Int32), q8.2)) else
    ((f_X11_closes  q8.2).bind fun q12 =>
    (f_X11_isWord (6385252 : Int64) q12).bind fun q15 =>
    if q15.1 = (0 : Int32) then ((f_X11_isWord (28530 : Int64) q15.2).bind fun q54 =>
    if q54.1 = (0 : Int32) then (if (0 : Int32) = (0 : Int32) then (lp_X11_tested_12  K n (0 : Int32) q54.2) else
    ((f_X11_isWord (6385252 : Int64) q54.2).bind fun q59 =>
    if q59.1 = (0 : Int32) then ((f_X11_passWord  q59.2).bind fun q63 =>
    (f_X11_strength (13 : Int32) q63).bind fun q66 =>
    (f_X11_settles q66 q63).bind fun q69 =>
    (sI q69 154 400 (q69.1 145 21) (13 : Int32)).bind fun S72 =>
    (some (pI S72 145 21 ((S72.1 145 21) + (1 : Int32)))).bind fun S75 =>
    lp_X11_tested_12  K n (0 : Int32) S75) else
    ((f_X11_passWord  q59.2).bind fun q78 =>
    (f_X11_strength (12 : Int32) q78).bind fun q81 =>
    (f_X11_settles q81 q78).bind fun q84 =>
    (sI q84 154 400 (q84.1 145 21) (12 : Int32)).bind fun S87 =>
    (some (pI S87 145 21 ((S87.1 145 21) + (1 : Int32)))).bind fun S90 =>
    lp_X11_tested_12  K n (0 : Int32) S90))) else
    (if (1 : Int32) = (0 : Int32) then (lp_X11_tested_12  K n (1 : Int32) q54.2) else
    ((f_X11_isWord (6385252 : Int64) q54.2).bind fun q94 =>
    if q94.1 = (0 : Int32) then ((f_X11_passWord  q94.2).bind fun q98 =>
    (f_X11_strength (13 : Int32) q98).bind fun q101 =>
    (f_X11_settles q101 q98).bind fun q104 =>
    (sI q104 154 400 (q104.1 145 21) (13 : Int32)).bind fun S107 =>
    (some (pI S107 145 21 ((S107.1 145 21) + (1 : Int32)))).bind fun S110 =>
    lp_X11_tested_12  K n (1 : Int32) S110) else
    ((f_X11_passWord  q94.2).bind fun q113 =>
    (f_X11_strength (12 : Int32) q113).bind fun q116 =>
    (f_X11_settles q116 q113).bind fun q119 =>
    (sI q119 154 400 (q119.1 145 21) (12 : Int32)).bind fun S122 =>
    (some (pI S122 145 21 ((S122.1 145 21) + (1 : Int32)))).bind fun S125 =>
    lp_X11_tested_12  K n (1 : Int32) S125)))) else
    (if (1 : Int32) = (0 : Int32) then (lp_X11_tested_12  K n (1 : Int32) q15.2) else
    ((f_X11_isWord (6385252 : Int64) q15.2).bind fun q20 =>
    if q20.1 = (0 : Int32) then ((f_X11_passWord  q20.2).bind fun q24 =>
    (f_X11_strength (13 : Int32) q24).bind fun q27 =>
    (f_X11_settles q27 q24).bind fun q30 =>
    (sI q30 154 400 (q30.1 145 21) (13 : Int32)).bind fun S33 =>
    (some (pI S33 145 21 ((S33.1 145 21) + (1 : Int32)))).bind fun S36 =>
    lp_X11_tested_12  K n (1 : Int32) S36) else
    ((f_X11_passWord  q20.2).bind fun q39 =>
    (f_X11_strength (12 : Int32) q39).bind fun q42 =>
    (f_X11_settles q42 q39).bind fun q45 =>
    (sI q45 154 400 (q45.1 145 21) (12 : Int32)).bind fun S48 =>
    (some (pI S48 145 21 ((S48.1 145 21) + (1 : Int32)))).bind fun S51 =>
    lp_X11_tested_12  K n (1 : Int32) S51)))))
set_option maxHeartbeats 4000000 in
set_option maxRecDepth 100000 in
theorem ok_lp_X11_tested_12 {X : mm_C} {RR : Nat → Nat → Option Nat} (hR : RRok RR)   {K : fS → Option (Int32 × fS)} {r : Int32 × fS} (hK : ∀ (Sk : fS), K Sk = some r → mr X 8 mY_X11_tested 112 [(0, .ref 145)] [] (MM RR Sk) (some (.int r.1), MM RR r.2)) : ∀ (n : Nat) (p1 : Int32) (S0 : fS), lp_X11_tested_12  K n p1 S0 = some r → mr X 8 mY_X11_tested 12 [(0, .ref 145), (1, .int p1)] [] (MM RR S0) (some (.int r.1), MM RR r.2) := by
  intro n
  induction n with
  | zero => intro p1 S0 h; exact mm_no h
  | succ n ih =>
    intro p1 S0 h
    unfold lp_X11_tested_12 at h
    refine mr_iload_n (pc' := 13) dX11_tested_12 rfl rfl ?_
    by_cases c7 : p1 = (0 : Int32)
    · rw [if_pos c7] at h
      refine mr_if_eq_t (t := 112) dX11_tested_13 (by decide) c7 ?_
      exact mr_sub [(0, .ref 145)] ⟨rfl, trivial⟩ rfl (hK _  h)
    · rw [if_neg c7] at h
      refine mr_if_eq_f (t := 112) (pc' := 16) dX11_tested_13 (by decide) rfl c7 ?_
      refine mr_aload_n (pc' := 17) dX11_tested_16 rfl rfl ?_
      obtain ⟨q8, g9, h10⟩ := Option.bind_eq_some_iff.mp h
      refine mr_cv (pc' := 20) (a := 145) (d1 := 7) dX11_tested_17 rfl rfl rfl rfl rfl rfl (by decide) rfl (by decide) (ok_X11_fact hR  g9) ?_
      show mr X _ _ 20 _ [.int q8.1] (MM RR q8.2) _
      by_cases c11 : q8.1 = (0 : Int32)
      · rw [if_pos c11] at h10
        refine mr_if_ne_f (t := 25) (pc' := 23) dX11_tested_20 (by decide) rfl (not_not_intro c11) ?_
        refine mr_iconst (pc' := 24) (v := (0 : Int32)) dX11_tested_23 rfl (by decide) ?_
        obtain rfl := Option.some.inj h10
        exact mr_zreturn dX11_tested_24 rfl (by decide)
      · rw [if_neg c11] at h10
        refine mr_if_ne_t (t := 25) dX11_tested_20 (by decide) c11 ?_
        refine mr_aload_n (pc' := 26) dX11_tested_25 rfl rfl ?_
        obtain ⟨q12, g13, h14⟩ := Option.bind_eq_some_iff.mp h10
        refine mr_cv (pc' := 29) (a := 145) (d1 := 2) dX11_tested_26 rfl rfl rfl rfl rfl rfl (by decide) rfl (by decide) (ok_X11_closes hR  g13) ?_
        show mr X _ _ 29 _ [] (MM RR q12) _
        refine mr_aload_n (pc' := 30) dX11_tested_29 rfl rfl ?_
        refine mr_ldc2 (pc' := 33) (v := (6385252 : Int64)) dX11_tested_30 rfl rfl ?_
        obtain ⟨q15, g16, h17⟩ := Option.bind_eq_some_iff.mp h14
        refine mr_cv (pc' := 36) (a := 145) (d1 := 1) dX11_tested_33 rfl rfl rfl rfl rfl rfl (by decide) rfl (by decide) (ok_X11_isWord hR  g16) ?_
        show mr X _ _ 36 _ [.int q15.1] (MM RR q15.2) _
        by_cases c18 : q15.1 = (0 : Int32)
        · rw [if_pos c18] at h17
          refine mr_if_ne_f (t := 49) (pc' := 39) dX11_tested_36 (by decide) rfl (not_not_intro c18) ?_
          refine mr_aload_n (pc' := 40) dX11_tested_39 rfl rfl ?_
          refine mr_ldc2 (pc' := 43) (v := (28530 : Int64)) dX11_tested_40 rfl rfl ?_
          obtain ⟨q54, g55, h56⟩ := Option.bind_eq_some_iff.mp h17
          refine mr_cv (pc' := 46) (a := 145) (d1 := 1) dX11_tested_43 rfl rfl rfl rfl rfl rfl (by decide) rfl (by decide) (ok_X11_isWord hR  g55) ?_
          show mr X _ _ 46 _ [.int q54.1] (MM RR q54.2) _
          by_cases c57 : q54.1 = (0 : Int32)
          · rw [if_pos c57] at h56
            refine mr_if_eq_t (t := 53) dX11_tested_46 (by decide) c57 ?_
            refine mr_iconst (pc' := 54) (v := (0 : Int32)) dX11_tested_53 rfl (by decide) ?_
            refine mr_istore_n (pc' := 55) (lv' := [(1, .int (0 : Int32)), (0, .ref 145)]) dX11_tested_54 rfl (by decide) rfl ?_
            refine mr_iload_n (pc' := 56) dX11_tested_55 rfl rfl ?_
            by_cases c58 : (0 : Int32) = (0 : Int32)
            · rw [if_pos c58] at h56
              refine mr_if_eq_t (t := 12) dX11_tested_56 (by decide) c58 ?_
              exact mr_sub [(0, .ref 145), (1, .int (0 : Int32))] ⟨rfl, rfl, trivial⟩ rfl (ih _ _  h56)
            · rw [if_neg c58] at h56
              refine mr_if_eq_f (t := 12) (pc' := 59) dX11_tested_56 (by decide) rfl c58 ?_
              refine mr_aload_n (pc' := 60) dX11_tested_59 rfl rfl ?_
              refine mr_ldc2 (pc' := 63) (v := (6385252 : Int64)) dX11_tested_60 rfl rfl ?_
              obtain ⟨q59, g60, h61⟩ := Option.bind_eq_some_iff.mp h56
              refine mr_cv (pc' := 66) (a := 145) (d1 := 1) dX11_tested_63 rfl rfl rfl rfl rfl rfl (by decide) rfl (by decide) (ok_X11_isWord hR  g60) ?_
              show mr X _ _ 66 _ [.int q59.1] (MM RR q59.2) _
              by_cases c62 : q59.1 = (0 : Int32)
              · rw [if_pos c62] at h61
                refine mr_if_eq_t (t := 74) dX11_tested_66 (by decide) c62 ?_
                refine mr_bipush (pc' := 76) (v := (13 : Int32)) dX11_tested_74 rfl (by decide) ?_
                refine mr_istore_n (pc' := 77) (lv' := [(2, .int (13 : Int32)), (1, .int (0 : Int32)), (0, .ref 145)]) dX11_tested_76 rfl (by decide) rfl ?_
                refine mr_aload_n (pc' := 78) dX11_tested_77 rfl rfl ?_
                obtain ⟨q63, g64, h65⟩ := Option.bind_eq_some_iff.mp h61
                refine mr_cv (pc' := 81) (a := 145) (d1 := 1) dX11_tested_78 rfl rfl rfl rfl rfl rfl (by decide) rfl (by decide) (ok_X11_passWord hR  g64) ?_
                show mr X _ _ 81 _ [] (MM RR q63) _
                refine mr_aload_n (pc' := 82) dX11_tested_81 rfl rfl ?_
                refine mr_iload_n (pc' := 83) dX11_tested_82 rfl rfl ?_
                obtain ⟨q66, g67, h68⟩ := Option.bind_eq_some_iff.mp h65
                refine mr_cs (pc' := 86) (d1 := 0) dX11_tested_83 rfl rfl rfl rfl (by decide) (Nat.le_of_ble_eq_true rfl) rfl rfl rfl (by decide) (ok_X11_strength hR  g67) ?_
                show mr X _ _ 86 _ [.int q66, .ref 145] (MM RR q63) _
                obtain ⟨q69, g70, h71⟩ := Option.bind_eq_some_iff.mp h68
                refine mr_cv (pc' := 89) (a := 145) (d1 := 1) dX11_tested_86 rfl rfl rfl rfl rfl rfl (by decide) rfl (by decide) (ok_X11_settles hR  g70) ?_
                show mr X _ _ 89 _ [] (MM RR q69) _
                refine mr_aload_n (pc' := 90) dX11_tested_89 rfl rfl ?_
                refine mr_getR (pc' := 93) (ci := 11) (j := 20) (b := 154) hR dX11_tested_90 rfl rfl rfl (by decide) (by decide) (by decide) rfl rfl ?_
                refine mr_aload_n (pc' := 94) dX11_tested_93 rfl rfl ?_
                refine mr_getI (pc' := 97) (ci := 11) (j := 21) dX11_tested_94 rfl rfl rfl (by decide) (by decide) rfl ?_
                refine mr_iload_n (pc' := 98) dX11_tested_97 rfl rfl ?_
                obtain ⟨S72, g73, h74⟩ := Option.bind_eq_some_iff.mp h71
                refine mr_iast (pc' := 99) dX11_tested_98 rfl rfl rfl g73 ?_
                refine mr_aload_n (pc' := 100) dX11_tested_99 rfl rfl ?_
                refine mr_dup_ref (pc' := 101) dX11_tested_100 rfl ?_
                refine mr_getI (pc' := 104) (ci := 11) (j := 21) dX11_tested_101 rfl rfl rfl (by decide) (by decide) rfl ?_
                refine mr_iconst (pc' := 105) (v := (1 : Int32)) dX11_tested_104 rfl (by decide) ?_
                refine mr_iadd (pc' := 106) dX11_tested_105 rfl ?_
                obtain ⟨S75, g76, h77⟩ := Option.bind_eq_some_iff.mp h74
                refine mr_putI (pc' := 109) (ci := 11) (j := 21) dX11_tested_106 rfl rfl rfl (by decide) (by decide) rfl rfl ?_
                rw [Option.some.inj g76]
                refine mr_goto (t := 12) dX11_tested_109 (by decide) ?_
                exact mr_sub [(0, .ref 145), (1, .int (0 : Int32))] ⟨rfl, rfl, trivial⟩ rfl (ih _ _  h77)
              · rw [if_neg c62] at h61
                refine mr_if_eq_f (t := 74) (pc' := 69) dX11_tested_66 (by decide) rfl c62 ?_
                refine mr_bipush (pc' := 71) (v := (12 : Int32)) dX11_tested_69 rfl (by decide) ?_
                refine mr_goto (t := 76) dX11_tested_71 (by decide) ?_
                refine mr_istore_n (pc' := 77) (lv' := [(2, .int (12 : Int32)), (1, .int (0 : Int32)), (0, .ref 145)]) dX11_tested_76 rfl (by decide) rfl ?_
                refine mr_aload_n (pc' := 78) dX11_tested_77 rfl rfl ?_
                obtain ⟨q78, g79, h80⟩ := Option.bind_eq_some_iff.mp h61
                refine mr_cv (pc' := 81) (a := 145) (d1 := 1) dX11_tested_78 rfl rfl rfl rfl rfl rfl (by decide) rfl (by decide) (ok_X11_passWord hR  g79) ?_
                show mr X _ _ 81 _ [] (MM RR q78) _
                refine mr_aload_n (pc' := 82) dX11_tested_81 rfl rfl ?_
                refine mr_iload_n (pc' := 83) dX11_tested_82 rfl rfl ?_
                obtain ⟨q81, g82, h83⟩ := Option.bind_eq_some_iff.mp h80
                refine mr_cs (pc' := 86) (d1 := 0) dX11_tested_83 rfl rfl rfl rfl (by decide) (Nat.le_of_ble_eq_true rfl) rfl rfl rfl (by decide) (ok_X11_strength hR  g82) ?_
                show mr X _ _ 86 _ [.int q81, .ref 145] (MM RR q78) _
                obtain ⟨q84, g85, h86⟩ := Option.bind_eq_some_iff.mp h83
                refine mr_cv (pc' := 89) (a := 145) (d1 := 1) dX11_tested_86 rfl rfl rfl rfl rfl rfl (by decide) rfl (by decide) (ok_X11_settles hR  g85) ?_
                show mr X _ _ 89 _ [] (MM RR q84) _
                refine mr_aload_n (pc' := 90) dX11_tested_89 rfl rfl ?_
                refine mr_getR (pc' := 93) (ci := 11) (j := 20) (b := 154) hR dX11_tested_90 rfl rfl rfl (by decide) (by decide) (by decide) rfl rfl ?_
                refine mr_aload_n (pc' := 94) dX11_tested_93 rfl rfl ?_
                refine mr_getI (pc' := 97) (ci := 11) (j := 21) dX11_tested_94 rfl rfl rfl (by decide) (by decide) rfl ?_
                refine mr_iload_n (pc' := 98) dX11_tested_97 rfl rfl ?_
                obtain ⟨S87, g88, h89⟩ := Option.bind_eq_some_iff.mp h86
                refine mr_iast (pc' := 99) dX11_tested_98 rfl rfl rfl g88 ?_
                refine mr_aload_n (pc' := 100) dX11_tested_99 rfl rfl ?_
                refine mr_dup_ref (pc' := 101) dX11_tested_100 rfl ?_
                refine mr_getI (pc' := 104) (ci := 11) (j := 21) dX11_tested_101 rfl rfl rfl (by decide) (by decide) rfl ?_
                refine mr_iconst (pc' := 105) (v := (1 : Int32)) dX11_tested_104 rfl (by decide) ?_
                refine mr_iadd (pc' := 106) dX11_tested_105 rfl ?_
                obtain ⟨S90, g91, h92⟩ := Option.bind_eq_some_iff.mp h89
                refine mr_putI (pc' := 109) (ci := 11) (j := 21) dX11_tested_106 rfl rfl rfl (by decide) (by decide) rfl rfl ?_
                rw [Option.some.inj g91]
                refine mr_goto (t := 12) dX11_tested_109 (by decide) ?_
                exact mr_sub [(0, .ref 145), (1, .int (0 : Int32))] ⟨rfl, rfl, trivial⟩ rfl (ih _ _  h92)
          · rw [if_neg c57] at h56
            refine mr_if_eq_f (t := 53) (pc' := 49) dX11_tested_46 (by decide) rfl c57 ?_
            refine mr_iconst (pc' := 50) (v := (1 : Int32)) dX11_tested_49 rfl (by decide) ?_
            refine mr_goto (t := 54) dX11_tested_50 (by decide) ?_
            refine mr_istore_n (pc' := 55) (lv' := [(1, .int (1 : Int32)), (0, .ref 145)]) dX11_tested_54 rfl (by decide) rfl ?_
            refine mr_iload_n (pc' := 56) dX11_tested_55 rfl rfl ?_
            by_cases c93 : (1 : Int32) = (0 : Int32)
            · rw [if_pos c93] at h56
              refine mr_if_eq_t (t := 12) dX11_tested_56 (by decide) c93 ?_
              exact mr_sub [(0, .ref 145), (1, .int (1 : Int32))] ⟨rfl, rfl, trivial⟩ rfl (ih _ _  h56)
            · rw [if_neg c93] at h56
              refine mr_if_eq_f (t := 12) (pc' := 59) dX11_tested_56 (by decide) rfl c93 ?_
              refine mr_aload_n (pc' := 60) dX11_tested_59 rfl rfl ?_
              refine mr_ldc2 (pc' := 63) (v := (6385252 : Int64)) dX11_tested_60 rfl rfl ?_
              obtain ⟨q94, g95, h96⟩ := Option.bind_eq_some_iff.mp h56
              refine mr_cv (pc' := 66) (a := 145) (d1 := 1) dX11_tested_63 rfl rfl rfl rfl rfl rfl (by decide) rfl (by decide) (ok_X11_isWord hR  g95) ?_
              show mr X _ _ 66 _ [.int q94.1] (MM RR q94.2) _
              by_cases c97 : q94.1 = (0 : Int32)
              · rw [if_pos c97] at h96
                refine mr_if_eq_t (t := 74) dX11_tested_66 (by decide) c97 ?_
                refine mr_bipush (pc' := 76) (v := (13 : Int32)) dX11_tested_74 rfl (by decide) ?_
                refine mr_istore_n (pc' := 77) (lv' := [(2, .int (13 : Int32)), (1, .int (1 : Int32)), (0, .ref 145)]) dX11_tested_76 rfl (by decide) rfl ?_
                refine mr_aload_n (pc' := 78) dX11_tested_77 rfl rfl ?_
                obtain ⟨q98, g99, h100⟩ := Option.bind_eq_some_iff.mp h96
                refine mr_cv (pc' := 81) (a := 145) (d1 := 1) dX11_tested_78 rfl rfl rfl rfl rfl rfl (by decide) rfl (by decide) (ok_X11_passWord hR  g99) ?_
                show mr X _ _ 81 _ [] (MM RR q98) _
                refine mr_aload_n (pc' := 82) dX11_tested_81 rfl rfl ?_
                refine mr_iload_n (pc' := 83) dX11_tested_82 rfl rfl ?_
                obtain ⟨q101, g102, h103⟩ := Option.bind_eq_some_iff.mp h100
                refine mr_cs (pc' := 86) (d1 := 0) dX11_tested_83 rfl rfl rfl rfl (by decide) (Nat.le_of_ble_eq_true rfl) rfl rfl rfl (by decide) (ok_X11_strength hR  g102) ?_
                show mr X _ _ 86 _ [.int q101, .ref 145] (MM RR q98) _
                obtain ⟨q104, g105, h106⟩ := Option.bind_eq_some_iff.mp h103
                refine mr_cv (pc' := 89) (a := 145) (d1 := 1) dX11_tested_86 rfl rfl rfl rfl rfl rfl (by decide) rfl (by decide) (ok_X11_settles hR  g105) ?_
                show mr X _ _ 89 _ [] (MM RR q104) _
                refine mr_aload_n (pc' := 90) dX11_tested_89 rfl rfl ?_
                refine mr_getR (pc' := 93) (ci := 11) (j := 20) (b := 154) hR dX11_tested_90 rfl rfl rfl (by decide) (by decide) (by decide) rfl rfl ?_
                refine mr_aload_n (pc' := 94) dX11_tested_93 rfl rfl ?_
                refine mr_getI (pc' := 97) (ci := 11) (j := 21) dX11_tested_94 rfl rfl rfl (by decide) (by decide) rfl ?_
                refine mr_iload_n (pc' := 98) dX11_tested_97 rfl rfl ?_
                obtain ⟨S107, g108, h109⟩ := Option.bind_eq_some_iff.mp h106
                refine mr_iast (pc' := 99) dX11_tested_98 rfl rfl rfl g108 ?_
                refine mr_aload_n (pc' := 100) dX11_tested_99 rfl rfl ?_
                refine mr_dup_ref (pc' := 101) dX11_tested_100 rfl ?_
                refine mr_getI (pc' := 104) (ci := 11) (j := 21) dX11_tested_101 rfl rfl rfl (by decide) (by decide) rfl ?_
                refine mr_iconst (pc' := 105) (v := (1 : Int32)) dX11_tested_104 rfl (by decide) ?_
                refine mr_iadd (pc' := 106) dX11_tested_105 rfl ?_
                obtain ⟨S110, g111, h112⟩ := Option.bind_eq_some_iff.mp h109
                refine mr_putI (pc' := 109) (ci := 11) (j := 21) dX11_tested_106 rfl rfl rfl (by decide) (by decide) rfl rfl ?_
                rw [Option.some.inj g111]
                refine mr_goto (t := 12) dX11_tested_109 (by decide) ?_
                exact mr_sub [(0, .ref 145), (1, .int (1 : Int32))] ⟨rfl, rfl, trivial⟩ rfl (ih _ _  h112)
              · rw [if_neg c97] at h96
                refine mr_if_eq_f (t := 74) (pc' := 69) dX11_tested_66 (by decide) rfl c97 ?_
                refine mr_bipush (pc' := 71) (v := (12 : Int32)) dX11_tested_69 rfl (by decide) ?_
                refine mr_goto (t := 76) dX11_tested_71 (by decide) ?_
                refine mr_istore_n (pc' := 77) (lv' := [(2, .int (12 : Int32)), (1, .int (1 : Int32)), (0, .ref 145)]) dX11_tested_76 rfl (by decide) rfl ?_
                refine mr_aload_n (pc' := 78) dX11_tested_77 rfl rfl ?_
                obtain ⟨q113, g114, h115⟩ := Option.bind_eq_some_iff.mp h96
                refine mr_cv (pc' := 81) (a := 145) (d1 := 1) dX11_tested_78 rfl rfl rfl rfl rfl rfl (by decide) rfl (by decide) (ok_X11_passWord hR  g114) ?_
                show mr X _ _ 81 _ [] (MM RR q113) _
                refine mr_aload_n (pc' := 82) dX11_tested_81 rfl rfl ?_
                refine mr_iload_n (pc' := 83) dX11_tested_82 rfl rfl ?_
                obtain ⟨q116, g117, h118⟩ := Option.bind_eq_some_iff.mp h115
                refine mr_cs (pc' := 86) (d1 := 0) dX11_tested_83 rfl rfl rfl rfl (by decide) (Nat.le_of_ble_eq_true rfl) rfl rfl rfl (by decide) (ok_X11_strength hR  g117) ?_
                show mr X _ _ 86 _ [.int q116, .ref 145] (MM RR q113) _
                obtain ⟨q119, g120, h121⟩ := Option.bind_eq_some_iff.mp h118
                refine mr_cv (pc' := 89) (a := 145) (d1 := 1) dX11_tested_86 rfl rfl rfl rfl rfl rfl (by decide) rfl (by decide) (ok_X11_settles hR  g120) ?_
                show mr X _ _ 89 _ [] (MM RR q119) _
                refine mr_aload_n (pc' := 90) dX11_tested_89 rfl rfl ?_
                refine mr_getR (pc' := 93) (ci := 11) (j := 20) (b := 154) hR dX11_tested_90 rfl rfl rfl (by decide) (by decide) (by decide) rfl rfl ?_
                refine mr_aload_n (pc' := 94) dX11_tested_93 rfl rfl ?_
                refine mr_getI (pc' := 97) (ci := 11) (j := 21) dX11_tested_94 rfl rfl rfl (by decide) (by decide) rfl ?_
                refine mr_iload_n (pc' := 98) dX11_tested_97 rfl rfl ?_
                obtain ⟨S122, g123, h124⟩ := Option.bind_eq_some_iff.mp h121
                refine mr_iast (pc' := 99) dX11_tested_98 rfl rfl rfl g123 ?_
                refine mr_aload_n (pc' := 100) dX11_tested_99 rfl rfl ?_
                refine mr_dup_ref (pc' := 101) dX11_tested_100 rfl ?_
                refine mr_getI (pc' := 104) (ci := 11) (j := 21) dX11_tested_101 rfl rfl rfl (by decide) (by decide) rfl ?_
                refine mr_iconst (pc' := 105) (v := (1 : Int32)) dX11_tested_104 rfl (by decide) ?_
                refine mr_iadd (pc' := 106) dX11_tested_105 rfl ?_
                obtain ⟨S125, g126, h127⟩ := Option.bind_eq_some_iff.mp h124
                refine mr_putI (pc' := 109) (ci := 11) (j := 21) dX11_tested_106 rfl rfl rfl (by decide) (by decide) rfl rfl ?_
                rw [Option.some.inj g126]
                refine mr_goto (t := 12) dX11_tested_109 (by decide) ?_
                exact mr_sub [(0, .ref 145), (1, .int (1 : Int32))] ⟨rfl, rfl, trivial⟩ rfl (ih _ _  h127)
        · rw [if_neg c18] at h17
          refine mr_if_ne_t (t := 49) dX11_tested_36 (by decide) c18 ?_
          refine mr_iconst (pc' := 50) (v := (1 : Int32)) dX11_tested_49 rfl (by decide) ?_
          refine mr_goto (t := 54) dX11_tested_50 (by decide) ?_
          refine mr_istore_n (pc' := 55) (lv' := [(1, .int (1 : Int32)), (0, .ref 145)]) dX11_tested_54 rfl (by decide) rfl ?_
          refine mr_iload_n (pc' := 56) dX11_tested_55 rfl rfl ?_
          by_cases c19 : (1 : Int32) = (0 : Int32)
          · rw [if_pos c19] at h17
            refine mr_if_eq_t (t := 12) dX11_tested_56 (by decide) c19 ?_
            exact mr_sub [(0, .ref 145), (1, .int (1 : Int32))] ⟨rfl, rfl, trivial⟩ rfl (ih _ _  h17)
          · rw [if_neg c19] at h17
            refine mr_if_eq_f (t := 12) (pc' := 59) dX11_tested_56 (by decide) rfl c19 ?_
            refine mr_aload_n (pc' := 60) dX11_tested_59 rfl rfl ?_
            refine mr_ldc2 (pc' := 63) (v := (6385252 : Int64)) dX11_tested_60 rfl rfl ?_
            obtain ⟨q20, g21, h22⟩ := Option.bind_eq_some_iff.mp h17
            refine mr_cv (pc' := 66) (a := 145) (d1 := 1) dX11_tested_63 rfl rfl rfl rfl rfl rfl (by decide) rfl (by decide) (ok_X11_isWord hR  g21) ?_
            show mr X _ _ 66 _ [.int q20.1] (MM RR q20.2) _
            by_cases c23 : q20.1 = (0 : Int32)
            · rw [if_pos c23] at h22
              refine mr_if_eq_t (t := 74) dX11_tested_66 (by decide) c23 ?_
              refine mr_bipush (pc' := 76) (v := (13 : Int32)) dX11_tested_74 rfl (by decide) ?_
              refine mr_istore_n (pc' := 77) (lv' := [(2, .int (13 : Int32)), (1, .int (1 : Int32)), (0, .ref 145)]) dX11_tested_76 rfl (by decide) rfl ?_
              refine mr_aload_n (pc' := 78) dX11_tested_77 rfl rfl ?_
              obtain ⟨q24, g25, h26⟩ := Option.bind_eq_some_iff.mp h22
              refine mr_cv (pc' := 81) (a := 145) (d1 := 1) dX11_tested_78 rfl rfl rfl rfl rfl rfl (by decide) rfl (by decide) (ok_X11_passWord hR  g25) ?_
              show mr X _ _ 81 _ [] (MM RR q24) _
              refine mr_aload_n (pc' := 82) dX11_tested_81 rfl rfl ?_
              refine mr_iload_n (pc' := 83) dX11_tested_82 rfl rfl ?_
              obtain ⟨q27, g28, h29⟩ := Option.bind_eq_some_iff.mp h26
              refine mr_cs (pc' := 86) (d1 := 0) dX11_tested_83 rfl rfl rfl rfl (by decide) (Nat.le_of_ble_eq_true rfl) rfl rfl rfl (by decide) (ok_X11_strength hR  g28) ?_
              show mr X _ _ 86 _ [.int q27, .ref 145] (MM RR q24) _
              obtain ⟨q30, g31, h32⟩ := Option.bind_eq_some_iff.mp h29
              refine mr_cv (pc' := 89) (a := 145) (d1 := 1) dX11_tested_86 rfl rfl rfl rfl rfl rfl (by decide) rfl (by decide) (ok_X11_settles hR  g31) ?_
              show mr X _ _ 89 _ [] (MM RR q30) _
              refine mr_aload_n (pc' := 90) dX11_tested_89 rfl rfl ?_
              refine mr_getR (pc' := 93) (ci := 11) (j := 20) (b := 154) hR dX11_tested_90 rfl rfl rfl (by decide) (by decide) (by decide) rfl rfl ?_
              refine mr_aload_n (pc' := 94) dX11_tested_93 rfl rfl ?_
              refine mr_getI (pc' := 97) (ci := 11) (j := 21) dX11_tested_94 rfl rfl rfl (by decide) (by decide) rfl ?_
              refine mr_iload_n (pc' := 98) dX11_tested_97 rfl rfl ?_
              obtain ⟨S33, g34, h35⟩ := Option.bind_eq_some_iff.mp h32
              refine mr_iast (pc' := 99) dX11_tested_98 rfl rfl rfl g34 ?_
              refine mr_aload_n (pc' := 100) dX11_tested_99 rfl rfl ?_
              refine mr_dup_ref (pc' := 101) dX11_tested_100 rfl ?_
              refine mr_getI (pc' := 104) (ci := 11) (j := 21) dX11_tested_101 rfl rfl rfl (by decide) (by decide) rfl ?_
              refine mr_iconst (pc' := 105) (v := (1 : Int32)) dX11_tested_104 rfl (by decide) ?_
              refine mr_iadd (pc' := 106) dX11_tested_105 rfl ?_
              obtain ⟨S36, g37, h38⟩ := Option.bind_eq_some_iff.mp h35
              refine mr_putI (pc' := 109) (ci := 11) (j := 21) dX11_tested_106 rfl rfl rfl (by decide) (by decide) rfl rfl ?_
              rw [Option.some.inj g37]
              refine mr_goto (t := 12) dX11_tested_109 (by decide) ?_
              exact mr_sub [(0, .ref 145), (1, .int (1 : Int32))] ⟨rfl, rfl, trivial⟩ rfl (ih _ _  h38)
            · rw [if_neg c23] at h22
              refine mr_if_eq_f (t := 74) (pc' := 69) dX11_tested_66 (by decide) rfl c23 ?_
              refine mr_bipush (pc' := 71) (v := (12 : Int32)) dX11_tested_69 rfl (by decide) ?_
              refine mr_goto (t := 76) dX11_tested_71 (by decide) ?_
              refine mr_istore_n (pc' := 77) (lv' := [(2, .int (12 : Int32)), (1, .int (1 : Int32)), (0, .ref 145)]) dX11_tested_76 rfl (by decide) rfl ?_
              refine mr_aload_n (pc' := 78) dX11_tested_77 rfl rfl ?_
              obtain ⟨q39, g40, h41⟩ := Option.bind_eq_some_iff.mp h22
              refine mr_cv (pc' := 81) (a := 145) (d1 := 1) dX11_tested_78 rfl rfl rfl rfl rfl rfl (by decide) rfl (by decide) (ok_X11_passWord hR  g40) ?_
              show mr X _ _ 81 _ [] (MM RR q39) _
              refine mr_aload_n (pc' := 82) dX11_tested_81 rfl rfl ?_
              refine mr_iload_n (pc' := 83) dX11_tested_82 rfl rfl ?_
              obtain ⟨q42, g43, h44⟩ := Option.bind_eq_some_iff.mp h41
              refine mr_cs (pc' := 86) (d1 := 0) dX11_tested_83 rfl rfl rfl rfl (by decide) (Nat.le_of_ble_eq_true rfl) rfl rfl rfl (by decide) (ok_X11_strength hR  g43) ?_
              show mr X _ _ 86 _ [.int q42, .ref 145] (MM RR q39) _
              obtain ⟨q45, g46, h47⟩ := Option.bind_eq_some_iff.mp h44
              refine mr_cv (pc' := 89) (a := 145) (d1 := 1) dX11_tested_86 rfl rfl rfl rfl rfl rfl (by decide) rfl (by decide) (ok_X11_settles hR  g46) ?_
              show mr X _ _ 89 _ [] (MM RR q45) _
              refine mr_aload_n (pc' := 90) dX11_tested_89 rfl rfl ?_
              refine mr_getR (pc' := 93) (ci := 11) (j := 20) (b := 154) hR dX11_tested_90 rfl rfl rfl (by decide) (by decide) (by decide) rfl rfl ?_
              refine mr_aload_n (pc' := 94) dX11_tested_93 rfl rfl ?_
              refine mr_getI (pc' := 97) (ci := 11) (j := 21) dX11_tested_94 rfl rfl rfl (by decide) (by decide) rfl ?_
              refine mr_iload_n (pc' := 98) dX11_tested_97 rfl rfl ?_
              obtain ⟨S48, g49, h50⟩ := Option.bind_eq_some_iff.mp h47
              refine mr_iast (pc' := 99) dX11_tested_98 rfl rfl rfl g49 ?_
              refine mr_aload_n (pc' := 100) dX11_tested_99 rfl rfl ?_
              refine mr_dup_ref (pc' := 101) dX11_tested_100 rfl ?_
              refine mr_getI (pc' := 104) (ci := 11) (j := 21) dX11_tested_101 rfl rfl rfl (by decide) (by decide) rfl ?_
              refine mr_iconst (pc' := 105) (v := (1 : Int32)) dX11_tested_104 rfl (by decide) ?_
              refine mr_iadd (pc' := 106) dX11_tested_105 rfl ?_
              obtain ⟨S51, g52, h53⟩ := Option.bind_eq_some_iff.mp h50
              refine mr_putI (pc' := 109) (ci := 11) (j := 21) dX11_tested_106 rfl rfl rfl (by decide) (by decide) rfl rfl ?_
              rw [Option.some.inj g52]
              refine mr_goto (t := 12) dX11_tested_109 (by decide) ?_
              exact mr_sub [(0, .ref 145), (1, .int (1 : Int32))] ⟨rfl, rfl, trivial⟩ rfl (ih _ _  h53)
def f_X11_tested  (S : fS) : Option (Int32 × fS) :=
  (some (pI S 145 21 (0 : Int32))).bind fun S1 =>
  (some (pI S1 145 18 (0 : Int32))).bind fun S4 =>
  lp_X11_tested_12  (fun S128 => (f_X11_isInside  S128).bind fun q130 =>
  if q130 = (0 : Int32) then ((f_X11_settles (1 : Int32) S128).bind fun q134 =>
  some ((1 : Int32), q134)) else
  ((f_X11_see  S128).bind fun q137 =>
  (f_X11_fails (0 : Int32) (q137.2.1 145 13) q137.2).bind fun q140 =>
  (bZ q140.1).bind fun z143 => some (z143, q140.2))) FU (1 : Int32) S4
set_option maxHeartbeats 4000000 in
set_option maxRecDepth 100000 in
theorem ok_X11_tested {X : mm_C} {RR : Nat → Nat → Option Nat} (hR : RRok RR)   {S : fS} {r : Int32 × fS} (h : f_X11_tested  S = some r) : mr X 8 mY_X11_tested 0 (lv_args 0 [.ref 145]) [] (MM RR S) (some (.int r.1), MM RR r.2) := by
  unfold f_X11_tested at h
  show mr X _ _ 0 [(0, .ref 145)] [] (MM RR S) _
  refine mr_aload_n (pc' := 1) dX11_tested_0 rfl rfl ?_
  refine mr_iconst (pc' := 2) (v := (0 : Int32)) dX11_tested_1 rfl (by decide) ?_
  obtain ⟨S1, g2, h3⟩ := Option.bind_eq_some_iff.mp h
  refine mr_putI (pc' := 5) (ci := 11) (j := 21) dX11_tested_2 rfl rfl rfl (by decide) (by decide) rfl rfl ?_
  rw [Option.some.inj g2]
  refine mr_aload_n (pc' := 6) dX11_tested_5 rfl rfl ?_
  refine mr_iconst (pc' := 7) (v := (0 : Int32)) dX11_tested_6 rfl (by decide) ?_
  obtain ⟨S4, g5, h6⟩ := Option.bind_eq_some_iff.mp h3
  refine mr_putI (pc' := 10) (ci := 11) (j := 18) dX11_tested_7 rfl rfl rfl (by decide) (by decide) rfl rfl ?_
  rw [Option.some.inj g5]
  refine mr_iconst (pc' := 11) (v := (1 : Int32)) dX11_tested_10 rfl (by decide) ?_
  refine mr_istore_n (pc' := 12) (lv' := [(1, .int (1 : Int32)), (0, .ref 145)]) dX11_tested_11 rfl (by decide) rfl ?_
  refine mr_sub [(0, .ref 145), (1, .int (1 : Int32))] ⟨rfl, rfl, trivial⟩ rfl ?_
  refine ok_lp_X11_tested_12 hR  (fun S128 h129 => ?_) FU _ _  h6
  refine mr_aload_n (pc' := 113) dX11_tested_112 rfl rfl ?_
  obtain ⟨q130, g131, h132⟩ := Option.bind_eq_some_iff.mp h129
  refine mr_cv (pc' := 116) (a := 145) (d1 := 0) dX11_tested_113 rfl rfl rfl rfl rfl rfl (by decide) rfl (by decide) (ok_X11_isInside hR  g131) ?_
  show mr X _ _ 116 _ [.int q130] (MM RR S128) _
  by_cases c133 : q130 = (0 : Int32)
  · rw [if_pos c133] at h132
    refine mr_if_eq_t (t := 134) dX11_tested_116 (by decide) c133 ?_
    refine mr_aload_n (pc' := 135) dX11_tested_134 rfl rfl ?_
    refine mr_iconst (pc' := 136) (v := (1 : Int32)) dX11_tested_135 rfl (by decide) ?_
    obtain ⟨q134, g135, h136⟩ := Option.bind_eq_some_iff.mp h132
    refine mr_cv (pc' := 139) (a := 145) (d1 := 1) dX11_tested_136 rfl rfl rfl rfl rfl rfl (by decide) rfl (by decide) (ok_X11_settles hR  g135) ?_
    show mr X _ _ 139 _ [] (MM RR q134) _
    refine mr_iconst (pc' := 140) (v := (1 : Int32)) dX11_tested_139 rfl (by decide) ?_
    obtain rfl := Option.some.inj h136
    exact mr_zreturn dX11_tested_140 rfl (by decide)
  · rw [if_neg c133] at h132
    refine mr_if_eq_f (t := 134) (pc' := 119) dX11_tested_116 (by decide) rfl c133 ?_
    refine mr_aload_n (pc' := 120) dX11_tested_119 rfl rfl ?_
    obtain ⟨q137, g138, h139⟩ := Option.bind_eq_some_iff.mp h132
    refine mr_cv (pc' := 123) (a := 145) (d1 := 0) dX11_tested_120 rfl rfl rfl rfl rfl rfl (by decide) rfl (by decide) (ok_X11_see hR  g138) ?_
    show mr X _ _ 123 _ [.int q137.1] (MM RR q137.2) _
    refine mr_pop_int (pc' := 124) dX11_tested_123 rfl ?_
    refine mr_aload_n (pc' := 125) dX11_tested_124 rfl rfl ?_
    refine mr_iconst (pc' := 126) (v := (0 : Int32)) dX11_tested_125 rfl (by decide) ?_
    refine mr_aload_n (pc' := 127) dX11_tested_126 rfl rfl ?_
    refine mr_getI (pc' := 130) (ci := 11) (j := 13) dX11_tested_127 rfl rfl rfl (by decide) (by decide) rfl ?_
    obtain ⟨q140, g141, h142⟩ := Option.bind_eq_some_iff.mp h139
    refine mr_cv (pc' := 133) (a := 145) (d1 := 0) dX11_tested_130 rfl rfl rfl rfl rfl rfl (by decide) rfl (by decide) (ok_X11_fails hR  g141) ?_
    show mr X _ _ 133 _ [.int q140.1] (MM RR q140.2) _
    obtain ⟨z143, g144, h145⟩ := Option.bind_eq_some_iff.mp h142
    obtain ⟨g146, e147⟩ := mm_ifs g144
    cases e147
    cases h145
    exact mr_zreturn dX11_tested_133 rfl g146
