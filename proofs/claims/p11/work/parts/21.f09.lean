def f_X1_isBetter (v0 : Int64) (v2 : Int64) (v4 : Int32) (S : fS) : Option (Int32) :=
  if v0 < (0 : Int64) then (if v0 < (0 : Int64) then (some (0 : Int32)) else
  (some (1 : Int32))) else
  (if (0 : Int64) ≤ v2 then (if v4 = (0 : Int32) then (if v2 ≤ v0 then (some (0 : Int32)) else
  (some (1 : Int32))) else
  (if v0 ≤ v2 then (some (0 : Int32)) else
  (some (1 : Int32)))) else
  (if v0 < (0 : Int64) then (some (0 : Int32)) else
  (some (1 : Int32))))
set_option maxHeartbeats 4000000 in
set_option maxRecDepth 100000 in
theorem ok_X1_isBetter {X : mm_C} {RR : Nat → Nat → Option Nat} (hR : RRok RR) {v0 : Int64} {v2 : Int64} {v4 : Int32}  {S : fS} {r : Int32} (h : f_X1_isBetter v0 v2 v4 S = some r) : mr X 0 mY_X1_isBetter 0 (lv_args 0 [.long v0, .long v2, .int v4]) [] (MM RR S) (some (.int r), MM RR S) := by
  unfold f_X1_isBetter at h
  show mr X _ _ 0 [(0, .long v0), (2, .long v2), (4, .int v4)] [] (MM RR S) _
  refine mr_lload_n (pc' := 1) dX1_isBetter_0 rfl rfl ?_
  refine mr_lconst (pc' := 2) (v := (0 : Int64)) dX1_isBetter_1 rfl (by decide) ?_
  by_cases c1 : v0 < (0 : Int64)
  · rw [if_pos c1] at h
    refine mr_lcmp_lt_t (t := 12) dX1_isBetter_2 rfl dX1_isBetter_3 (by decide) c1 ?_
    refine mr_lload_n (pc' := 13) dX1_isBetter_12 rfl rfl ?_
    refine mr_lconst (pc' := 14) (v := (0 : Int64)) dX1_isBetter_13 rfl (by decide) ?_
    by_cases c2 : v0 < (0 : Int64)
    · rw [if_pos c2] at h
      refine mr_lcmp_lt_t (t := 22) dX1_isBetter_14 rfl dX1_isBetter_15 (by decide) c2 ?_
      refine mr_iconst (pc' := 23) (v := (0 : Int32)) dX1_isBetter_22 rfl (by decide) ?_
      obtain rfl := Option.some.inj h
      exact mr_zreturn dX1_isBetter_23 rfl (by decide)
    · rw [if_neg c2] at h
      refine mr_lcmp_lt_f (t := 22) (pc' := 18) dX1_isBetter_14 rfl dX1_isBetter_15 (by decide) rfl c2 ?_
      refine mr_iconst (pc' := 19) (v := (1 : Int32)) dX1_isBetter_18 rfl (by decide) ?_
      refine mr_goto (t := 23) dX1_isBetter_19 (by decide) ?_
      obtain rfl := Option.some.inj h
      exact mr_zreturn dX1_isBetter_23 rfl (by decide)
  · rw [if_neg c1] at h
    refine mr_lcmp_lt_f (t := 12) (pc' := 6) dX1_isBetter_2 rfl dX1_isBetter_3 (by decide) rfl c1 ?_
    refine mr_lload_n (pc' := 7) dX1_isBetter_6 rfl rfl ?_
    refine mr_lconst (pc' := 8) (v := (0 : Int64)) dX1_isBetter_7 rfl (by decide) ?_
    by_cases c3 : (0 : Int64) ≤ v2
    · rw [if_pos c3] at h
      refine mr_lcmp_ge_t (t := 24) dX1_isBetter_8 rfl dX1_isBetter_9 (by decide) c3 ?_
      refine mr_iload (pc' := 26) dX1_isBetter_24 rfl rfl ?_
      by_cases c4 : v4 = (0 : Int32)
      · rw [if_pos c4] at h
        refine mr_if_eq_t (t := 43) dX1_isBetter_26 (by decide) c4 ?_
        refine mr_lload_n (pc' := 44) dX1_isBetter_43 rfl rfl ?_
        refine mr_lload_n (pc' := 45) dX1_isBetter_44 rfl rfl ?_
        by_cases c5 : v2 ≤ v0
        · rw [if_pos c5] at h
          refine mr_lcmp_ge_t (t := 53) dX1_isBetter_45 rfl dX1_isBetter_46 (by decide) c5 ?_
          refine mr_iconst (pc' := 54) (v := (0 : Int32)) dX1_isBetter_53 rfl (by decide) ?_
          obtain rfl := Option.some.inj h
          exact mr_zreturn dX1_isBetter_54 rfl (by decide)
        · rw [if_neg c5] at h
          refine mr_lcmp_ge_f (t := 53) (pc' := 49) dX1_isBetter_45 rfl dX1_isBetter_46 (by decide) rfl c5 ?_
          refine mr_iconst (pc' := 50) (v := (1 : Int32)) dX1_isBetter_49 rfl (by decide) ?_
          refine mr_goto (t := 54) dX1_isBetter_50 (by decide) ?_
          obtain rfl := Option.some.inj h
          exact mr_zreturn dX1_isBetter_54 rfl (by decide)
      · rw [if_neg c4] at h
        refine mr_if_eq_f (t := 43) (pc' := 29) dX1_isBetter_26 (by decide) rfl c4 ?_
        refine mr_lload_n (pc' := 30) dX1_isBetter_29 rfl rfl ?_
        refine mr_lload_n (pc' := 31) dX1_isBetter_30 rfl rfl ?_
        by_cases c6 : v0 ≤ v2
        · rw [if_pos c6] at h
          refine mr_lcmp_le_t (t := 39) dX1_isBetter_31 rfl dX1_isBetter_32 (by decide) c6 ?_
          refine mr_iconst (pc' := 40) (v := (0 : Int32)) dX1_isBetter_39 rfl (by decide) ?_
          refine mr_goto (t := 54) dX1_isBetter_40 (by decide) ?_
          obtain rfl := Option.some.inj h
          exact mr_zreturn dX1_isBetter_54 rfl (by decide)
        · rw [if_neg c6] at h
          refine mr_lcmp_le_f (t := 39) (pc' := 35) dX1_isBetter_31 rfl dX1_isBetter_32 (by decide) rfl c6 ?_
          refine mr_iconst (pc' := 36) (v := (1 : Int32)) dX1_isBetter_35 rfl (by decide) ?_
          refine mr_goto (t := 54) dX1_isBetter_36 (by decide) ?_
          obtain rfl := Option.some.inj h
          exact mr_zreturn dX1_isBetter_54 rfl (by decide)
    · rw [if_neg c3] at h
      refine mr_lcmp_ge_f (t := 24) (pc' := 12) dX1_isBetter_8 rfl dX1_isBetter_9 (by decide) rfl c3 ?_
      refine mr_lload_n (pc' := 13) dX1_isBetter_12 rfl rfl ?_
      refine mr_lconst (pc' := 14) (v := (0 : Int64)) dX1_isBetter_13 rfl (by decide) ?_
      by_cases c7 : v0 < (0 : Int64)
      · rw [if_pos c7] at h
        refine mr_lcmp_lt_t (t := 22) dX1_isBetter_14 rfl dX1_isBetter_15 (by decide) c7 ?_
        refine mr_iconst (pc' := 23) (v := (0 : Int32)) dX1_isBetter_22 rfl (by decide) ?_
        obtain rfl := Option.some.inj h
        exact mr_zreturn dX1_isBetter_23 rfl (by decide)
      · rw [if_neg c7] at h
        refine mr_lcmp_lt_f (t := 22) (pc' := 18) dX1_isBetter_14 rfl dX1_isBetter_15 (by decide) rfl c7 ?_
        refine mr_iconst (pc' := 19) (v := (1 : Int32)) dX1_isBetter_18 rfl (by decide) ?_
        refine mr_goto (t := 23) dX1_isBetter_19 (by decide) ?_
        obtain rfl := Option.some.inj h
        exact mr_zreturn dX1_isBetter_23 rfl (by decide)
def lp_X1_bestGain_12 (p1 : Nat) (p2 : Int32) (p3 : Int32) (p4 : Int32) (S : fS) (K : Int64 → Option (Int64)) : Nat → Int64 → Int32 → Option (Int64)
  | 0, _, _ => none
  | n + 1, p5, p7 =>
    if (S.1 p1 7) ≤ p7 then (K p5) else
    ((f_X1_gainByStair p1 p2 p3 p7 S).bind fun q5 =>
    (f_X1_isBetter q5 p5 p4 S).bind fun q8 =>
    if q8 = (0 : Int32) then (lp_X1_bestGain_12 p1 p2 p3 p4 S K n p5 (p7 + (1 : Int32))) else
    (lp_X1_bestGain_12 p1 p2 p3 p4 S K n q5 (p7 + (1 : Int32))))
set_option maxHeartbeats 4000000 in
set_option maxRecDepth 100000 in
theorem ok_lp_X1_bestGain_12 {X : mm_C} {RR : Nat → Nat → Option Nat} (hR : RRok RR) {p1 : Nat} {p2 : Int32} {p3 : Int32} {p4 : Int32} (t1 : tg p1 = 8) {S : fS} {K : Int64 → Option (Int64)} {r : Int64} (hK : ∀ (k5 : Int64), K k5 = some r → mr X 2 mY_X1_bestGain 59 [(5, .long k5)] [] (MM RR S) (some (.long r), MM RR S)) : ∀ (n : Nat) (p5 : Int64) (p7 : Int32), lp_X1_bestGain_12 p1 p2 p3 p4 S K n p5 p7 = some r → mr X 2 mY_X1_bestGain 12 [(0, .ref 43), (1, .ref p1), (2, .int p2), (3, .int p3), (4, .int p4), (5, .long p5), (7, .int p7)] [] (MM RR S) (some (.long r), MM RR S) := by
  intro n
  induction n with
  | zero => intro p5 p7 h; exact mm_no h
  | succ n ih =>
    intro p5 p7 h
    unfold lp_X1_bestGain_12 at h
    refine mr_iload (pc' := 14) dX1_bestGain_12 rfl rfl ?_
    refine mr_aload_n (pc' := 15) dX1_bestGain_14 rfl rfl ?_
    refine mr_getI (pc' := 18) (ci := 8) (j := 7) dX1_bestGain_15 rfl rfl t1 (by decide) (by decide) rfl ?_
    by_cases c4 : (S.1 p1 7) ≤ p7
    · rw [if_pos c4] at h
      refine mr_icmp_ge_t (t := 59) dX1_bestGain_18 (by decide) c4 ?_
      exact mr_sub [(5, .long p5)] ⟨rfl, trivial⟩ rfl (hK _  h)
    · rw [if_neg c4] at h
      refine mr_icmp_ge_f (t := 59) (pc' := 21) dX1_bestGain_18 (by decide) rfl c4 ?_
      refine mr_aload_n (pc' := 22) dX1_bestGain_21 rfl rfl ?_
      refine mr_aload_n (pc' := 23) dX1_bestGain_22 rfl rfl ?_
      refine mr_iload_n (pc' := 24) dX1_bestGain_23 rfl rfl ?_
      refine mr_iload_n (pc' := 25) dX1_bestGain_24 rfl rfl ?_
      refine mr_iload (pc' := 27) dX1_bestGain_25 rfl rfl ?_
      obtain ⟨q5, g6, h7⟩ := Option.bind_eq_some_iff.mp h
      refine mr_cv (pc' := 30) (a := 43) (d1 := 1) dX1_bestGain_27 rfl rfl rfl rfl rfl rfl (by decide) rfl (by decide) (ok_X1_gainByStair hR t1 g6) ?_
      show mr X _ _ 30 _ [.long q5] (MM RR S) _
      refine mr_lstore (pc' := 32) (lv' := [(8, .long q5), (0, .ref 43), (1, .ref p1), (2, .int p2), (3, .int p3), (4, .int p4), (5, .long p5), (7, .int p7)]) dX1_bestGain_30 rfl (by decide) rfl ?_
      refine mr_lload (pc' := 34) dX1_bestGain_32 rfl rfl ?_
      refine mr_lload (pc' := 36) dX1_bestGain_34 rfl rfl ?_
      refine mr_iload (pc' := 38) dX1_bestGain_36 rfl rfl ?_
      obtain ⟨q8, g9, h10⟩ := Option.bind_eq_some_iff.mp h7
      refine mr_cs (pc' := 41) (d1 := 0) dX1_bestGain_38 rfl rfl rfl rfl (by decide) (Nat.le_of_ble_eq_true rfl) rfl rfl rfl (by decide) (ok_X1_isBetter hR  g9) ?_
      show mr X _ _ 41 _ [.int q8] (MM RR S) _
      by_cases c11 : q8 = (0 : Int32)
      · rw [if_pos c11] at h10
        refine mr_if_eq_t (t := 49) dX1_bestGain_41 (by decide) c11 ?_
        refine mr_lload (pc' := 51) dX1_bestGain_49 rfl rfl ?_
        refine mr_lstore (pc' := 53) (lv' := [(5, .long p5), (8, .long q5), (0, .ref 43), (1, .ref p1), (2, .int p2), (3, .int p3), (4, .int p4), (7, .int p7)]) dX1_bestGain_51 rfl (by decide) rfl ?_
        refine mr_iinc (pc' := 56) (x' := (p7 + (1 : Int32))) (lv' := [(7, .int (p7 + (1 : Int32))), (5, .long p5), (8, .long q5), (0, .ref 43), (1, .ref p1), (2, .int p2), (3, .int p3), (4, .int p4)]) dX1_bestGain_53 rfl (by decide) rfl rfl rfl ?_
        refine mr_goto (t := 12) dX1_bestGain_56 (by decide) ?_
        exact mr_sub [(0, .ref 43), (1, .ref p1), (2, .int p2), (3, .int p3), (4, .int p4), (5, .long p5), (7, .int (p7 + (1 : Int32)))] ⟨rfl, rfl, rfl, rfl, rfl, rfl, rfl, trivial⟩ rfl (ih _ _  h10)
      · rw [if_neg c11] at h10
        refine mr_if_eq_f (t := 49) (pc' := 44) dX1_bestGain_41 (by decide) rfl c11 ?_
        refine mr_lload (pc' := 46) dX1_bestGain_44 rfl rfl ?_
        refine mr_goto (t := 51) dX1_bestGain_46 (by decide) ?_
        refine mr_lstore (pc' := 53) (lv' := [(5, .long q5), (8, .long q5), (0, .ref 43), (1, .ref p1), (2, .int p2), (3, .int p3), (4, .int p4), (7, .int p7)]) dX1_bestGain_51 rfl (by decide) rfl ?_
        refine mr_iinc (pc' := 56) (x' := (p7 + (1 : Int32))) (lv' := [(7, .int (p7 + (1 : Int32))), (5, .long q5), (8, .long q5), (0, .ref 43), (1, .ref p1), (2, .int p2), (3, .int p3), (4, .int p4)]) dX1_bestGain_53 rfl (by decide) rfl rfl rfl ?_
        refine mr_goto (t := 12) dX1_bestGain_56 (by decide) ?_
        exact mr_sub [(0, .ref 43), (1, .ref p1), (2, .int p2), (3, .int p3), (4, .int p4), (5, .long q5), (7, .int (p7 + (1 : Int32)))] ⟨rfl, rfl, rfl, rfl, rfl, rfl, rfl, trivial⟩ rfl (ih _ _  h10)
def f_X1_bestGain (v1 : Nat) (v2 : Int32) (v3 : Int32) (v4 : Int32) (S : fS) : Option (Int64) :=
  (f_X1_gainByStaying v1 v2 v3 S).bind fun q1 =>
  lp_X1_bestGain_12 v1 v2 v3 v4 S (fun u12 => some u12) FU q1 (0 : Int32)
set_option maxHeartbeats 4000000 in
set_option maxRecDepth 100000 in
theorem ok_X1_bestGain {X : mm_C} {RR : Nat → Nat → Option Nat} (hR : RRok RR) {v1 : Nat} {v2 : Int32} {v3 : Int32} {v4 : Int32} (t1 : tg v1 = 8) {S : fS} {r : Int64} (h : f_X1_bestGain v1 v2 v3 v4 S = some r) : mr X 2 mY_X1_bestGain 0 (lv_args 0 [.ref 43, .ref v1, .int v2, .int v3, .int v4]) [] (MM RR S) (some (.long r), MM RR S) := by
  unfold f_X1_bestGain at h
  show mr X _ _ 0 [(0, .ref 43), (1, .ref v1), (2, .int v2), (3, .int v3), (4, .int v4)] [] (MM RR S) _
  refine mr_aload_n (pc' := 1) dX1_bestGain_0 rfl rfl ?_
  refine mr_aload_n (pc' := 2) dX1_bestGain_1 rfl rfl ?_
  refine mr_iload_n (pc' := 3) dX1_bestGain_2 rfl rfl ?_
  refine mr_iload_n (pc' := 4) dX1_bestGain_3 rfl rfl ?_
  obtain ⟨q1, g2, h3⟩ := Option.bind_eq_some_iff.mp h
  refine mr_cv (pc' := 7) (a := 43) (d1 := 1) dX1_bestGain_4 rfl rfl rfl rfl rfl rfl (by decide) rfl (by decide) (ok_X1_gainByStaying hR t1 g2) ?_
  show mr X _ _ 7 _ [.long q1] (MM RR S) _
  refine mr_lstore (pc' := 9) (lv' := [(5, .long q1), (0, .ref 43), (1, .ref v1), (2, .int v2), (3, .int v3), (4, .int v4)]) dX1_bestGain_7 rfl (by decide) rfl ?_
  refine mr_iconst (pc' := 10) (v := (0 : Int32)) dX1_bestGain_9 rfl (by decide) ?_
  refine mr_istore (pc' := 12) (lv' := [(7, .int (0 : Int32)), (5, .long q1), (0, .ref 43), (1, .ref v1), (2, .int v2), (3, .int v3), (4, .int v4)]) dX1_bestGain_10 rfl (by decide) rfl ?_
  refine mr_sub [(0, .ref 43), (1, .ref v1), (2, .int v2), (3, .int v3), (4, .int v4), (5, .long q1), (7, .int (0 : Int32))] ⟨rfl, rfl, rfl, rfl, rfl, rfl, rfl, trivial⟩ rfl ?_
  refine ok_lp_X1_bestGain_12 hR t1 (fun u12 h13 => ?_) FU _ _  h3
  refine mr_lload (pc' := 61) dX1_bestGain_59 rfl rfl ?_
  obtain rfl := Option.some.inj h13
  exact mr_lreturn dX1_bestGain_61 rfl
def lp_X1_measure_3 (p1 : Nat) (p2 : Int32) (p3 : Int32) (p4 : Int32) (K : fS → Option (fS)) : Nat → Int32 → fS → Option (fS)
  | 0, _, _ => none
  | n + 1, p5, S0 =>
    if (10 : Int32) ≤ p5 then (K S0) else
    (if p5 = p2 then ((sL S0 44 1210 p5 (0 : Int64)).bind fun S6 =>
    lp_X1_measure_3 p1 p2 p3 p4 K n (p5 + (1 : Int32)) S6) else
    ((sL S0 44 1210 p5 (-1 : Int64)).bind fun S3 =>
    lp_X1_measure_3 p1 p2 p3 p4 K n (p5 + (1 : Int32)) S3))
set_option maxHeartbeats 4000000 in
set_option maxRecDepth 100000 in
theorem ok_lp_X1_measure_3 {X : mm_C} {RR : Nat → Nat → Option Nat} (hR : RRok RR) {p1 : Nat} {p2 : Int32} {p3 : Int32} {p4 : Int32} (t1 : tg p1 = 8) {K : fS → Option (fS)} {r : fS} (hK : ∀ (Sk : fS), K Sk = some r → mr X 3 mY_X1_measure 36 [(0, .ref 43), (1, .ref p1), (3, .int p3), (4, .int p4)] [] (MM RR Sk) (none, MM RR r)) : ∀ (n : Nat) (p5 : Int32) (S0 : fS), lp_X1_measure_3 p1 p2 p3 p4 K n p5 S0 = some r → mr X 3 mY_X1_measure 3 [(0, .ref 43), (1, .ref p1), (2, .int p2), (3, .int p3), (4, .int p4), (5, .int p5)] [] (MM RR S0) (none, MM RR r) := by
  intro n
  induction n with
  | zero => intro p5 S0 h; exact mm_no h
  | succ n ih =>
    intro p5 S0 h
    unfold lp_X1_measure_3 at h
    refine mr_iload (pc' := 5) dX1_measure_3 rfl rfl ?_
    refine mr_bipush (pc' := 7) (v := (10 : Int32)) dX1_measure_5 rfl (by decide) ?_
    by_cases c1 : (10 : Int32) ≤ p5
    · rw [if_pos c1] at h
      refine mr_icmp_ge_t (t := 36) dX1_measure_7 (by decide) c1 ?_
      exact mr_sub [(0, .ref 43), (1, .ref p1), (3, .int p3), (4, .int p4)] ⟨rfl, rfl, rfl, rfl, trivial⟩ rfl (hK _  h)
    · rw [if_neg c1] at h
      refine mr_icmp_ge_f (t := 36) (pc' := 10) dX1_measure_7 (by decide) rfl c1 ?_
      refine mr_aload_n (pc' := 11) dX1_measure_10 rfl rfl ?_
      refine mr_getR (pc' := 14) (ci := 1) (j := 0) (b := 44) hR dX1_measure_11 rfl rfl rfl (by decide) (by decide) (by decide) rfl rfl ?_
      refine mr_iload (pc' := 16) dX1_measure_14 rfl rfl ?_
      refine mr_iload (pc' := 18) dX1_measure_16 rfl rfl ?_
      refine mr_iload_n (pc' := 19) dX1_measure_18 rfl rfl ?_
      by_cases c2 : p5 = p2
      · rw [if_pos c2] at h
        refine mr_icmp_ne_f (t := 26) (pc' := 22) dX1_measure_19 (by decide) rfl (not_not_intro c2) ?_
        refine mr_lconst (pc' := 23) (v := (0 : Int64)) dX1_measure_22 rfl (by decide) ?_
        refine mr_goto (t := 29) dX1_measure_23 (by decide) ?_
        obtain ⟨S6, g7, h8⟩ := Option.bind_eq_some_iff.mp h
        refine mr_last (pc' := 30) dX1_measure_29 rfl rfl rfl g7 ?_
        refine mr_iinc (pc' := 33) (x' := (p5 + (1 : Int32))) (lv' := [(5, .int (p5 + (1 : Int32))), (0, .ref 43), (1, .ref p1), (2, .int p2), (3, .int p3), (4, .int p4)]) dX1_measure_30 rfl (by decide) rfl rfl rfl ?_
        refine mr_goto (t := 3) dX1_measure_33 (by decide) ?_
        exact mr_sub [(0, .ref 43), (1, .ref p1), (2, .int p2), (3, .int p3), (4, .int p4), (5, .int (p5 + (1 : Int32)))] ⟨rfl, rfl, rfl, rfl, rfl, rfl, trivial⟩ rfl (ih _ _  h8)
      · rw [if_neg c2] at h
        refine mr_icmp_ne_t (t := 26) dX1_measure_19 (by decide) c2 ?_
        refine mr_ldc2 (pc' := 29) (v := (-1 : Int64)) dX1_measure_26 rfl rfl ?_
        obtain ⟨S3, g4, h5⟩ := Option.bind_eq_some_iff.mp h
        refine mr_last (pc' := 30) dX1_measure_29 rfl rfl rfl g4 ?_
        refine mr_iinc (pc' := 33) (x' := (p5 + (1 : Int32))) (lv' := [(5, .int (p5 + (1 : Int32))), (0, .ref 43), (1, .ref p1), (2, .int p2), (3, .int p3), (4, .int p4)]) dX1_measure_30 rfl (by decide) rfl rfl rfl ?_
        refine mr_goto (t := 3) dX1_measure_33 (by decide) ?_
        exact mr_sub [(0, .ref 43), (1, .ref p1), (2, .int p2), (3, .int p3), (4, .int p4), (5, .int (p5 + (1 : Int32)))] ⟨rfl, rfl, rfl, rfl, rfl, rfl, trivial⟩ rfl (ih _ _  h5)
def lp_X1_measure_55 (p1 : Nat) (p3 : Int32) (p4 : Int32) (p5 : Int32) (K : fS → Option (fS)) : Nat → Int32 → fS → Option (fS)
  | 0, _, _ => none
  | n + 1, p6, S0 =>
    if (S0.1 p1 6) ≤ p6 then (K S0) else
    ((f_X1_bestGain p1 p5 p6 p4 S0).bind fun q14 =>
    (sL S0 44 1210 ((p5 * (10 : Int32)) + p6) q14).bind fun S17 =>
    lp_X1_measure_55 p1 p3 p4 p5 K n (p6 + (1 : Int32)) S17)
set_option maxHeartbeats 4000000 in
set_option maxRecDepth 100000 in
theorem ok_lp_X1_measure_55 {X : mm_C} {RR : Nat → Nat → Option Nat} (hR : RRok RR) {p1 : Nat} {p3 : Int32} {p4 : Int32} {p5 : Int32} (t1 : tg p1 = 8) {K : fS → Option (fS)} {r : fS} (hK : ∀ (Sk : fS), K Sk = some r → mr X 3 mY_X1_measure 94 [(0, .ref 43), (1, .ref p1), (3, .int p3), (4, .int p4), (5, .int p5)] [] (MM RR Sk) (none, MM RR r)) : ∀ (n : Nat) (p6 : Int32) (S0 : fS), lp_X1_measure_55 p1 p3 p4 p5 K n p6 S0 = some r → mr X 3 mY_X1_measure 55 [(0, .ref 43), (1, .ref p1), (3, .int p3), (4, .int p4), (5, .int p5), (6, .int p6)] [] (MM RR S0) (none, MM RR r) := by
  intro n
  induction n with
  | zero => intro p6 S0 h; exact mm_no h
  | succ n ih =>
    intro p6 S0 h
    unfold lp_X1_measure_55 at h
    refine mr_iload (pc' := 57) dX1_measure_55 rfl rfl ?_
    refine mr_aload_n (pc' := 58) dX1_measure_57 rfl rfl ?_
    refine mr_getI (pc' := 61) (ci := 8) (j := 6) dX1_measure_58 rfl rfl t1 (by decide) (by decide) rfl ?_
    by_cases c13 : (S0.1 p1 6) ≤ p6
    · rw [if_pos c13] at h
      refine mr_icmp_ge_t (t := 94) dX1_measure_61 (by decide) c13 ?_
      exact mr_sub [(0, .ref 43), (1, .ref p1), (3, .int p3), (4, .int p4), (5, .int p5)] ⟨rfl, rfl, rfl, rfl, rfl, trivial⟩ rfl (hK _  h)
    · rw [if_neg c13] at h
      refine mr_icmp_ge_f (t := 94) (pc' := 64) dX1_measure_61 (by decide) rfl c13 ?_
      refine mr_aload_n (pc' := 65) dX1_measure_64 rfl rfl ?_
      refine mr_getR (pc' := 68) (ci := 1) (j := 0) (b := 44) hR dX1_measure_65 rfl rfl rfl (by decide) (by decide) (by decide) rfl rfl ?_
      refine mr_iload (pc' := 70) dX1_measure_68 rfl rfl ?_
      refine mr_bipush (pc' := 72) (v := (10 : Int32)) dX1_measure_70 rfl (by decide) ?_
      refine mr_imul (pc' := 73) dX1_measure_72 rfl ?_
      refine mr_iload (pc' := 75) dX1_measure_73 rfl rfl ?_
      refine mr_iadd (pc' := 76) dX1_measure_75 rfl ?_
      refine mr_aload_n (pc' := 77) dX1_measure_76 rfl rfl ?_
      refine mr_aload_n (pc' := 78) dX1_measure_77 rfl rfl ?_
      refine mr_iload (pc' := 80) dX1_measure_78 rfl rfl ?_
      refine mr_iload (pc' := 82) dX1_measure_80 rfl rfl ?_
      refine mr_iload (pc' := 84) dX1_measure_82 rfl rfl ?_
      obtain ⟨q14, g15, h16⟩ := Option.bind_eq_some_iff.mp h
      refine mr_cv (pc' := 87) (a := 43) (d1 := 2) dX1_measure_84 rfl rfl rfl rfl rfl rfl (by decide) rfl (by decide) (ok_X1_bestGain hR t1 g15) ?_
      show mr X _ _ 87 _ [.long q14, .int ((p5 * (10 : Int32)) + p6), .ref 44] (MM RR S0) _
      obtain ⟨S17, g18, h19⟩ := Option.bind_eq_some_iff.mp h16
      refine mr_last (pc' := 88) dX1_measure_87 rfl rfl rfl g18 ?_
      refine mr_iinc (pc' := 91) (x' := (p6 + (1 : Int32))) (lv' := [(6, .int (p6 + (1 : Int32))), (0, .ref 43), (1, .ref p1), (3, .int p3), (4, .int p4), (5, .int p5)]) dX1_measure_88 rfl (by decide) rfl rfl rfl ?_
      refine mr_goto (t := 55) dX1_measure_91 (by decide) ?_
      exact mr_sub [(0, .ref 43), (1, .ref p1), (3, .int p3), (4, .int p4), (5, .int p5), (6, .int (p6 + (1 : Int32)))] ⟨rfl, rfl, rfl, rfl, rfl, rfl, trivial⟩ rfl (ih _ _  h19)
def lp_X1_measure_39 (p1 : Nat) (p3 : Int32) (p4 : Int32) (K : fS → Option (fS)) : Nat → Int32 → fS → Option (fS)
  | 0, _, _ => none
  | n + 1, p5, S0 =>
    if p3 < p5 then (K S0) else
    (if (120 : Int32) < p5 then (K S0) else
    (lp_X1_measure_55 p1 p3 p4 p5 (fun S20 => lp_X1_measure_39 p1 p3 p4 K n (p5 + (1 : Int32)) S20) FU (0 : Int32) S0))
set_option maxHeartbeats 4000000 in
set_option maxRecDepth 100000 in
theorem ok_lp_X1_measure_39 {X : mm_C} {RR : Nat → Nat → Option Nat} (hR : RRok RR) {p1 : Nat} {p3 : Int32} {p4 : Int32} (t1 : tg p1 = 8) {K : fS → Option (fS)} {r : fS} (hK : ∀ (Sk : fS), K Sk = some r → mr X 3 mY_X1_measure 100 [] [] (MM RR Sk) (none, MM RR r)) : ∀ (n : Nat) (p5 : Int32) (S0 : fS), lp_X1_measure_39 p1 p3 p4 K n p5 S0 = some r → mr X 3 mY_X1_measure 39 [(0, .ref 43), (1, .ref p1), (3, .int p3), (4, .int p4), (5, .int p5)] [] (MM RR S0) (none, MM RR r) := by
  intro n
  induction n with
  | zero => intro p5 S0 h; exact mm_no h
  | succ n ih =>
    intro p5 S0 h
    unfold lp_X1_measure_39 at h
    refine mr_iload (pc' := 41) dX1_measure_39 rfl rfl ?_
    refine mr_iload_n (pc' := 42) dX1_measure_41 rfl rfl ?_
    by_cases c11 : p3 < p5
    · rw [if_pos c11] at h
      refine mr_icmp_gt_t (t := 100) dX1_measure_42 (by decide) c11 ?_
      exact mr_sub [] trivial rfl (hK _  h)
    · rw [if_neg c11] at h
      refine mr_icmp_gt_f (t := 100) (pc' := 45) dX1_measure_42 (by decide) rfl c11 ?_
      refine mr_iload (pc' := 47) dX1_measure_45 rfl rfl ?_
      refine mr_bipush (pc' := 49) (v := (120 : Int32)) dX1_measure_47 rfl (by decide) ?_
      by_cases c12 : (120 : Int32) < p5
      · rw [if_pos c12] at h
        refine mr_icmp_gt_t (t := 100) dX1_measure_49 (by decide) c12 ?_
        exact mr_sub [] trivial rfl (hK _  h)
      · rw [if_neg c12] at h
        refine mr_icmp_gt_f (t := 100) (pc' := 52) dX1_measure_49 (by decide) rfl c12 ?_
        refine mr_iconst (pc' := 53) (v := (0 : Int32)) dX1_measure_52 rfl (by decide) ?_
        refine mr_istore (pc' := 55) (lv' := [(6, .int (0 : Int32)), (0, .ref 43), (1, .ref p1), (3, .int p3), (4, .int p4), (5, .int p5)]) dX1_measure_53 rfl (by decide) rfl ?_
        refine mr_sub [(0, .ref 43), (1, .ref p1), (3, .int p3), (4, .int p4), (5, .int p5), (6, .int (0 : Int32))] ⟨rfl, rfl, rfl, rfl, rfl, rfl, trivial⟩ rfl ?_
        refine ok_lp_X1_measure_55 hR t1 (fun S20 h21 => ?_) FU _ _  h
        refine mr_iinc (pc' := 97) (x' := (p5 + (1 : Int32))) (lv' := [(5, .int (p5 + (1 : Int32))), (0, .ref 43), (1, .ref p1), (3, .int p3), (4, .int p4)]) dX1_measure_94 rfl (by decide) rfl rfl rfl ?_
        refine mr_goto (t := 39) dX1_measure_97 (by decide) ?_
        exact mr_sub [(0, .ref 43), (1, .ref p1), (3, .int p3), (4, .int p4), (5, .int (p5 + (1 : Int32)))] ⟨rfl, rfl, rfl, rfl, rfl, trivial⟩ rfl (ih _ _  h21)
def f_X1_measure (v1 : Nat) (v2 : Int32) (v3 : Int32) (v4 : Int32) (S : fS) : Option (fS) :=
  lp_X1_measure_3 v1 v2 v3 v4 (fun S9 => lp_X1_measure_39 v1 v3 v4 (fun S22 => some S22) FU (1 : Int32) S9) FU (0 : Int32) S
set_option maxHeartbeats 4000000 in
set_option maxRecDepth 100000 in
theorem ok_X1_measure {X : mm_C} {RR : Nat → Nat → Option Nat} (hR : RRok RR) {v1 : Nat} {v2 : Int32} {v3 : Int32} {v4 : Int32} (t1 : tg v1 = 8) {S : fS} {r : fS} (h : f_X1_measure v1 v2 v3 v4 S = some r) : mr X 3 mY_X1_measure 0 (lv_args 0 [.ref 43, .ref v1, .int v2, .int v3, .int v4]) [] (MM RR S) (none, MM RR r) := by
  unfold f_X1_measure at h
  show mr X _ _ 0 [(0, .ref 43), (1, .ref v1), (2, .int v2), (3, .int v3), (4, .int v4)] [] (MM RR S) _
  refine mr_iconst (pc' := 1) (v := (0 : Int32)) dX1_measure_0 rfl (by decide) ?_
  refine mr_istore (pc' := 3) (lv' := [(5, .int (0 : Int32)), (0, .ref 43), (1, .ref v1), (2, .int v2), (3, .int v3), (4, .int v4)]) dX1_measure_1 rfl (by decide) rfl ?_
  refine mr_sub [(0, .ref 43), (1, .ref v1), (2, .int v2), (3, .int v3), (4, .int v4), (5, .int (0 : Int32))] ⟨rfl, rfl, rfl, rfl, rfl, rfl, trivial⟩ rfl ?_
  refine ok_lp_X1_measure_3 hR t1 (fun S9 h10 => ?_) FU _ _  h
  refine mr_iconst (pc' := 37) (v := (1 : Int32)) dX1_measure_36 rfl (by decide) ?_
  refine mr_istore (pc' := 39) (lv' := [(5, .int (1 : Int32)), (0, .ref 43), (1, .ref v1), (3, .int v3), (4, .int v4)]) dX1_measure_37 rfl (by decide) rfl ?_
  refine mr_sub [(0, .ref 43), (1, .ref v1), (3, .int v3), (4, .int v4), (5, .int (1 : Int32))] ⟨rfl, rfl, rfl, rfl, rfl, trivial⟩ rfl ?_
  refine ok_lp_X1_measure_39 hR t1 (fun S22 h23 => ?_) FU _ _  h10
  obtain rfl := Option.some.inj h23
  exact mr_return dX1_measure_100 rfl
def lp_X1_firstStep_34 (p1 : Nat) (p2 : Int32) (p3 : Int32) (p4 : Int64) (S : fS) (K : Unit → Option (Int32)) : Nat → Int32 → Option (Int32)
  | 0, _ => none
  | n + 1, p6 =>
    if (S.1 p1 7) ≤ p6 then (K ()) else
    ((f_X1_gainByStair p1 p2 p3 p6 S).bind fun q10 =>
    if q10 = p4 then (some p6) else
    (lp_X1_firstStep_34 p1 p2 p3 p4 S K n (p6 + (1 : Int32))))
set_option maxHeartbeats 4000000 in
set_option maxRecDepth 100000 in
theorem ok_lp_X1_firstStep_34 {X : mm_C} {RR : Nat → Nat → Option Nat} (hR : RRok RR) {p1 : Nat} {p2 : Int32} {p3 : Int32} {p4 : Int64} (t1 : tg p1 = 8) {S : fS} {K : Unit → Option (Int32)} {r : Int32} (hK : ∀ (_ : Unit), K () = some r → mr X 2 mY_X1_firstStep 67 [] [] (MM RR S) (some (.int r), MM RR S)) : ∀ (n : Nat) (p6 : Int32), lp_X1_firstStep_34 p1 p2 p3 p4 S K n p6 = some r → mr X 2 mY_X1_firstStep 34 [(0, .ref 43), (1, .ref p1), (2, .int p2), (3, .int p3), (4, .long p4), (6, .int p6)] [] (MM RR S) (some (.int r), MM RR S) := by
  intro n
  induction n with
  | zero => intro p6 h; exact mm_no h
  | succ n ih =>
    intro p6 h
    unfold lp_X1_firstStep_34 at h
    refine mr_iload (pc' := 36) dX1_firstStep_34 rfl rfl ?_
    refine mr_aload_n (pc' := 37) dX1_firstStep_36 rfl rfl ?_
    refine mr_getI (pc' := 40) (ci := 8) (j := 7) dX1_firstStep_37 rfl rfl t1 (by decide) (by decide) rfl ?_
    by_cases c9 : (S.1 p1 7) ≤ p6
    · rw [if_pos c9] at h
      refine mr_icmp_ge_t (t := 67) dX1_firstStep_40 (by decide) c9 ?_
      exact mr_sub [] trivial rfl (hK () h)
    · rw [if_neg c9] at h
      refine mr_icmp_ge_f (t := 67) (pc' := 43) dX1_firstStep_40 (by decide) rfl c9 ?_
      refine mr_aload_n (pc' := 44) dX1_firstStep_43 rfl rfl ?_
      refine mr_aload_n (pc' := 45) dX1_firstStep_44 rfl rfl ?_
      refine mr_iload_n (pc' := 46) dX1_firstStep_45 rfl rfl ?_
      refine mr_iload_n (pc' := 47) dX1_firstStep_46 rfl rfl ?_
      refine mr_iload (pc' := 49) dX1_firstStep_47 rfl rfl ?_
      obtain ⟨q10, g11, h12⟩ := Option.bind_eq_some_iff.mp h
      refine mr_cv (pc' := 52) (a := 43) (d1 := 1) dX1_firstStep_49 rfl rfl rfl rfl rfl rfl (by decide) rfl (by decide) (ok_X1_gainByStair hR t1 g11) ?_
      show mr X _ _ 52 _ [.long q10] (MM RR S) _
      refine mr_lload (pc' := 54) dX1_firstStep_52 rfl rfl ?_
      by_cases c13 : q10 = p4
      · rw [if_pos c13] at h12
        refine mr_lcmp_ne_f (t := 61) (pc' := 58) dX1_firstStep_54 rfl dX1_firstStep_55 (by decide) rfl (not_not_intro c13) ?_
        refine mr_iload (pc' := 60) dX1_firstStep_58 rfl rfl ?_
        obtain rfl := Option.some.inj h12
        exact mr_ireturn dX1_firstStep_60 rfl
      · rw [if_neg c13] at h12
        refine mr_lcmp_ne_t (t := 61) dX1_firstStep_54 rfl dX1_firstStep_55 (by decide) c13 ?_
        refine mr_iinc (pc' := 64) (x' := (p6 + (1 : Int32))) (lv' := [(6, .int (p6 + (1 : Int32))), (0, .ref 43), (1, .ref p1), (2, .int p2), (3, .int p3), (4, .long p4)]) dX1_firstStep_61 rfl (by decide) rfl rfl rfl ?_
        refine mr_goto (t := 34) dX1_firstStep_64 (by decide) ?_
        exact mr_sub [(0, .ref 43), (1, .ref p1), (2, .int p2), (3, .int p3), (4, .long p4), (6, .int (p6 + (1 : Int32)))] ⟨rfl, rfl, rfl, rfl, rfl, rfl, trivial⟩ rfl (ih _  h12)
def f_X1_firstStep (v1 : Nat) (v2 : Int32) (v3 : Int32) (S : fS) : Option (Int32) :=
  if v2 = (0 : Int32) then (some (-4 : Int32)) else
  ((f_X1_gainOf v2 v3 S).bind fun q2 =>
  (f_X1_gainByStaying v1 v2 v3 S).bind fun q5 =>
  if q5 = q2 then (some (-3 : Int32)) else
  (lp_X1_firstStep_34 v1 v2 v3 q2 S (fun (_ : Unit) => some (-2 : Int32)) FU (0 : Int32)))
set_option maxHeartbeats 4000000 in
set_option maxRecDepth 100000 in
theorem ok_X1_firstStep {X : mm_C} {RR : Nat → Nat → Option Nat} (hR : RRok RR) {v1 : Nat} {v2 : Int32} {v3 : Int32} (t1 : tg v1 = 8) {S : fS} {r : Int32} (h : f_X1_firstStep v1 v2 v3 S = some r) : mr X 2 mY_X1_firstStep 0 (lv_args 0 [.ref 43, .ref v1, .int v2, .int v3]) [] (MM RR S) (some (.int r), MM RR S) := by
  unfold f_X1_firstStep at h
  show mr X _ _ 0 [(0, .ref 43), (1, .ref v1), (2, .int v2), (3, .int v3)] [] (MM RR S) _
  refine mr_iload_n (pc' := 1) dX1_firstStep_0 rfl rfl ?_
  by_cases c1 : v2 = (0 : Int32)
  · rw [if_pos c1] at h
    refine mr_if_ne_f (t := 7) (pc' := 4) dX1_firstStep_1 (by decide) rfl (not_not_intro c1) ?_
    refine mr_bipush (pc' := 6) (v := (-4 : Int32)) dX1_firstStep_4 rfl (by decide) ?_
    obtain rfl := Option.some.inj h
    exact mr_ireturn dX1_firstStep_6 rfl
  · rw [if_neg c1] at h
    refine mr_if_ne_t (t := 7) dX1_firstStep_1 (by decide) c1 ?_
    refine mr_aload_n (pc' := 8) dX1_firstStep_7 rfl rfl ?_
    refine mr_iload_n (pc' := 9) dX1_firstStep_8 rfl rfl ?_
    refine mr_iload_n (pc' := 10) dX1_firstStep_9 rfl rfl ?_
    obtain ⟨q2, g3, h4⟩ := Option.bind_eq_some_iff.mp h
    refine mr_cv (pc' := 13) (a := 43) (d1 := 0) dX1_firstStep_10 rfl rfl rfl rfl rfl rfl (by decide) rfl (by decide) (ok_X1_gainOf hR  g3) ?_
    show mr X _ _ 13 _ [.long q2] (MM RR S) _
    refine mr_lstore (pc' := 15) (lv' := [(4, .long q2), (0, .ref 43), (1, .ref v1), (2, .int v2), (3, .int v3)]) dX1_firstStep_13 rfl (by decide) rfl ?_
    refine mr_aload_n (pc' := 16) dX1_firstStep_15 rfl rfl ?_
    refine mr_aload_n (pc' := 17) dX1_firstStep_16 rfl rfl ?_
    refine mr_iload_n (pc' := 18) dX1_firstStep_17 rfl rfl ?_
    refine mr_iload_n (pc' := 19) dX1_firstStep_18 rfl rfl ?_
    obtain ⟨q5, g6, h7⟩ := Option.bind_eq_some_iff.mp h4
    refine mr_cv (pc' := 22) (a := 43) (d1 := 1) dX1_firstStep_19 rfl rfl rfl rfl rfl rfl (by decide) rfl (by decide) (ok_X1_gainByStaying hR t1 g6) ?_
    show mr X _ _ 22 _ [.long q5] (MM RR S) _
    refine mr_lload (pc' := 24) dX1_firstStep_22 rfl rfl ?_
    by_cases c8 : q5 = q2
    · rw [if_pos c8] at h7
      refine mr_lcmp_ne_f (t := 31) (pc' := 28) dX1_firstStep_24 rfl dX1_firstStep_25 (by decide) rfl (not_not_intro c8) ?_
      refine mr_bipush (pc' := 30) (v := (-3 : Int32)) dX1_firstStep_28 rfl (by decide) ?_
      obtain rfl := Option.some.inj h7
      exact mr_ireturn dX1_firstStep_30 rfl
    · rw [if_neg c8] at h7
      refine mr_lcmp_ne_t (t := 31) dX1_firstStep_24 rfl dX1_firstStep_25 (by decide) c8 ?_
      refine mr_iconst (pc' := 32) (v := (0 : Int32)) dX1_firstStep_31 rfl (by decide) ?_
      refine mr_istore (pc' := 34) (lv' := [(6, .int (0 : Int32)), (4, .long q2), (0, .ref 43), (1, .ref v1), (2, .int v2), (3, .int v3)]) dX1_firstStep_32 rfl (by decide) rfl ?_
      refine mr_sub [(0, .ref 43), (1, .ref v1), (2, .int v2), (3, .int v3), (4, .long q2), (6, .int (0 : Int32))] ⟨rfl, rfl, rfl, rfl, rfl, rfl, trivial⟩ rfl ?_
      refine ok_lp_X1_firstStep_34 hR t1 (fun _ h14 => ?_) FU _  h7
      refine mr_bipush (pc' := 69) (v := (-2 : Int32)) dX1_firstStep_67 rfl (by decide) ?_
      obtain rfl := Option.some.inj h14
      exact mr_ireturn dX1_firstStep_69 rfl
def f_X10_plan (v1 : Int32) (v2 : Int32) (v3 : Int32) (v4 : Int32) (v5 : Int32) (S : fS) : Option (Int64 × fS) :=
  (f_X10_isStanding v1 S).bind fun q1 =>
  if q1 = (0 : Int32) then (some ((-1 : Int64), S)) else
  ((f_X10_isFloor v2 S).bind fun q5 =>
  if q5 = (0 : Int32) then (some ((-1 : Int64), S)) else
  ((f_X10_isFrom v3 (0 : Int32) (120 : Int32) S).bind fun q9 =>
  if q9 = (0 : Int32) then (some ((-1 : Int64), S)) else
  ((f_X10_isFrom v5 (0 : Int32) (2 : Int32) S).bind fun q13 =>
  if q13 = (0 : Int32) then (some ((-1 : Int64), S)) else
  ((gI S 12 8 v1).bind fun a17 =>
  (f_X1_measure 4 v2 v3 v4 S).bind fun q20 =>
  (f_X1_gainOf v3 a17 q20).bind fun q23 =>
  if (0 : Int64) ≤ q23 then (if v5 = (2 : Int32) then ((f_X1_firstStep 4 v3 a17 q20).bind fun q34 =>
  some ((Int32.toInt64 q34), q20)) else
  ((gL q20 16 8 v1).bind fun a28 =>
  (f_X10_lowest (a28 + q23) (232792560 : Int64) v5 q20).bind fun q31 =>
  some (q31, q20))) else
  (some ((-2 : Int64), q20))))))
set_option maxHeartbeats 4000000 in
set_option maxRecDepth 100000 in
theorem ok_X10_plan {X : mm_C} {RR : Nat → Nat → Option Nat} (hR : RRok RR) {v1 : Int32} {v2 : Int32} {v3 : Int32} {v4 : Int32} {v5 : Int32}  {S : fS} {r : Int64 × fS} (h : f_X10_plan v1 v2 v3 v4 v5 S = some r) : mr X 4 mY_X10_plan 0 (lv_args 0 [.ref 0, .int v1, .int v2, .int v3, .int v4, .int v5]) [] (MM RR S) (some (.long r.1), MM RR r.2) := by
  unfold f_X10_plan at h
  show mr X _ _ 0 [(0, .ref 0), (1, .int v1), (2, .int v2), (3, .int v3), (4, .int v4), (5, .int v5)] [] (MM RR S) _
  refine mr_aload_n (pc' := 1) dX10_plan_0 rfl rfl ?_
  refine mr_iload_n (pc' := 2) dX10_plan_1 rfl rfl ?_
  obtain ⟨q1, g2, h3⟩ := Option.bind_eq_some_iff.mp h
  refine mr_cv (pc' := 5) (a := 0) (d1 := 2) dX10_plan_2 rfl rfl rfl rfl rfl rfl (by decide) rfl (by decide) (ok_X10_isStanding hR  g2) ?_
  show mr X _ _ 5 _ [.int q1] (MM RR S) _
  by_cases c4 : q1 = (0 : Int32)
  · rw [if_pos c4] at h3
    refine mr_if_eq_t (t := 16) dX10_plan_5 (by decide) c4 ?_
    refine mr_ldc2 (pc' := 19) (v := (-1 : Int64)) dX10_plan_16 rfl rfl ?_
    obtain rfl := Option.some.inj h3
    exact mr_lreturn dX10_plan_19 rfl
  · rw [if_neg c4] at h3
    refine mr_if_eq_f (t := 16) (pc' := 8) dX10_plan_5 (by decide) rfl c4 ?_
    refine mr_aload_n (pc' := 9) dX10_plan_8 rfl rfl ?_
    refine mr_iload_n (pc' := 10) dX10_plan_9 rfl rfl ?_
    obtain ⟨q5, g6, h7⟩ := Option.bind_eq_some_iff.mp h3
    refine mr_cv (pc' := 13) (a := 0) (d1 := 1) dX10_plan_10 rfl rfl rfl rfl rfl rfl (by decide) rfl (by decide) (ok_X10_isFloor hR  g6) ?_
    show mr X _ _ 13 _ [.int q5] (MM RR S) _
    by_cases c8 : q5 = (0 : Int32)
    · rw [if_pos c8] at h7
      refine mr_if_ne_f (t := 20) (pc' := 16) dX10_plan_13 (by decide) rfl (not_not_intro c8) ?_
      refine mr_ldc2 (pc' := 19) (v := (-1 : Int64)) dX10_plan_16 rfl rfl ?_
      obtain rfl := Option.some.inj h7
      exact mr_lreturn dX10_plan_19 rfl
    · rw [if_neg c8] at h7
      refine mr_if_ne_t (t := 20) dX10_plan_13 (by decide) c8 ?_
      refine mr_iload_n (pc' := 21) dX10_plan_20 rfl rfl ?_
      refine mr_iconst (pc' := 22) (v := (0 : Int32)) dX10_plan_21 rfl (by decide) ?_
      refine mr_bipush (pc' := 24) (v := (120 : Int32)) dX10_plan_22 rfl (by decide) ?_
      obtain ⟨q9, g10, h11⟩ := Option.bind_eq_some_iff.mp h7
      refine mr_cs (pc' := 27) (d1 := 0) dX10_plan_24 rfl rfl rfl rfl (by decide) (Nat.le_of_ble_eq_true rfl) rfl rfl rfl (by decide) (ok_X10_isFrom hR  g10) ?_
      show mr X _ _ 27 _ [.int q9] (MM RR S) _
      by_cases c12 : q9 = (0 : Int32)
      · rw [if_pos c12] at h11
        refine mr_if_eq_t (t := 40) dX10_plan_27 (by decide) c12 ?_
        refine mr_ldc2 (pc' := 43) (v := (-1 : Int64)) dX10_plan_40 rfl rfl ?_
        obtain rfl := Option.some.inj h11
        exact mr_lreturn dX10_plan_43 rfl
      · rw [if_neg c12] at h11
        refine mr_if_eq_f (t := 40) (pc' := 30) dX10_plan_27 (by decide) rfl c12 ?_
        refine mr_iload (pc' := 32) dX10_plan_30 rfl rfl ?_
        refine mr_iconst (pc' := 33) (v := (0 : Int32)) dX10_plan_32 rfl (by decide) ?_
        refine mr_iconst (pc' := 34) (v := (2 : Int32)) dX10_plan_33 rfl (by decide) ?_
        obtain ⟨q13, g14, h15⟩ := Option.bind_eq_some_iff.mp h11
        refine mr_cs (pc' := 37) (d1 := 0) dX10_plan_34 rfl rfl rfl rfl (by decide) (Nat.le_of_ble_eq_true rfl) rfl rfl rfl (by decide) (ok_X10_isFrom hR  g14) ?_
        show mr X _ _ 37 _ [.int q13] (MM RR S) _
        by_cases c16 : q13 = (0 : Int32)
        · rw [if_pos c16] at h15
          refine mr_if_ne_f (t := 44) (pc' := 40) dX10_plan_37 (by decide) rfl (not_not_intro c16) ?_
          refine mr_ldc2 (pc' := 43) (v := (-1 : Int64)) dX10_plan_40 rfl rfl ?_
          obtain rfl := Option.some.inj h15
          exact mr_lreturn dX10_plan_43 rfl
        · rw [if_neg c16] at h15
          refine mr_if_ne_t (t := 44) dX10_plan_37 (by decide) c16 ?_
          refine mr_aload_n (pc' := 45) dX10_plan_44 rfl rfl ?_
          refine mr_getR (pc' := 48) (ci := 10) (j := 1) (b := 3) hR dX10_plan_45 rfl rfl rfl (by decide) (by decide) (by decide) rfl rfl ?_
          refine mr_getR (pc' := 51) (ci := 6) (j := 1) (b := 11) hR dX10_plan_48 rfl rfl rfl (by decide) (by decide) (by decide) rfl rfl ?_
          refine mr_getR (pc' := 54) (ci := 0) (j := 0) (b := 12) hR dX10_plan_51 rfl rfl rfl (by decide) (by decide) (by decide) rfl rfl ?_
          refine mr_iload_n (pc' := 55) dX10_plan_54 rfl rfl ?_
          obtain ⟨a17, g18, h19⟩ := Option.bind_eq_some_iff.mp h15
          refine mr_iald (pc' := 56) dX10_plan_55 rfl rfl rfl g18 ?_
          refine mr_istore (pc' := 58) (lv' := [(6, .int a17), (0, .ref 0), (1, .int v1), (2, .int v2), (3, .int v3), (4, .int v4), (5, .int v5)]) dX10_plan_56 rfl (by decide) rfl ?_
          refine mr_aload_n (pc' := 59) dX10_plan_58 rfl rfl ?_
          refine mr_getR (pc' := 62) (ci := 10) (j := 8) (b := 43) hR dX10_plan_59 rfl rfl rfl (by decide) (by decide) (by decide) rfl rfl ?_
          refine mr_aload_n (pc' := 63) dX10_plan_62 rfl rfl ?_
          refine mr_getR (pc' := 66) (ci := 10) (j := 1) (b := 3) hR dX10_plan_63 rfl rfl rfl (by decide) (by decide) (by decide) rfl rfl ?_
          refine mr_getR (pc' := 69) (ci := 6) (j := 0) (b := 4) hR dX10_plan_66 rfl rfl rfl (by decide) (by decide) (by decide) rfl rfl ?_
          refine mr_iload_n (pc' := 70) dX10_plan_69 rfl rfl ?_
          refine mr_iload_n (pc' := 71) dX10_plan_70 rfl rfl ?_
          refine mr_iload (pc' := 73) dX10_plan_71 rfl rfl ?_
          obtain ⟨q20, g21, h22⟩ := Option.bind_eq_some_iff.mp h19
          refine mr_cv (pc' := 76) (a := 43) (d1 := 3) dX10_plan_73 rfl rfl rfl rfl rfl rfl (by decide) rfl (by decide) (ok_X1_measure hR rfl g21) ?_
          show mr X _ _ 76 _ [] (MM RR q20) _
          refine mr_aload_n (pc' := 77) dX10_plan_76 rfl rfl ?_
          refine mr_getR (pc' := 80) (ci := 10) (j := 8) (b := 43) hR dX10_plan_77 rfl rfl rfl (by decide) (by decide) (by decide) rfl rfl ?_
          refine mr_iload_n (pc' := 81) dX10_plan_80 rfl rfl ?_
          refine mr_iload (pc' := 83) dX10_plan_81 rfl rfl ?_
          obtain ⟨q23, g24, h25⟩ := Option.bind_eq_some_iff.mp h22
          refine mr_cv (pc' := 86) (a := 43) (d1 := 0) dX10_plan_83 rfl rfl rfl rfl rfl rfl (by decide) rfl (by decide) (ok_X1_gainOf hR  g24) ?_
          show mr X _ _ 86 _ [.long q23] (MM RR q20) _
          refine mr_lstore (pc' := 88) (lv' := [(7, .long q23), (6, .int a17), (0, .ref 0), (1, .int v1), (2, .int v2), (3, .int v3), (4, .int v4), (5, .int v5)]) dX10_plan_86 rfl (by decide) rfl ?_
          refine mr_lload (pc' := 90) dX10_plan_88 rfl rfl ?_
          refine mr_lconst (pc' := 91) (v := (0 : Int64)) dX10_plan_90 rfl (by decide) ?_
          by_cases c26 : (0 : Int64) ≤ q23
          · rw [if_pos c26] at h25
            refine mr_lcmp_ge_t (t := 99) dX10_plan_91 rfl dX10_plan_92 (by decide) c26 ?_
            refine mr_iload (pc' := 101) dX10_plan_99 rfl rfl ?_
            refine mr_iconst (pc' := 102) (v := (2 : Int32)) dX10_plan_101 rfl (by decide) ?_
            by_cases c27 : v5 = (2 : Int32)
            · rw [if_pos c27] at h25
              refine mr_icmp_ne_f (t := 124) (pc' := 105) dX10_plan_102 (by decide) rfl (not_not_intro c27) ?_
              refine mr_aload_n (pc' := 106) dX10_plan_105 rfl rfl ?_
              refine mr_getR (pc' := 109) (ci := 10) (j := 8) (b := 43) hR dX10_plan_106 rfl rfl rfl (by decide) (by decide) (by decide) rfl rfl ?_
              refine mr_aload_n (pc' := 110) dX10_plan_109 rfl rfl ?_
              refine mr_getR (pc' := 113) (ci := 10) (j := 1) (b := 3) hR dX10_plan_110 rfl rfl rfl (by decide) (by decide) (by decide) rfl rfl ?_
              refine mr_getR (pc' := 116) (ci := 6) (j := 0) (b := 4) hR dX10_plan_113 rfl rfl rfl (by decide) (by decide) (by decide) rfl rfl ?_
              refine mr_iload_n (pc' := 117) dX10_plan_116 rfl rfl ?_
              refine mr_iload (pc' := 119) dX10_plan_117 rfl rfl ?_
              obtain ⟨q34, g35, h36⟩ := Option.bind_eq_some_iff.mp h25
              refine mr_cv (pc' := 122) (a := 43) (d1 := 2) dX10_plan_119 rfl rfl rfl rfl rfl rfl (by decide) rfl (by decide) (ok_X1_firstStep hR rfl g35) ?_
              show mr X _ _ 122 _ [.int q34] (MM RR q20) _
              refine mr_i2l (pc' := 123) dX10_plan_122 rfl ?_
              obtain rfl := Option.some.inj h36
              exact mr_lreturn dX10_plan_123 rfl
            · rw [if_neg c27] at h25
              refine mr_icmp_ne_t (t := 124) dX10_plan_102 (by decide) c27 ?_
              refine mr_aload_n (pc' := 125) dX10_plan_124 rfl rfl ?_
              refine mr_getR (pc' := 128) (ci := 10) (j := 1) (b := 3) hR dX10_plan_125 rfl rfl rfl (by decide) (by decide) (by decide) rfl rfl ?_
              refine mr_getR (pc' := 131) (ci := 6) (j := 1) (b := 11) hR dX10_plan_128 rfl rfl rfl (by decide) (by decide) (by decide) rfl rfl ?_
              refine mr_getR (pc' := 134) (ci := 0) (j := 4) (b := 16) hR dX10_plan_131 rfl rfl rfl (by decide) (by decide) (by decide) rfl rfl ?_
              refine mr_iload_n (pc' := 135) dX10_plan_134 rfl rfl ?_
              obtain ⟨a28, g29, h30⟩ := Option.bind_eq_some_iff.mp h25
              refine mr_lald (pc' := 136) dX10_plan_135 rfl rfl rfl g29 ?_
              refine mr_lload (pc' := 138) dX10_plan_136 rfl rfl ?_
              refine mr_ladd (pc' := 139) dX10_plan_138 rfl ?_
              refine mr_ldc2 (pc' := 142) (v := (232792560 : Int64)) dX10_plan_139 rfl rfl ?_
              refine mr_iload (pc' := 144) dX10_plan_142 rfl rfl ?_
              obtain ⟨q31, g32, h33⟩ := Option.bind_eq_some_iff.mp h30
              refine mr_cs (pc' := 147) (d1 := 2) dX10_plan_144 rfl rfl rfl rfl (by decide) (Nat.le_of_ble_eq_true rfl) rfl rfl rfl (by decide) (ok_X10_lowest hR  g32) ?_
              show mr X _ _ 147 _ [.long q31] (MM RR q20) _
              obtain rfl := Option.some.inj h33
              exact mr_lreturn dX10_plan_147 rfl
          · rw [if_neg c26] at h25
            refine mr_lcmp_ge_f (t := 99) (pc' := 95) dX10_plan_91 rfl dX10_plan_92 (by decide) rfl c26 ?_
            refine mr_ldc2 (pc' := 98) (v := (-2 : Int64)) dX10_plan_95 rfl rfl ?_
            obtain rfl := Option.some.inj h25
            exact mr_lreturn dX10_plan_98 rfl
def f_X10_even (v1 : Int32) (v2 : Int32) (v3 : Int32) (v4 : Int32) (v5 : Int32) (S : fS) : Option (Int64) :=
  (f_X10_isThing v1 S).bind fun q1 =>
  if q1 = (0 : Int32) then (some (-1 : Int64)) else
  ((f_X10_isThing v2 S).bind fun q5 =>
  if q5 = (0 : Int32) then (some (-1 : Int64)) else
  (if v1 = v2 then (some (-1 : Int64)) else
  ((f_X10_isFloor v3 S).bind fun q10 =>
  if q10 = (0 : Int32) then (some (-1 : Int64)) else
  ((f_X10_isFloor v4 S).bind fun q14 =>
  if q14 = (0 : Int32) then (some (-1 : Int64)) else
  ((f_X10_isPart v5 S).bind fun q18 =>
  if q18 = (0 : Int32) then (some (-1 : Int64)) else
  ((gL S 16 8 v2).bind fun a22 =>
  (gL S 16 8 v1).bind fun a25 =>
  (gL S 5 10 v3).bind fun a28 =>
  (gL S 5 10 v4).bind fun a31 =>
  if (a22 - a25) = (0 : Int64) then ((f_X10_lowest (0 : Int64) (1 : Int64) v5 S).bind fun q79 =>
  some q79) else
  (if (a28 - a31) = (0 : Int64) then (some (-2 : Int64)) else
  (if (0 : Int64) ≤ (a22 - a25) then (if (0 : Int64) ≤ (a28 - a31) then (if (0 : Int32) = (0 : Int32) then ((f_J9_abs_067f4 (a22 - a25) S).bind fun q39 =>
  (f_J9_abs_067f4 (a28 - a31) S).bind fun q42 =>
  (f_X10_lowest q39 q42 v5 S).bind fun q45 =>
  some q45) else
  (some (-2 : Int64))) else
  (if (0 : Int32) = (1 : Int32) then ((f_J9_abs_067f4 (a22 - a25) S).bind fun q49 =>
  (f_J9_abs_067f4 (a28 - a31) S).bind fun q52 =>
  (f_X10_lowest q49 q52 v5 S).bind fun q55 =>
  some q55) else
  (some (-2 : Int64)))) else
  (if (0 : Int64) ≤ (a28 - a31) then (if (1 : Int32) = (0 : Int32) then ((f_J9_abs_067f4 (a22 - a25) S).bind fun q60 =>
  (f_J9_abs_067f4 (a28 - a31) S).bind fun q63 =>
  (f_X10_lowest q60 q63 v5 S).bind fun q66 =>
  some q66) else
  (some (-2 : Int64))) else
  (if (1 : Int32) = (1 : Int32) then ((f_J9_abs_067f4 (a22 - a25) S).bind fun q70 =>
  (f_J9_abs_067f4 (a28 - a31) S).bind fun q73 =>
  (f_X10_lowest q70 q73 v5 S).bind fun q76 =>
  some q76) else
  (some (-2 : Int64))))))))))))
set_option maxHeartbeats 4000000 in
set_option maxRecDepth 100000 in
theorem ok_X10_even {X : mm_C} {RR : Nat → Nat → Option Nat} (hR : RRok RR) {v1 : Int32} {v2 : Int32} {v3 : Int32} {v4 : Int32} {v5 : Int32}  {S : fS} {r : Int64} (h : f_X10_even v1 v2 v3 v4 v5 S = some r) : mr X 3 mY_X10_even 0 (lv_args 0 [.ref 0, .int v1, .int v2, .int v3, .int v4, .int v5]) [] (MM RR S) (some (.long r), MM RR S) := by
  unfold f_X10_even at h
  show mr X _ _ 0 [(0, .ref 0), (1, .int v1), (2, .int v2), (3, .int v3), (4, .int v4), (5, .int v5)] [] (MM RR S) _
  refine mr_aload_n (pc' := 1) dX10_even_0 rfl rfl ?_
  refine mr_iload_n (pc' := 2) dX10_even_1 rfl rfl ?_
  obtain ⟨q1, g2, h3⟩ := Option.bind_eq_some_iff.mp h
  refine mr_cv (pc' := 5) (a := 0) (d1 := 1) dX10_even_2 rfl rfl rfl rfl rfl rfl (by decide) rfl (by decide) (ok_X10_isThing hR  g2) ?_
  show mr X _ _ 5 _ [.int q1] (MM RR S) _
  by_cases c4 : q1 = (0 : Int32)
  · rw [if_pos c4] at h3
    refine mr_if_eq_t (t := 21) dX10_even_5 (by decide) c4 ?_
    refine mr_ldc2 (pc' := 24) (v := (-1 : Int64)) dX10_even_21 rfl rfl ?_
    obtain rfl := Option.some.inj h3
    exact mr_lreturn dX10_even_24 rfl
  · rw [if_neg c4] at h3
    refine mr_if_eq_f (t := 21) (pc' := 8) dX10_even_5 (by decide) rfl c4 ?_
    refine mr_aload_n (pc' := 9) dX10_even_8 rfl rfl ?_
    refine mr_iload_n (pc' := 10) dX10_even_9 rfl rfl ?_
    obtain ⟨q5, g6, h7⟩ := Option.bind_eq_some_iff.mp h3
    refine mr_cv (pc' := 13) (a := 0) (d1 := 1) dX10_even_10 rfl rfl rfl rfl rfl rfl (by decide) rfl (by decide) (ok_X10_isThing hR  g6) ?_
    show mr X _ _ 13 _ [.int q5] (MM RR S) _
    by_cases c8 : q5 = (0 : Int32)
    · rw [if_pos c8] at h7
      refine mr_if_eq_t (t := 21) dX10_even_13 (by decide) c8 ?_
      refine mr_ldc2 (pc' := 24) (v := (-1 : Int64)) dX10_even_21 rfl rfl ?_
      obtain rfl := Option.some.inj h7
      exact mr_lreturn dX10_even_24 rfl
    · rw [if_neg c8] at h7
      refine mr_if_eq_f (t := 21) (pc' := 16) dX10_even_13 (by decide) rfl c8 ?_
      refine mr_iload_n (pc' := 17) dX10_even_16 rfl rfl ?_
      refine mr_iload_n (pc' := 18) dX10_even_17 rfl rfl ?_
      by_cases c9 : v1 = v2
      · rw [if_pos c9] at h7
        refine mr_icmp_ne_f (t := 25) (pc' := 21) dX10_even_18 (by decide) rfl (not_not_intro c9) ?_
        refine mr_ldc2 (pc' := 24) (v := (-1 : Int64)) dX10_even_21 rfl rfl ?_
        obtain rfl := Option.some.inj h7
        exact mr_lreturn dX10_even_24 rfl
      · rw [if_neg c9] at h7
        refine mr_icmp_ne_t (t := 25) dX10_even_18 (by decide) c9 ?_
        refine mr_aload_n (pc' := 26) dX10_even_25 rfl rfl ?_
        refine mr_iload_n (pc' := 27) dX10_even_26 rfl rfl ?_
        obtain ⟨q10, g11, h12⟩ := Option.bind_eq_some_iff.mp h7
        refine mr_cv (pc' := 30) (a := 0) (d1 := 1) dX10_even_27 rfl rfl rfl rfl rfl rfl (by decide) rfl (by decide) (ok_X10_isFloor hR  g11) ?_
        show mr X _ _ 30 _ [.int q10] (MM RR S) _
        by_cases c13 : q10 = (0 : Int32)
        · rw [if_pos c13] at h12
          refine mr_if_eq_t (t := 50) dX10_even_30 (by decide) c13 ?_
          refine mr_ldc2 (pc' := 53) (v := (-1 : Int64)) dX10_even_50 rfl rfl ?_
          obtain rfl := Option.some.inj h12
          exact mr_lreturn dX10_even_53 rfl
        · rw [if_neg c13] at h12
          refine mr_if_eq_f (t := 50) (pc' := 33) dX10_even_30 (by decide) rfl c13 ?_
          refine mr_aload_n (pc' := 34) dX10_even_33 rfl rfl ?_
          refine mr_iload (pc' := 36) dX10_even_34 rfl rfl ?_
          obtain ⟨q14, g15, h16⟩ := Option.bind_eq_some_iff.mp h12
          refine mr_cv (pc' := 39) (a := 0) (d1 := 1) dX10_even_36 rfl rfl rfl rfl rfl rfl (by decide) rfl (by decide) (ok_X10_isFloor hR  g15) ?_
          show mr X _ _ 39 _ [.int q14] (MM RR S) _
          by_cases c17 : q14 = (0 : Int32)
          · rw [if_pos c17] at h16
            refine mr_if_eq_t (t := 50) dX10_even_39 (by decide) c17 ?_
            refine mr_ldc2 (pc' := 53) (v := (-1 : Int64)) dX10_even_50 rfl rfl ?_
            obtain rfl := Option.some.inj h16
            exact mr_lreturn dX10_even_53 rfl
          · rw [if_neg c17] at h16
            refine mr_if_eq_f (t := 50) (pc' := 42) dX10_even_39 (by decide) rfl c17 ?_
            refine mr_iload (pc' := 44) dX10_even_42 rfl rfl ?_
            obtain ⟨q18, g19, h20⟩ := Option.bind_eq_some_iff.mp h16
            refine mr_cs (pc' := 47) (d1 := 1) dX10_even_44 rfl rfl rfl rfl (by decide) (Nat.le_of_ble_eq_true rfl) rfl rfl rfl (by decide) (ok_X10_isPart hR  g19) ?_
            show mr X _ _ 47 _ [.int q18] (MM RR S) _
            by_cases c21 : q18 = (0 : Int32)
            · rw [if_pos c21] at h20
              refine mr_if_ne_f (t := 54) (pc' := 50) dX10_even_47 (by decide) rfl (not_not_intro c21) ?_
              refine mr_ldc2 (pc' := 53) (v := (-1 : Int64)) dX10_even_50 rfl rfl ?_
              obtain rfl := Option.some.inj h20
              exact mr_lreturn dX10_even_53 rfl
            · rw [if_neg c21] at h20
              refine mr_if_ne_t (t := 54) dX10_even_47 (by decide) c21 ?_
              refine mr_aload_n (pc' := 55) dX10_even_54 rfl rfl ?_
              refine mr_getR (pc' := 58) (ci := 10) (j := 1) (b := 3) hR dX10_even_55 rfl rfl rfl (by decide) (by decide) (by decide) rfl rfl ?_
              refine mr_getR (pc' := 61) (ci := 6) (j := 1) (b := 11) hR dX10_even_58 rfl rfl rfl (by decide) (by decide) (by decide) rfl rfl ?_
              refine mr_getR (pc' := 64) (ci := 0) (j := 4) (b := 16) hR dX10_even_61 rfl rfl rfl (by decide) (by decide) (by decide) rfl rfl ?_
              refine mr_iload_n (pc' := 65) dX10_even_64 rfl rfl ?_
              obtain ⟨a22, g23, h24⟩ := Option.bind_eq_some_iff.mp h20
              refine mr_lald (pc' := 66) dX10_even_65 rfl rfl rfl g23 ?_
              refine mr_aload_n (pc' := 67) dX10_even_66 rfl rfl ?_
              refine mr_getR (pc' := 70) (ci := 10) (j := 1) (b := 3) hR dX10_even_67 rfl rfl rfl (by decide) (by decide) (by decide) rfl rfl ?_
              refine mr_getR (pc' := 73) (ci := 6) (j := 1) (b := 11) hR dX10_even_70 rfl rfl rfl (by decide) (by decide) (by decide) rfl rfl ?_
              refine mr_getR (pc' := 76) (ci := 0) (j := 4) (b := 16) hR dX10_even_73 rfl rfl rfl (by decide) (by decide) (by decide) rfl rfl ?_
              refine mr_iload_n (pc' := 77) dX10_even_76 rfl rfl ?_
              obtain ⟨a25, g26, h27⟩ := Option.bind_eq_some_iff.mp h24
              refine mr_lald (pc' := 78) dX10_even_77 rfl rfl rfl g26 ?_
              refine mr_lsub (pc' := 79) dX10_even_78 rfl ?_
              refine mr_lstore (pc' := 81) (lv' := [(6, .long (a22 - a25)), (0, .ref 0), (1, .int v1), (2, .int v2), (3, .int v3), (4, .int v4), (5, .int v5)]) dX10_even_79 rfl (by decide) rfl ?_
              refine mr_aload_n (pc' := 82) dX10_even_81 rfl rfl ?_
              refine mr_getR (pc' := 85) (ci := 10) (j := 1) (b := 3) hR dX10_even_82 rfl rfl rfl (by decide) (by decide) (by decide) rfl rfl ?_
              refine mr_getR (pc' := 88) (ci := 6) (j := 0) (b := 4) hR dX10_even_85 rfl rfl rfl (by decide) (by decide) (by decide) rfl rfl ?_
              refine mr_getR (pc' := 91) (ci := 8) (j := 0) (b := 5) hR dX10_even_88 rfl rfl rfl (by decide) (by decide) (by decide) rfl rfl ?_
              refine mr_iload_n (pc' := 92) dX10_even_91 rfl rfl ?_
              obtain ⟨a28, g29, h30⟩ := Option.bind_eq_some_iff.mp h27
              refine mr_lald (pc' := 93) dX10_even_92 rfl rfl rfl g29 ?_
              refine mr_aload_n (pc' := 94) dX10_even_93 rfl rfl ?_
              refine mr_getR (pc' := 97) (ci := 10) (j := 1) (b := 3) hR dX10_even_94 rfl rfl rfl (by decide) (by decide) (by decide) rfl rfl ?_
              refine mr_getR (pc' := 100) (ci := 6) (j := 0) (b := 4) hR dX10_even_97 rfl rfl rfl (by decide) (by decide) (by decide) rfl rfl ?_
              refine mr_getR (pc' := 103) (ci := 8) (j := 0) (b := 5) hR dX10_even_100 rfl rfl rfl (by decide) (by decide) (by decide) rfl rfl ?_
              refine mr_iload (pc' := 105) dX10_even_103 rfl rfl ?_
              obtain ⟨a31, g32, h33⟩ := Option.bind_eq_some_iff.mp h30
              refine mr_lald (pc' := 106) dX10_even_105 rfl rfl rfl g32 ?_
              refine mr_lsub (pc' := 107) dX10_even_106 rfl ?_
              refine mr_lstore (pc' := 109) (lv' := [(8, .long (a28 - a31)), (6, .long (a22 - a25)), (0, .ref 0), (1, .int v1), (2, .int v2), (3, .int v3), (4, .int v4), (5, .int v5)]) dX10_even_107 rfl (by decide) rfl ?_
              refine mr_lload (pc' := 111) dX10_even_109 rfl rfl ?_
              refine mr_lconst (pc' := 112) (v := (0 : Int64)) dX10_even_111 rfl (by decide) ?_
              by_cases c34 : (a22 - a25) = (0 : Int64)
              · rw [if_pos c34] at h33
                refine mr_lcmp_ne_f (t := 124) (pc' := 116) dX10_even_112 rfl dX10_even_113 (by decide) rfl (not_not_intro c34) ?_
                refine mr_lconst (pc' := 117) (v := (0 : Int64)) dX10_even_116 rfl (by decide) ?_
                refine mr_lconst (pc' := 118) (v := (1 : Int64)) dX10_even_117 rfl (by decide) ?_
                refine mr_iload (pc' := 120) dX10_even_118 rfl rfl ?_
                obtain ⟨q79, g80, h81⟩ := Option.bind_eq_some_iff.mp h33
                refine mr_cs (pc' := 123) (d1 := 2) dX10_even_120 rfl rfl rfl rfl (by decide) (Nat.le_of_ble_eq_true rfl) rfl rfl rfl (by decide) (ok_X10_lowest hR  g80) ?_
                show mr X _ _ 123 _ [.long q79] (MM RR S) _
                obtain rfl := Option.some.inj h81
                exact mr_lreturn dX10_even_123 rfl
              · rw [if_neg c34] at h33
                refine mr_lcmp_ne_t (t := 124) dX10_even_112 rfl dX10_even_113 (by decide) c34 ?_
                refine mr_lload (pc' := 126) dX10_even_124 rfl rfl ?_
                refine mr_lconst (pc' := 127) (v := (0 : Int64)) dX10_even_126 rfl (by decide) ?_
                by_cases c35 : (a28 - a31) = (0 : Int64)
                · rw [if_pos c35] at h33
                  refine mr_lcmp_eq_t (t := 158) dX10_even_127 rfl dX10_even_128 (by decide) c35 ?_
                  refine mr_ldc2 (pc' := 161) (v := (-2 : Int64)) dX10_even_158 rfl rfl ?_
                  obtain rfl := Option.some.inj h33
                  exact mr_lreturn dX10_even_161 rfl
                · rw [if_neg c35] at h33
                  refine mr_lcmp_eq_f (t := 158) (pc' := 131) dX10_even_127 rfl dX10_even_128 (by decide) rfl c35 ?_
                  refine mr_lload (pc' := 133) dX10_even_131 rfl rfl ?_
                  refine mr_lconst (pc' := 134) (v := (0 : Int64)) dX10_even_133 rfl (by decide) ?_
                  by_cases c36 : (0 : Int64) ≤ (a22 - a25)
                  · rw [if_pos c36] at h33
                    refine mr_lcmp_ge_t (t := 142) dX10_even_134 rfl dX10_even_135 (by decide) c36 ?_
                    refine mr_iconst (pc' := 143) (v := (0 : Int32)) dX10_even_142 rfl (by decide) ?_
                    refine mr_lload (pc' := 145) dX10_even_143 rfl rfl ?_
                    refine mr_lconst (pc' := 146) (v := (0 : Int64)) dX10_even_145 rfl (by decide) ?_
                    by_cases c37 : (0 : Int64) ≤ (a28 - a31)
                    · rw [if_pos c37] at h33
                      refine mr_lcmp_ge_t (t := 154) dX10_even_146 rfl dX10_even_147 (by decide) c37 ?_
                      refine mr_iconst (pc' := 155) (v := (0 : Int32)) dX10_even_154 rfl (by decide) ?_
                      by_cases c38 : (0 : Int32) = (0 : Int32)
                      · rw [if_pos c38] at h33
                        refine mr_icmp_eq_t (t := 162) dX10_even_155 (by decide) c38 ?_
                        refine mr_lload (pc' := 164) dX10_even_162 rfl rfl ?_
                        obtain ⟨q39, g40, h41⟩ := Option.bind_eq_some_iff.mp h33
                        refine mr_cs (pc' := 167) (d1 := 0) dX10_even_164 rfl rfl rfl rfl (by decide) (Nat.le_of_ble_eq_true rfl) rfl rfl rfl (by decide) (ok_J9_abs_067f4 hR  g40) ?_
                        show mr X _ _ 167 _ [.long q39] (MM RR S) _
                        refine mr_lload (pc' := 169) dX10_even_167 rfl rfl ?_
                        obtain ⟨q42, g43, h44⟩ := Option.bind_eq_some_iff.mp h41
                        refine mr_cs (pc' := 172) (d1 := 0) dX10_even_169 rfl rfl rfl rfl (by decide) (Nat.le_of_ble_eq_true rfl) rfl rfl rfl (by decide) (ok_J9_abs_067f4 hR  g43) ?_
                        show mr X _ _ 172 _ [.long q42, .long q39] (MM RR S) _
                        refine mr_iload (pc' := 174) dX10_even_172 rfl rfl ?_
                        obtain ⟨q45, g46, h47⟩ := Option.bind_eq_some_iff.mp h44
                        refine mr_cs (pc' := 177) (d1 := 2) dX10_even_174 rfl rfl rfl rfl (by decide) (Nat.le_of_ble_eq_true rfl) rfl rfl rfl (by decide) (ok_X10_lowest hR  g46) ?_
                        show mr X _ _ 177 _ [.long q45] (MM RR S) _
                        obtain rfl := Option.some.inj h47
                        exact mr_lreturn dX10_even_177 rfl
                      · rw [if_neg c38] at h33
                        refine mr_icmp_eq_f (t := 162) (pc' := 158) dX10_even_155 (by decide) rfl c38 ?_
                        refine mr_ldc2 (pc' := 161) (v := (-2 : Int64)) dX10_even_158 rfl rfl ?_
                        obtain rfl := Option.some.inj h33
                        exact mr_lreturn dX10_even_161 rfl
                    · rw [if_neg c37] at h33
                      refine mr_lcmp_ge_f (t := 154) (pc' := 150) dX10_even_146 rfl dX10_even_147 (by decide) rfl c37 ?_
                      refine mr_iconst (pc' := 151) (v := (1 : Int32)) dX10_even_150 rfl (by decide) ?_
                      refine mr_goto (t := 155) dX10_even_151 (by decide) ?_
                      by_cases c48 : (0 : Int32) = (1 : Int32)
                      · rw [if_pos c48] at h33
                        refine mr_icmp_eq_t (t := 162) dX10_even_155 (by decide) c48 ?_
                        refine mr_lload (pc' := 164) dX10_even_162 rfl rfl ?_
                        obtain ⟨q49, g50, h51⟩ := Option.bind_eq_some_iff.mp h33
                        refine mr_cs (pc' := 167) (d1 := 0) dX10_even_164 rfl rfl rfl rfl (by decide) (Nat.le_of_ble_eq_true rfl) rfl rfl rfl (by decide) (ok_J9_abs_067f4 hR  g50) ?_
                        show mr X _ _ 167 _ [.long q49] (MM RR S) _
                        refine mr_lload (pc' := 169) dX10_even_167 rfl rfl ?_
                        obtain ⟨q52, g53, h54⟩ := Option.bind_eq_some_iff.mp h51
                        refine mr_cs (pc' := 172) (d1 := 0) dX10_even_169 rfl rfl rfl rfl (by decide) (Nat.le_of_ble_eq_true rfl) rfl rfl rfl (by decide) (ok_J9_abs_067f4 hR  g53) ?_
                        show mr X _ _ 172 _ [.long q52, .long q49] (MM RR S) _
                        refine mr_iload (pc' := 174) dX10_even_172 rfl rfl ?_
                        obtain ⟨q55, g56, h57⟩ := Option.bind_eq_some_iff.mp h54
                        refine mr_cs (pc' := 177) (d1 := 2) dX10_even_174 rfl rfl rfl rfl (by decide) (Nat.le_of_ble_eq_true rfl) rfl rfl rfl (by decide) (ok_X10_lowest hR  g56) ?_
                        show mr X _ _ 177 _ [.long q55] (MM RR S) _
                        obtain rfl := Option.some.inj h57
                        exact mr_lreturn dX10_even_177 rfl
                      · rw [if_neg c48] at h33
                        refine mr_icmp_eq_f (t := 162) (pc' := 158) dX10_even_155 (by decide) rfl c48 ?_
                        refine mr_ldc2 (pc' := 161) (v := (-2 : Int64)) dX10_even_158 rfl rfl ?_
                        obtain rfl := Option.some.inj h33
                        exact mr_lreturn dX10_even_161 rfl
                  · rw [if_neg c36] at h33
                    refine mr_lcmp_ge_f (t := 142) (pc' := 138) dX10_even_134 rfl dX10_even_135 (by decide) rfl c36 ?_
                    refine mr_iconst (pc' := 139) (v := (1 : Int32)) dX10_even_138 rfl (by decide) ?_
                    refine mr_goto (t := 143) dX10_even_139 (by decide) ?_
                    refine mr_lload (pc' := 145) dX10_even_143 rfl rfl ?_
                    refine mr_lconst (pc' := 146) (v := (0 : Int64)) dX10_even_145 rfl (by decide) ?_
                    by_cases c58 : (0 : Int64) ≤ (a28 - a31)
                    · rw [if_pos c58] at h33
                      refine mr_lcmp_ge_t (t := 154) dX10_even_146 rfl dX10_even_147 (by decide) c58 ?_
                      refine mr_iconst (pc' := 155) (v := (0 : Int32)) dX10_even_154 rfl (by decide) ?_
                      by_cases c59 : (1 : Int32) = (0 : Int32)
                      · rw [if_pos c59] at h33
                        refine mr_icmp_eq_t (t := 162) dX10_even_155 (by decide) c59 ?_
                        refine mr_lload (pc' := 164) dX10_even_162 rfl rfl ?_
                        obtain ⟨q60, g61, h62⟩ := Option.bind_eq_some_iff.mp h33
                        refine mr_cs (pc' := 167) (d1 := 0) dX10_even_164 rfl rfl rfl rfl (by decide) (Nat.le_of_ble_eq_true rfl) rfl rfl rfl (by decide) (ok_J9_abs_067f4 hR  g61) ?_
                        show mr X _ _ 167 _ [.long q60] (MM RR S) _
                        refine mr_lload (pc' := 169) dX10_even_167 rfl rfl ?_
                        obtain ⟨q63, g64, h65⟩ := Option.bind_eq_some_iff.mp h62
                        refine mr_cs (pc' := 172) (d1 := 0) dX10_even_169 rfl rfl rfl rfl (by decide) (Nat.le_of_ble_eq_true rfl) rfl rfl rfl (by decide) (ok_J9_abs_067f4 hR  g64) ?_
                        show mr X _ _ 172 _ [.long q63, .long q60] (MM RR S) _
                        refine mr_iload (pc' := 174) dX10_even_172 rfl rfl ?_
                        obtain ⟨q66, g67, h68⟩ := Option.bind_eq_some_iff.mp h65
                        refine mr_cs (pc' := 177) (d1 := 2) dX10_even_174 rfl rfl rfl rfl (by decide) (Nat.le_of_ble_eq_true rfl) rfl rfl rfl (by decide) (ok_X10_lowest hR  g67) ?_
                        show mr X _ _ 177 _ [.long q66] (MM RR S) _
                        obtain rfl := Option.some.inj h68
                        exact mr_lreturn dX10_even_177 rfl
                      · rw [if_neg c59] at h33
                        refine mr_icmp_eq_f (t := 162) (pc' := 158) dX10_even_155 (by decide) rfl c59 ?_
                        refine mr_ldc2 (pc' := 161) (v := (-2 : Int64)) dX10_even_158 rfl rfl ?_
                        obtain rfl := Option.some.inj h33
                        exact mr_lreturn dX10_even_161 rfl
                    · rw [if_neg c58] at h33
                      refine mr_lcmp_ge_f (t := 154) (pc' := 150) dX10_even_146 rfl dX10_even_147 (by decide) rfl c58 ?_
                      refine mr_iconst (pc' := 151) (v := (1 : Int32)) dX10_even_150 rfl (by decide) ?_
                      refine mr_goto (t := 155) dX10_even_151 (by decide) ?_
                      by_cases c69 : (1 : Int32) = (1 : Int32)
                      · rw [if_pos c69] at h33
                        refine mr_icmp_eq_t (t := 162) dX10_even_155 (by decide) c69 ?_
                        refine mr_lload (pc' := 164) dX10_even_162 rfl rfl ?_
                        obtain ⟨q70, g71, h72⟩ := Option.bind_eq_some_iff.mp h33
                        refine mr_cs (pc' := 167) (d1 := 0) dX10_even_164 rfl rfl rfl rfl (by decide) (Nat.le_of_ble_eq_true rfl) rfl rfl rfl (by decide) (ok_J9_abs_067f4 hR  g71) ?_
                        show mr X _ _ 167 _ [.long q70] (MM RR S) _
                        refine mr_lload (pc' := 169) dX10_even_167 rfl rfl ?_
                        obtain ⟨q73, g74, h75⟩ := Option.bind_eq_some_iff.mp h72
                        refine mr_cs (pc' := 172) (d1 := 0) dX10_even_169 rfl rfl rfl rfl (by decide) (Nat.le_of_ble_eq_true rfl) rfl rfl rfl (by decide) (ok_J9_abs_067f4 hR  g74) ?_
                        show mr X _ _ 172 _ [.long q73, .long q70] (MM RR S) _
                        refine mr_iload (pc' := 174) dX10_even_172 rfl rfl ?_
                        obtain ⟨q76, g77, h78⟩ := Option.bind_eq_some_iff.mp h75
                        refine mr_cs (pc' := 177) (d1 := 2) dX10_even_174 rfl rfl rfl rfl (by decide) (Nat.le_of_ble_eq_true rfl) rfl rfl rfl (by decide) (ok_X10_lowest hR  g77) ?_
                        show mr X _ _ 177 _ [.long q76] (MM RR S) _
                        obtain rfl := Option.some.inj h78
                        exact mr_lreturn dX10_even_177 rfl
                      · rw [if_neg c69] at h33
                        refine mr_icmp_eq_f (t := 162) (pc' := 158) dX10_even_155 (by decide) rfl c69 ?_
                        refine mr_ldc2 (pc' := 161) (v := (-2 : Int64)) dX10_even_158 rfl rfl ?_
                        obtain rfl := Option.some.inj h33
                        exact mr_lreturn dX10_even_161 rfl
