def lp_X7_put_3 (p1 : Int32) (K : fS → Option (fS)) : Nat → Int32 → fS → Option (fS)
  | 0, _, _ => none
  | n + 1, p2, S0 =>
    if p2 < (0 : Int32) then (K S0) else
    (if (400 : Int32) ≤ (S0.1 1 1) then (lp_X7_put_3 p1 K n (p2 + (-8 : Int32)) S0) else
    ((sI S0 2 400 (S0.1 1 1) (Int8.toInt32 (Int32.toInt8 (Int8.toInt32 (Int32.toInt8 (p1 >>> (p2 &&& 31))))))).bind fun S3 =>
    (some (pI S3 1 1 ((S3.1 1 1) + (1 : Int32)))).bind fun S6 =>
    lp_X7_put_3 p1 K n (p2 + (-8 : Int32)) S6))
set_option maxHeartbeats 4000000 in
set_option maxRecDepth 100000 in
theorem ok_lp_X7_put_3 {X : mm_C} {RR : Nat → Nat → Option Nat} (hR : RRok RR) {p1 : Int32}  {K : fS → Option (fS)} {r : fS} (hK : ∀ (Sk : fS), K Sk = some r → mr X 0 mY_X7_put 46 [] [] (MM RR Sk) (none, MM RR r)) : ∀ (n : Nat) (p2 : Int32) (S0 : fS), lp_X7_put_3 p1 K n p2 S0 = some r → mr X 0 mY_X7_put 3 [(0, .ref 1), (1, .int p1), (2, .int p2)] [] (MM RR S0) (none, MM RR r) := by
  intro n
  induction n with
  | zero => intro p2 S0 h; exact mm_no h
  | succ n ih =>
    intro p2 S0 h
    unfold lp_X7_put_3 at h
    refine mr_iload_n (pc' := 4) dX7_put_3 rfl rfl ?_
    by_cases c1 : p2 < (0 : Int32)
    · rw [if_pos c1] at h
      refine mr_if_lt_t (t := 46) dX7_put_4 (by decide) c1 ?_
      exact mr_sub [] trivial rfl (hK _  h)
    · rw [if_neg c1] at h
      refine mr_if_lt_f (t := 46) (pc' := 7) dX7_put_4 (by decide) rfl c1 ?_
      refine mr_aload_n (pc' := 8) dX7_put_7 rfl rfl ?_
      refine mr_getI (pc' := 11) (ci := 7) (j := 1) dX7_put_8 rfl rfl rfl (by decide) (by decide) rfl ?_
      refine mr_sipush (pc' := 14) (v := (400 : Int32)) dX7_put_11 rfl (by decide) ?_
      by_cases c2 : (400 : Int32) ≤ (S0.1 1 1)
      · rw [if_pos c2] at h
        refine mr_icmp_ge_t (t := 40) dX7_put_14 (by decide) c2 ?_
        refine mr_iinc (pc' := 43) (x' := (p2 + (-8 : Int32))) (lv' := [(2, .int (p2 + (-8 : Int32))), (0, .ref 1), (1, .int p1)]) dX7_put_40 rfl (by decide) rfl rfl rfl ?_
        refine mr_goto (t := 3) dX7_put_43 (by decide) ?_
        exact mr_sub [(0, .ref 1), (1, .int p1), (2, .int (p2 + (-8 : Int32)))] ⟨rfl, rfl, rfl, trivial⟩ rfl (ih _ _  h)
      · rw [if_neg c2] at h
        refine mr_icmp_ge_f (t := 40) (pc' := 17) dX7_put_14 (by decide) rfl c2 ?_
        refine mr_aload_n (pc' := 18) dX7_put_17 rfl rfl ?_
        refine mr_getR (pc' := 21) (ci := 7) (j := 0) (b := 2) hR dX7_put_18 rfl rfl rfl (by decide) (by decide) (by decide) rfl rfl ?_
        refine mr_aload_n (pc' := 22) dX7_put_21 rfl rfl ?_
        refine mr_getI (pc' := 25) (ci := 7) (j := 1) dX7_put_22 rfl rfl rfl (by decide) (by decide) rfl ?_
        refine mr_iload_n (pc' := 26) dX7_put_25 rfl rfl ?_
        refine mr_iload_n (pc' := 27) dX7_put_26 rfl rfl ?_
        refine mr_ishr (pc' := 28) dX7_put_27 rfl ?_
        refine mr_i2b (pc' := 29) dX7_put_28 rfl ?_
        obtain ⟨S3, g4, h5⟩ := Option.bind_eq_some_iff.mp h
        refine mr_bast (pc' := 30) dX7_put_29 rfl rfl rfl g4 ?_
        refine mr_aload_n (pc' := 31) dX7_put_30 rfl rfl ?_
        refine mr_dup_ref (pc' := 32) dX7_put_31 rfl ?_
        refine mr_getI (pc' := 35) (ci := 7) (j := 1) dX7_put_32 rfl rfl rfl (by decide) (by decide) rfl ?_
        refine mr_iconst (pc' := 36) (v := (1 : Int32)) dX7_put_35 rfl (by decide) ?_
        refine mr_iadd (pc' := 37) dX7_put_36 rfl ?_
        obtain ⟨S6, g7, h8⟩ := Option.bind_eq_some_iff.mp h5
        refine mr_putI (pc' := 40) (ci := 7) (j := 1) dX7_put_37 rfl rfl rfl (by decide) (by decide) rfl rfl ?_
        rw [Option.some.inj g7]
        refine mr_iinc (pc' := 43) (x' := (p2 + (-8 : Int32))) (lv' := [(2, .int (p2 + (-8 : Int32))), (0, .ref 1), (1, .int p1)]) dX7_put_40 rfl (by decide) rfl rfl rfl ?_
        refine mr_goto (t := 3) dX7_put_43 (by decide) ?_
        exact mr_sub [(0, .ref 1), (1, .int p1), (2, .int (p2 + (-8 : Int32)))] ⟨rfl, rfl, rfl, trivial⟩ rfl (ih _ _  h8)
def f_X7_put (v1 : Int32) (S : fS) : Option (fS) :=
  lp_X7_put_3 v1 (fun S9 => some S9) FU (24 : Int32) S
set_option maxHeartbeats 4000000 in
set_option maxRecDepth 100000 in
theorem ok_X7_put {X : mm_C} {RR : Nat → Nat → Option Nat} (hR : RRok RR) {v1 : Int32}  {S : fS} {r : fS} (h : f_X7_put v1 S = some r) : mr X 0 mY_X7_put 0 (lv_args 0 [.ref 1, .int v1]) [] (MM RR S) (none, MM RR r) := by
  unfold f_X7_put at h
  show mr X _ _ 0 [(0, .ref 1), (1, .int v1)] [] (MM RR S) _
  refine mr_bipush (pc' := 2) (v := (24 : Int32)) dX7_put_0 rfl (by decide) ?_
  refine mr_istore_n (pc' := 3) (lv' := [(2, .int (24 : Int32)), (0, .ref 1), (1, .int v1)]) dX7_put_2 rfl (by decide) rfl ?_
  refine mr_sub [(0, .ref 1), (1, .int v1), (2, .int (24 : Int32))] ⟨rfl, rfl, rfl, trivial⟩ rfl ?_
  refine ok_lp_X7_put_3 hR  (fun S9 h10 => ?_) FU _ _  h
  obtain rfl := Option.some.inj h10
  exact mr_return dX7_put_46 rfl
def f_X10_feed (v1 : Int32) (v2 : Int32) (v3 : Int32) (v4 : Int32) (v5 : Int32) (S : fS) : Option (Int32 × fS) :=
  if ((S.1 1 1) + (20 : Int32)) ≤ (400 : Int32) then ((f_X7_put v1 S).bind fun q2 =>
  (f_X7_put v2 q2).bind fun q5 =>
  (f_X7_put v3 q5).bind fun q8 =>
  (f_X7_put v4 q8).bind fun q11 =>
  (f_X7_put v5 q11).bind fun q14 =>
  some ((q14.1 1 1), q14)) else
  (some ((-1 : Int32), S))
set_option maxHeartbeats 4000000 in
set_option maxRecDepth 100000 in
theorem ok_X10_feed {X : mm_C} {RR : Nat → Nat → Option Nat} (hR : RRok RR) {v1 : Int32} {v2 : Int32} {v3 : Int32} {v4 : Int32} {v5 : Int32}  {S : fS} {r : Int32 × fS} (h : f_X10_feed v1 v2 v3 v4 v5 S = some r) : mr X 1 mY_X10_feed 0 (lv_args 0 [.ref 0, .int v1, .int v2, .int v3, .int v4, .int v5]) [] (MM RR S) (some (.int r.1), MM RR r.2) := by
  unfold f_X10_feed at h
  show mr X _ _ 0 [(0, .ref 0), (1, .int v1), (2, .int v2), (3, .int v3), (4, .int v4), (5, .int v5)] [] (MM RR S) _
  refine mr_aload_n (pc' := 1) dX10_feed_0 rfl rfl ?_
  refine mr_getR (pc' := 4) (ci := 10) (j := 0) (b := 1) hR dX10_feed_1 rfl rfl rfl (by decide) (by decide) (by decide) rfl rfl ?_
  refine mr_getI (pc' := 7) (ci := 7) (j := 1) dX10_feed_4 rfl rfl rfl (by decide) (by decide) rfl ?_
  refine mr_bipush (pc' := 9) (v := (20 : Int32)) dX10_feed_7 rfl (by decide) ?_
  refine mr_iadd (pc' := 10) dX10_feed_9 rfl ?_
  refine mr_sipush (pc' := 13) (v := (400 : Int32)) dX10_feed_10 rfl (by decide) ?_
  by_cases c1 : ((S.1 1 1) + (20 : Int32)) ≤ (400 : Int32)
  · rw [if_pos c1] at h
    refine mr_icmp_le_t (t := 18) dX10_feed_13 (by decide) c1 ?_
    refine mr_aload_n (pc' := 19) dX10_feed_18 rfl rfl ?_
    refine mr_getR (pc' := 22) (ci := 10) (j := 0) (b := 1) hR dX10_feed_19 rfl rfl rfl (by decide) (by decide) (by decide) rfl rfl ?_
    refine mr_iload_n (pc' := 23) dX10_feed_22 rfl rfl ?_
    obtain ⟨q2, g3, h4⟩ := Option.bind_eq_some_iff.mp h
    refine mr_cv (pc' := 26) (a := 1) (d1 := 0) dX10_feed_23 rfl rfl rfl rfl rfl rfl (by decide) rfl (by decide) (ok_X7_put hR  g3) ?_
    show mr X _ _ 26 _ [] (MM RR q2) _
    refine mr_aload_n (pc' := 27) dX10_feed_26 rfl rfl ?_
    refine mr_getR (pc' := 30) (ci := 10) (j := 0) (b := 1) hR dX10_feed_27 rfl rfl rfl (by decide) (by decide) (by decide) rfl rfl ?_
    refine mr_iload_n (pc' := 31) dX10_feed_30 rfl rfl ?_
    obtain ⟨q5, g6, h7⟩ := Option.bind_eq_some_iff.mp h4
    refine mr_cv (pc' := 34) (a := 1) (d1 := 0) dX10_feed_31 rfl rfl rfl rfl rfl rfl (by decide) rfl (by decide) (ok_X7_put hR  g6) ?_
    show mr X _ _ 34 _ [] (MM RR q5) _
    refine mr_aload_n (pc' := 35) dX10_feed_34 rfl rfl ?_
    refine mr_getR (pc' := 38) (ci := 10) (j := 0) (b := 1) hR dX10_feed_35 rfl rfl rfl (by decide) (by decide) (by decide) rfl rfl ?_
    refine mr_iload_n (pc' := 39) dX10_feed_38 rfl rfl ?_
    obtain ⟨q8, g9, h10⟩ := Option.bind_eq_some_iff.mp h7
    refine mr_cv (pc' := 42) (a := 1) (d1 := 0) dX10_feed_39 rfl rfl rfl rfl rfl rfl (by decide) rfl (by decide) (ok_X7_put hR  g9) ?_
    show mr X _ _ 42 _ [] (MM RR q8) _
    refine mr_aload_n (pc' := 43) dX10_feed_42 rfl rfl ?_
    refine mr_getR (pc' := 46) (ci := 10) (j := 0) (b := 1) hR dX10_feed_43 rfl rfl rfl (by decide) (by decide) (by decide) rfl rfl ?_
    refine mr_iload (pc' := 48) dX10_feed_46 rfl rfl ?_
    obtain ⟨q11, g12, h13⟩ := Option.bind_eq_some_iff.mp h10
    refine mr_cv (pc' := 51) (a := 1) (d1 := 0) dX10_feed_48 rfl rfl rfl rfl rfl rfl (by decide) rfl (by decide) (ok_X7_put hR  g12) ?_
    show mr X _ _ 51 _ [] (MM RR q11) _
    refine mr_aload_n (pc' := 52) dX10_feed_51 rfl rfl ?_
    refine mr_getR (pc' := 55) (ci := 10) (j := 0) (b := 1) hR dX10_feed_52 rfl rfl rfl (by decide) (by decide) (by decide) rfl rfl ?_
    refine mr_iload (pc' := 57) dX10_feed_55 rfl rfl ?_
    obtain ⟨q14, g15, h16⟩ := Option.bind_eq_some_iff.mp h13
    refine mr_cv (pc' := 60) (a := 1) (d1 := 0) dX10_feed_57 rfl rfl rfl rfl rfl rfl (by decide) rfl (by decide) (ok_X7_put hR  g15) ?_
    show mr X _ _ 60 _ [] (MM RR q14) _
    refine mr_aload_n (pc' := 61) dX10_feed_60 rfl rfl ?_
    refine mr_getR (pc' := 64) (ci := 10) (j := 0) (b := 1) hR dX10_feed_61 rfl rfl rfl (by decide) (by decide) (by decide) rfl rfl ?_
    refine mr_getI (pc' := 67) (ci := 7) (j := 1) dX10_feed_64 rfl rfl rfl (by decide) (by decide) rfl ?_
    obtain rfl := Option.some.inj h16
    exact mr_ireturn dX10_feed_67 rfl
  · rw [if_neg c1] at h
    refine mr_icmp_le_f (t := 18) (pc' := 16) dX10_feed_13 (by decide) rfl c1 ?_
    refine mr_iconst (pc' := 17) (v := (-1 : Int32)) dX10_feed_16 rfl (by decide) ?_
    obtain rfl := Option.some.inj h
    exact mr_ireturn dX10_feed_17 rfl
def f_X10_isFrom (v0 : Int32) (v1 : Int32) (v2 : Int32) (S : fS) : Option (Int32) :=
  if v0 < v1 then (some (0 : Int32)) else
  (if v2 < v0 then (some (0 : Int32)) else
  (some (1 : Int32)))
set_option maxHeartbeats 4000000 in
set_option maxRecDepth 100000 in
theorem ok_X10_isFrom {X : mm_C} {RR : Nat → Nat → Option Nat} (hR : RRok RR) {v0 : Int32} {v1 : Int32} {v2 : Int32}  {S : fS} {r : Int32} (h : f_X10_isFrom v0 v1 v2 S = some r) : mr X 0 mY_X10_isFrom 0 (lv_args 0 [.int v0, .int v1, .int v2]) [] (MM RR S) (some (.int r), MM RR S) := by
  unfold f_X10_isFrom at h
  show mr X _ _ 0 [(0, .int v0), (1, .int v1), (2, .int v2)] [] (MM RR S) _
  refine mr_iload_n (pc' := 1) dX10_isFrom_0 rfl rfl ?_
  refine mr_iload_n (pc' := 2) dX10_isFrom_1 rfl rfl ?_
  by_cases c1 : v0 < v1
  · rw [if_pos c1] at h
    refine mr_icmp_lt_t (t := 14) dX10_isFrom_2 (by decide) c1 ?_
    refine mr_iconst (pc' := 15) (v := (0 : Int32)) dX10_isFrom_14 rfl (by decide) ?_
    obtain rfl := Option.some.inj h
    exact mr_zreturn dX10_isFrom_15 rfl (by decide)
  · rw [if_neg c1] at h
    refine mr_icmp_lt_f (t := 14) (pc' := 5) dX10_isFrom_2 (by decide) rfl c1 ?_
    refine mr_iload_n (pc' := 6) dX10_isFrom_5 rfl rfl ?_
    refine mr_iload_n (pc' := 7) dX10_isFrom_6 rfl rfl ?_
    by_cases c2 : v2 < v0
    · rw [if_pos c2] at h
      refine mr_icmp_gt_t (t := 14) dX10_isFrom_7 (by decide) c2 ?_
      refine mr_iconst (pc' := 15) (v := (0 : Int32)) dX10_isFrom_14 rfl (by decide) ?_
      obtain rfl := Option.some.inj h
      exact mr_zreturn dX10_isFrom_15 rfl (by decide)
    · rw [if_neg c2] at h
      refine mr_icmp_gt_f (t := 14) (pc' := 10) dX10_isFrom_7 (by decide) rfl c2 ?_
      refine mr_iconst (pc' := 11) (v := (1 : Int32)) dX10_isFrom_10 rfl (by decide) ?_
      refine mr_goto (t := 15) dX10_isFrom_11 (by decide) ?_
      obtain rfl := Option.some.inj h
      exact mr_zreturn dX10_isFrom_15 rfl (by decide)
def f_X10_end (v1 : Int32) (S : fS) : Option (Int32 × fS) :=
  (f_X10_isFrom v1 (0 : Int32) (S.1 1 1) S).bind fun q1 =>
  if q1 = (0 : Int32) then (some ((-1 : Int32), S)) else
  ((some (pI S 1 1 v1)).bind fun S5 =>
  some (v1, S5))
set_option maxHeartbeats 4000000 in
set_option maxRecDepth 100000 in
theorem ok_X10_end {X : mm_C} {RR : Nat → Nat → Option Nat} (hR : RRok RR) {v1 : Int32}  {S : fS} {r : Int32 × fS} (h : f_X10_end v1 S = some r) : mr X 1 mY_X10_end 0 (lv_args 0 [.ref 0, .int v1]) [] (MM RR S) (some (.int r.1), MM RR r.2) := by
  unfold f_X10_end at h
  show mr X _ _ 0 [(0, .ref 0), (1, .int v1)] [] (MM RR S) _
  refine mr_iload_n (pc' := 1) dX10_end_0 rfl rfl ?_
  refine mr_iconst (pc' := 2) (v := (0 : Int32)) dX10_end_1 rfl (by decide) ?_
  refine mr_aload_n (pc' := 3) dX10_end_2 rfl rfl ?_
  refine mr_getR (pc' := 6) (ci := 10) (j := 0) (b := 1) hR dX10_end_3 rfl rfl rfl (by decide) (by decide) (by decide) rfl rfl ?_
  refine mr_getI (pc' := 9) (ci := 7) (j := 1) dX10_end_6 rfl rfl rfl (by decide) (by decide) rfl ?_
  obtain ⟨q1, g2, h3⟩ := Option.bind_eq_some_iff.mp h
  refine mr_cs (pc' := 12) (d1 := 0) dX10_end_9 rfl rfl rfl rfl (by decide) (Nat.le_of_ble_eq_true rfl) rfl rfl rfl (by decide) (ok_X10_isFrom hR  g2) ?_
  show mr X _ _ 12 _ [.int q1] (MM RR S) _
  by_cases c4 : q1 = (0 : Int32)
  · rw [if_pos c4] at h3
    refine mr_if_ne_f (t := 17) (pc' := 15) dX10_end_12 (by decide) rfl (not_not_intro c4) ?_
    refine mr_iconst (pc' := 16) (v := (-1 : Int32)) dX10_end_15 rfl (by decide) ?_
    obtain rfl := Option.some.inj h3
    exact mr_ireturn dX10_end_16 rfl
  · rw [if_neg c4] at h3
    refine mr_if_ne_t (t := 17) dX10_end_12 (by decide) c4 ?_
    refine mr_aload_n (pc' := 18) dX10_end_17 rfl rfl ?_
    refine mr_getR (pc' := 21) (ci := 10) (j := 0) (b := 1) hR dX10_end_18 rfl rfl rfl (by decide) (by decide) (by decide) rfl rfl ?_
    refine mr_iload_n (pc' := 22) dX10_end_21 rfl rfl ?_
    obtain ⟨S5, g6, h7⟩ := Option.bind_eq_some_iff.mp h3
    refine mr_putI (pc' := 25) (ci := 7) (j := 1) dX10_end_22 rfl rfl rfl (by decide) (by decide) rfl rfl ?_
    rw [Option.some.inj g6]
    refine mr_iload_n (pc' := 26) dX10_end_25 rfl rfl ?_
    obtain rfl := Option.some.inj h7
    exact mr_ireturn dX10_end_26 rfl
def f_X7_rewind  (S : fS) : Option (fS) :=
  (some (pI S 1 2 (0 : Int32))).bind fun S1 =>
  (some (pI S1 1 3 (0 : Int32))).bind fun S4 =>
  (some (pI S4 1 4 (0 : Int32))).bind fun S7 =>
  some S7
set_option maxHeartbeats 4000000 in
set_option maxRecDepth 100000 in
theorem ok_X7_rewind {X : mm_C} {RR : Nat → Nat → Option Nat} (hR : RRok RR)   {S : fS} {r : fS} (h : f_X7_rewind  S = some r) : mr X 0 mY_X7_rewind 0 (lv_args 0 [.ref 1]) [] (MM RR S) (none, MM RR r) := by
  unfold f_X7_rewind at h
  show mr X _ _ 0 [(0, .ref 1)] [] (MM RR S) _
  refine mr_aload_n (pc' := 1) dX7_rewind_0 rfl rfl ?_
  refine mr_iconst (pc' := 2) (v := (0 : Int32)) dX7_rewind_1 rfl (by decide) ?_
  obtain ⟨S1, g2, h3⟩ := Option.bind_eq_some_iff.mp h
  refine mr_putI (pc' := 5) (ci := 7) (j := 2) dX7_rewind_2 rfl rfl rfl (by decide) (by decide) rfl rfl ?_
  rw [Option.some.inj g2]
  refine mr_aload_n (pc' := 6) dX7_rewind_5 rfl rfl ?_
  refine mr_iconst (pc' := 7) (v := (0 : Int32)) dX7_rewind_6 rfl (by decide) ?_
  obtain ⟨S4, g5, h6⟩ := Option.bind_eq_some_iff.mp h3
  refine mr_putI (pc' := 10) (ci := 7) (j := 3) dX7_rewind_7 rfl rfl rfl (by decide) (by decide) rfl rfl ?_
  rw [Option.some.inj g5]
  refine mr_aload_n (pc' := 11) dX7_rewind_10 rfl rfl ?_
  refine mr_iconst (pc' := 12) (v := (0 : Int32)) dX7_rewind_11 rfl (by decide) ?_
  obtain ⟨S7, g8, h9⟩ := Option.bind_eq_some_iff.mp h6
  refine mr_putI (pc' := 15) (ci := 7) (j := 4) dX7_rewind_12 rfl rfl rfl (by decide) (by decide) rfl rfl ?_
  rw [Option.some.inj g8]
  obtain rfl := Option.some.inj h9
  exact mr_return dX7_rewind_15 rfl
def lp_X7_skipBlanks_0  (K : fS → Option (fS)) : Nat → fS → Option (fS)
  | 0, _ => none
  | n + 1, S0 =>
    if (S0.1 1 1) ≤ (S0.1 1 2) then (K S0) else
    (if (400 : Int32) ≤ (S0.1 1 2) then (K S0) else
    ((gI S0 2 400 (S0.1 1 2)).bind fun a3 =>
    if a3 = (32 : Int32) then ((some (pI S0 1 2 ((S0.1 1 2) + (1 : Int32)))).bind fun S7 =>
    lp_X7_skipBlanks_0  K n  S7) else
    (K S0)))
set_option maxHeartbeats 4000000 in
set_option maxRecDepth 100000 in
theorem ok_lp_X7_skipBlanks_0 {X : mm_C} {RR : Nat → Nat → Option Nat} (hR : RRok RR)   {K : fS → Option (fS)} {r : fS} (hK : ∀ (Sk : fS), K Sk = some r → mr X 0 mY_X7_skipBlanks 48 [] [] (MM RR Sk) (none, MM RR r)) : ∀ (n : Nat) (S0 : fS), lp_X7_skipBlanks_0  K n S0 = some r → mr X 0 mY_X7_skipBlanks 0 [(0, .ref 1)] [] (MM RR S0) (none, MM RR r) := by
  intro n
  induction n with
  | zero => intro S0 h; exact mm_no h
  | succ n ih =>
    intro S0 h
    unfold lp_X7_skipBlanks_0 at h
    refine mr_aload_n (pc' := 1) dX7_skipBlanks_0 rfl rfl ?_
    refine mr_getI (pc' := 4) (ci := 7) (j := 2) dX7_skipBlanks_1 rfl rfl rfl (by decide) (by decide) rfl ?_
    refine mr_aload_n (pc' := 5) dX7_skipBlanks_4 rfl rfl ?_
    refine mr_getI (pc' := 8) (ci := 7) (j := 1) dX7_skipBlanks_5 rfl rfl rfl (by decide) (by decide) rfl ?_
    by_cases c1 : (S0.1 1 1) ≤ (S0.1 1 2)
    · rw [if_pos c1] at h
      refine mr_icmp_ge_t (t := 48) dX7_skipBlanks_8 (by decide) c1 ?_
      exact mr_sub [] trivial rfl (hK _  h)
    · rw [if_neg c1] at h
      refine mr_icmp_ge_f (t := 48) (pc' := 11) dX7_skipBlanks_8 (by decide) rfl c1 ?_
      refine mr_aload_n (pc' := 12) dX7_skipBlanks_11 rfl rfl ?_
      refine mr_getI (pc' := 15) (ci := 7) (j := 2) dX7_skipBlanks_12 rfl rfl rfl (by decide) (by decide) rfl ?_
      refine mr_sipush (pc' := 18) (v := (400 : Int32)) dX7_skipBlanks_15 rfl (by decide) ?_
      by_cases c2 : (400 : Int32) ≤ (S0.1 1 2)
      · rw [if_pos c2] at h
        refine mr_icmp_ge_t (t := 48) dX7_skipBlanks_18 (by decide) c2 ?_
        exact mr_sub [] trivial rfl (hK _  h)
      · rw [if_neg c2] at h
        refine mr_icmp_ge_f (t := 48) (pc' := 21) dX7_skipBlanks_18 (by decide) rfl c2 ?_
        refine mr_aload_n (pc' := 22) dX7_skipBlanks_21 rfl rfl ?_
        refine mr_getR (pc' := 25) (ci := 7) (j := 0) (b := 2) hR dX7_skipBlanks_22 rfl rfl rfl (by decide) (by decide) (by decide) rfl rfl ?_
        refine mr_aload_n (pc' := 26) dX7_skipBlanks_25 rfl rfl ?_
        refine mr_getI (pc' := 29) (ci := 7) (j := 2) dX7_skipBlanks_26 rfl rfl rfl (by decide) (by decide) rfl ?_
        obtain ⟨a3, g4, h5⟩ := Option.bind_eq_some_iff.mp h
        refine mr_bald (pc' := 30) dX7_skipBlanks_29 rfl (Or.inl rfl) rfl g4 ?_
        refine mr_bipush (pc' := 32) (v := (32 : Int32)) dX7_skipBlanks_30 rfl (by decide) ?_
        by_cases c6 : a3 = (32 : Int32)
        · rw [if_pos c6] at h5
          refine mr_icmp_ne_f (t := 48) (pc' := 35) dX7_skipBlanks_32 (by decide) rfl (not_not_intro c6) ?_
          refine mr_aload_n (pc' := 36) dX7_skipBlanks_35 rfl rfl ?_
          refine mr_dup_ref (pc' := 37) dX7_skipBlanks_36 rfl ?_
          refine mr_getI (pc' := 40) (ci := 7) (j := 2) dX7_skipBlanks_37 rfl rfl rfl (by decide) (by decide) rfl ?_
          refine mr_iconst (pc' := 41) (v := (1 : Int32)) dX7_skipBlanks_40 rfl (by decide) ?_
          refine mr_iadd (pc' := 42) dX7_skipBlanks_41 rfl ?_
          obtain ⟨S7, g8, h9⟩ := Option.bind_eq_some_iff.mp h5
          refine mr_putI (pc' := 45) (ci := 7) (j := 2) dX7_skipBlanks_42 rfl rfl rfl (by decide) (by decide) rfl rfl ?_
          rw [Option.some.inj g8]
          refine mr_goto (t := 0) dX7_skipBlanks_45 (by decide) ?_
          exact mr_sub [(0, .ref 1)] ⟨rfl, trivial⟩ rfl (ih _  h9)
        · rw [if_neg c6] at h5
          refine mr_icmp_ne_t (t := 48) dX7_skipBlanks_32 (by decide) c6 ?_
          exact mr_sub [] trivial rfl (hK _  h5)
def f_X7_skipBlanks  (S : fS) : Option (fS) :=
  lp_X7_skipBlanks_0  (fun S10 => some S10) FU  S
set_option maxHeartbeats 4000000 in
set_option maxRecDepth 100000 in
theorem ok_X7_skipBlanks {X : mm_C} {RR : Nat → Nat → Option Nat} (hR : RRok RR)   {S : fS} {r : fS} (h : f_X7_skipBlanks  S = some r) : mr X 0 mY_X7_skipBlanks 0 (lv_args 0 [.ref 1]) [] (MM RR S) (none, MM RR r) := by
  unfold f_X7_skipBlanks at h
  show mr X _ _ 0 [(0, .ref 1)] [] (MM RR S) _
  refine mr_sub [(0, .ref 1)] ⟨rfl, trivial⟩ rfl ?_
  refine ok_lp_X7_skipBlanks_0 hR  (fun S10 h11 => ?_) FU _  h
  obtain rfl := Option.some.inj h11
  exact mr_return dX7_skipBlanks_48 rfl
def f_X7_byteAt (v1 : Int32) (S : fS) : Option (Int32) :=
  if v1 < (0 : Int32) then (some (-1 : Int32)) else
  (if (S.1 1 1) ≤ v1 then (some (-1 : Int32)) else
  (if (400 : Int32) ≤ v1 then (some (-1 : Int32)) else
  ((gI S 2 400 v1).bind fun a4 =>
  some a4)))
set_option maxHeartbeats 4000000 in
set_option maxRecDepth 100000 in
theorem ok_X7_byteAt {X : mm_C} {RR : Nat → Nat → Option Nat} (hR : RRok RR) {v1 : Int32}  {S : fS} {r : Int32} (h : f_X7_byteAt v1 S = some r) : mr X 0 mY_X7_byteAt 0 (lv_args 0 [.ref 1, .int v1]) [] (MM RR S) (some (.int r), MM RR S) := by
  unfold f_X7_byteAt at h
  show mr X _ _ 0 [(0, .ref 1), (1, .int v1)] [] (MM RR S) _
  refine mr_iload_n (pc' := 1) dX7_byteAt_0 rfl rfl ?_
  by_cases c1 : v1 < (0 : Int32)
  · rw [if_pos c1] at h
    refine mr_if_lt_t (t := 28) dX7_byteAt_1 (by decide) c1 ?_
    refine mr_iconst (pc' := 29) (v := (-1 : Int32)) dX7_byteAt_28 rfl (by decide) ?_
    obtain rfl := Option.some.inj h
    exact mr_ireturn dX7_byteAt_29 rfl
  · rw [if_neg c1] at h
    refine mr_if_lt_f (t := 28) (pc' := 4) dX7_byteAt_1 (by decide) rfl c1 ?_
    refine mr_iload_n (pc' := 5) dX7_byteAt_4 rfl rfl ?_
    refine mr_aload_n (pc' := 6) dX7_byteAt_5 rfl rfl ?_
    refine mr_getI (pc' := 9) (ci := 7) (j := 1) dX7_byteAt_6 rfl rfl rfl (by decide) (by decide) rfl ?_
    by_cases c2 : (S.1 1 1) ≤ v1
    · rw [if_pos c2] at h
      refine mr_icmp_ge_t (t := 28) dX7_byteAt_9 (by decide) c2 ?_
      refine mr_iconst (pc' := 29) (v := (-1 : Int32)) dX7_byteAt_28 rfl (by decide) ?_
      obtain rfl := Option.some.inj h
      exact mr_ireturn dX7_byteAt_29 rfl
    · rw [if_neg c2] at h
      refine mr_icmp_ge_f (t := 28) (pc' := 12) dX7_byteAt_9 (by decide) rfl c2 ?_
      refine mr_iload_n (pc' := 13) dX7_byteAt_12 rfl rfl ?_
      refine mr_sipush (pc' := 16) (v := (400 : Int32)) dX7_byteAt_13 rfl (by decide) ?_
      by_cases c3 : (400 : Int32) ≤ v1
      · rw [if_pos c3] at h
        refine mr_icmp_ge_t (t := 28) dX7_byteAt_16 (by decide) c3 ?_
        refine mr_iconst (pc' := 29) (v := (-1 : Int32)) dX7_byteAt_28 rfl (by decide) ?_
        obtain rfl := Option.some.inj h
        exact mr_ireturn dX7_byteAt_29 rfl
      · rw [if_neg c3] at h
        refine mr_icmp_ge_f (t := 28) (pc' := 19) dX7_byteAt_16 (by decide) rfl c3 ?_
        refine mr_aload_n (pc' := 20) dX7_byteAt_19 rfl rfl ?_
        refine mr_getR (pc' := 23) (ci := 7) (j := 0) (b := 2) hR dX7_byteAt_20 rfl rfl rfl (by decide) (by decide) (by decide) rfl rfl ?_
        refine mr_iload_n (pc' := 24) dX7_byteAt_23 rfl rfl ?_
        obtain ⟨a4, g5, h6⟩ := Option.bind_eq_some_iff.mp h
        refine mr_bald (pc' := 25) dX7_byteAt_24 rfl (Or.inl rfl) rfl g5 ?_
        refine mr_goto (t := 29) dX7_byteAt_25 (by decide) ?_
        obtain rfl := Option.some.inj h6
        exact mr_ireturn dX7_byteAt_29 rfl
def lp_X7_takeWord_11 (p1 : Nat) (p2 : Int32) (K : fS → Option (Int32 × fS)) : Nat → Int32 → fS → Option (Int32 × fS)
  | 0, _, _ => none
  | n + 1, p3, S0 =>
    if p2 ≤ p3 then (K S0) else
    ((f_X7_byteAt ((S0.1 1 2) + p3) S0).bind fun q8 =>
    (f_J0_charAt_5068e p1 p3).bind fun q11 =>
    if q8 = q11 then (lp_X7_takeWord_11 p1 p2 K n (p3 + (1 : Int32)) S0) else
    (some ((0 : Int32), S0)))
set_option maxHeartbeats 4000000 in
set_option maxRecDepth 100000 in
theorem ok_lp_X7_takeWord_11 {X : mm_C} {RR : Nat → Nat → Option Nat} (hR : RRok RR) {p1 : Nat} {p2 : Int32} (w1 : p1 < 16) {K : fS → Option (Int32 × fS)} {r : Int32 × fS} (hK : ∀ (Sk : fS), K Sk = some r → mr X 4 mY_X7_takeWord 42 [(0, .ref 1), (2, .int p2)] [] (MM RR Sk) (some (.int r.1), MM RR r.2)) : ∀ (n : Nat) (p3 : Int32) (S0 : fS), lp_X7_takeWord_11 p1 p2 K n p3 S0 = some r → mr X 4 mY_X7_takeWord 11 [(0, .ref 1), (1, .ref (mm_ext + 10 + p1)), (2, .int p2), (3, .int p3)] [] (MM RR S0) (some (.int r.1), MM RR r.2) := by
  intro n
  induction n with
  | zero => intro p3 S0 h; exact mm_no h
  | succ n ih =>
    intro p3 S0 h
    unfold lp_X7_takeWord_11 at h
    refine mr_iload_n (pc' := 12) dX7_takeWord_11 rfl rfl ?_
    refine mr_iload_n (pc' := 13) dX7_takeWord_12 rfl rfl ?_
    by_cases c7 : p2 ≤ p3
    · rw [if_pos c7] at h
      refine mr_icmp_ge_t (t := 42) dX7_takeWord_13 (by decide) c7 ?_
      exact mr_sub [(0, .ref 1), (2, .int p2)] ⟨rfl, rfl, trivial⟩ rfl (hK _  h)
    · rw [if_neg c7] at h
      refine mr_icmp_ge_f (t := 42) (pc' := 16) dX7_takeWord_13 (by decide) rfl c7 ?_
      refine mr_aload_n (pc' := 17) dX7_takeWord_16 rfl rfl ?_
      refine mr_aload_n (pc' := 18) dX7_takeWord_17 rfl rfl ?_
      refine mr_getI (pc' := 21) (ci := 7) (j := 2) dX7_takeWord_18 rfl rfl rfl (by decide) (by decide) rfl ?_
      refine mr_iload_n (pc' := 22) dX7_takeWord_21 rfl rfl ?_
      refine mr_iadd (pc' := 23) dX7_takeWord_22 rfl ?_
      obtain ⟨q8, g9, h10⟩ := Option.bind_eq_some_iff.mp h
      refine mr_cv (pc' := 26) (a := 1) (d1 := 0) dX7_takeWord_23 rfl rfl rfl rfl rfl rfl (by decide) rfl (by decide) (ok_X7_byteAt hR  g9) ?_
      show mr X _ _ 26 _ [.int q8] (MM RR S0) _
      refine mr_aload_n (pc' := 27) dX7_takeWord_26 rfl rfl ?_
      refine mr_iload_n (pc' := 28) dX7_takeWord_27 rfl rfl ?_
      obtain ⟨q11, g12, h13⟩ := Option.bind_eq_some_iff.mp h10
      refine mr_cvS (pc' := 31) (w := p1) (d1 := 3) dX7_takeWord_28 rfl rfl rfl rfl rfl rfl rfl w1 (by decide) (ok_J0_charAt_5068e w1 g12) ?_
      by_cases c14 : q8 = q11
      · rw [if_pos c14] at h13
        refine mr_icmp_eq_t (t := 36) dX7_takeWord_31 (by decide) c14 ?_
        refine mr_iinc (pc' := 39) (x' := (p3 + (1 : Int32))) (lv' := [(3, .int (p3 + (1 : Int32))), (0, .ref 1), (1, .ref (mm_ext + 10 + p1)), (2, .int p2)]) dX7_takeWord_36 rfl (by decide) rfl rfl rfl ?_
        refine mr_goto (t := 11) dX7_takeWord_39 (by decide) ?_
        exact mr_sub [(0, .ref 1), (1, .ref (mm_ext + 10 + p1)), (2, .int p2), (3, .int (p3 + (1 : Int32)))] ⟨rfl, rfl, rfl, rfl, trivial⟩ rfl (ih _ _  h13)
      · rw [if_neg c14] at h13
        refine mr_icmp_eq_f (t := 36) (pc' := 34) dX7_takeWord_31 (by decide) rfl c14 ?_
        refine mr_iconst (pc' := 35) (v := (0 : Int32)) dX7_takeWord_34 rfl (by decide) ?_
        obtain rfl := Option.some.inj h13
        exact mr_zreturn dX7_takeWord_35 rfl (by decide)
def f_X7_takeWord (v1 : Nat) (S : fS) : Option (Int32 × fS) :=
  (f_X7_skipBlanks  S).bind fun q1 =>
  (f_J0_length_8abf5 v1).bind fun q4 =>
  lp_X7_takeWord_11 v1 q4 (fun S15 => (f_X7_byteAt ((S15.1 1 2) + q4) S15).bind fun q17 =>
  if q17 < (97 : Int32) then ((some (pI S15 1 3 (S15.1 1 2))).bind fun S21 =>
  (some (pI S21 1 2 ((S21.1 1 2) + q4))).bind fun S24 =>
  some ((1 : Int32), S24)) else
  (if (122 : Int32) < q17 then ((some (pI S15 1 3 (S15.1 1 2))).bind fun S28 =>
  (some (pI S28 1 2 ((S28.1 1 2) + q4))).bind fun S31 =>
  some ((1 : Int32), S31)) else
  (some ((0 : Int32), S15)))) FU (0 : Int32) q1
set_option maxHeartbeats 4000000 in
set_option maxRecDepth 100000 in
theorem ok_X7_takeWord {X : mm_C} {RR : Nat → Nat → Option Nat} (hR : RRok RR) {v1 : Nat} (w1 : v1 < 16) {S : fS} {r : Int32 × fS} (h : f_X7_takeWord v1 S = some r) : mr X 4 mY_X7_takeWord 0 (lv_args 0 [.ref 1, .ref (mm_ext + 10 + v1)]) [] (MM RR S) (some (.int r.1), MM RR r.2) := by
  unfold f_X7_takeWord at h
  show mr X _ _ 0 [(0, .ref 1), (1, .ref (mm_ext + 10 + v1))] [] (MM RR S) _
  refine mr_aload_n (pc' := 1) dX7_takeWord_0 rfl rfl ?_
  obtain ⟨q1, g2, h3⟩ := Option.bind_eq_some_iff.mp h
  refine mr_cv (pc' := 4) (a := 1) (d1 := 0) dX7_takeWord_1 rfl rfl rfl rfl rfl rfl (by decide) rfl (by decide) (ok_X7_skipBlanks hR  g2) ?_
  show mr X _ _ 4 _ [] (MM RR q1) _
  refine mr_aload_n (pc' := 5) dX7_takeWord_4 rfl rfl ?_
  obtain ⟨q4, g5, h6⟩ := Option.bind_eq_some_iff.mp h3
  refine mr_cvS (pc' := 8) (w := v1) (d1 := 1) dX7_takeWord_5 rfl rfl rfl rfl rfl rfl rfl w1 (by decide) (ok_J0_length_8abf5 w1 g5) ?_
  refine mr_istore_n (pc' := 9) (lv' := [(2, .int q4), (0, .ref 1), (1, .ref (mm_ext + 10 + v1))]) dX7_takeWord_8 rfl (by decide) rfl ?_
  refine mr_iconst (pc' := 10) (v := (0 : Int32)) dX7_takeWord_9 rfl (by decide) ?_
  refine mr_istore_n (pc' := 11) (lv' := [(3, .int (0 : Int32)), (2, .int q4), (0, .ref 1), (1, .ref (mm_ext + 10 + v1))]) dX7_takeWord_10 rfl (by decide) rfl ?_
  refine mr_sub [(0, .ref 1), (1, .ref (mm_ext + 10 + v1)), (2, .int q4), (3, .int (0 : Int32))] ⟨rfl, rfl, rfl, rfl, trivial⟩ rfl ?_
  refine ok_lp_X7_takeWord_11 hR w1 (fun S15 h16 => ?_) FU _ _  h6
  refine mr_aload_n (pc' := 43) dX7_takeWord_42 rfl rfl ?_
  refine mr_aload_n (pc' := 44) dX7_takeWord_43 rfl rfl ?_
  refine mr_getI (pc' := 47) (ci := 7) (j := 2) dX7_takeWord_44 rfl rfl rfl (by decide) (by decide) rfl ?_
  refine mr_iload_n (pc' := 48) dX7_takeWord_47 rfl rfl ?_
  refine mr_iadd (pc' := 49) dX7_takeWord_48 rfl ?_
  obtain ⟨q17, g18, h19⟩ := Option.bind_eq_some_iff.mp h16
  refine mr_cv (pc' := 52) (a := 1) (d1 := 0) dX7_takeWord_49 rfl rfl rfl rfl rfl rfl (by decide) rfl (by decide) (ok_X7_byteAt hR  g18) ?_
  show mr X _ _ 52 _ [.int q17] (MM RR S15) _
  refine mr_istore_n (pc' := 53) (lv' := [(3, .int q17), (0, .ref 1), (2, .int q4)]) dX7_takeWord_52 rfl (by decide) rfl ?_
  refine mr_iload_n (pc' := 54) dX7_takeWord_53 rfl rfl ?_
  refine mr_bipush (pc' := 56) (v := (97 : Int32)) dX7_takeWord_54 rfl (by decide) ?_
  by_cases c20 : q17 < (97 : Int32)
  · rw [if_pos c20] at h19
    refine mr_icmp_lt_t (t := 67) dX7_takeWord_56 (by decide) c20 ?_
    refine mr_aload_n (pc' := 68) dX7_takeWord_67 rfl rfl ?_
    refine mr_aload_n (pc' := 69) dX7_takeWord_68 rfl rfl ?_
    refine mr_getI (pc' := 72) (ci := 7) (j := 2) dX7_takeWord_69 rfl rfl rfl (by decide) (by decide) rfl ?_
    obtain ⟨S21, g22, h23⟩ := Option.bind_eq_some_iff.mp h19
    refine mr_putI (pc' := 75) (ci := 7) (j := 3) dX7_takeWord_72 rfl rfl rfl (by decide) (by decide) rfl rfl ?_
    rw [Option.some.inj g22]
    refine mr_aload_n (pc' := 76) dX7_takeWord_75 rfl rfl ?_
    refine mr_dup_ref (pc' := 77) dX7_takeWord_76 rfl ?_
    refine mr_getI (pc' := 80) (ci := 7) (j := 2) dX7_takeWord_77 rfl rfl rfl (by decide) (by decide) rfl ?_
    refine mr_iload_n (pc' := 81) dX7_takeWord_80 rfl rfl ?_
    refine mr_iadd (pc' := 82) dX7_takeWord_81 rfl ?_
    obtain ⟨S24, g25, h26⟩ := Option.bind_eq_some_iff.mp h23
    refine mr_putI (pc' := 85) (ci := 7) (j := 2) dX7_takeWord_82 rfl rfl rfl (by decide) (by decide) rfl rfl ?_
    rw [Option.some.inj g25]
    refine mr_iconst (pc' := 86) (v := (1 : Int32)) dX7_takeWord_85 rfl (by decide) ?_
    obtain rfl := Option.some.inj h26
    exact mr_zreturn dX7_takeWord_86 rfl (by decide)
  · rw [if_neg c20] at h19
    refine mr_icmp_lt_f (t := 67) (pc' := 59) dX7_takeWord_56 (by decide) rfl c20 ?_
    refine mr_iload_n (pc' := 60) dX7_takeWord_59 rfl rfl ?_
    refine mr_bipush (pc' := 62) (v := (122 : Int32)) dX7_takeWord_60 rfl (by decide) ?_
    by_cases c27 : (122 : Int32) < q17
    · rw [if_pos c27] at h19
      refine mr_icmp_gt_t (t := 67) dX7_takeWord_62 (by decide) c27 ?_
      refine mr_aload_n (pc' := 68) dX7_takeWord_67 rfl rfl ?_
      refine mr_aload_n (pc' := 69) dX7_takeWord_68 rfl rfl ?_
      refine mr_getI (pc' := 72) (ci := 7) (j := 2) dX7_takeWord_69 rfl rfl rfl (by decide) (by decide) rfl ?_
      obtain ⟨S28, g29, h30⟩ := Option.bind_eq_some_iff.mp h19
      refine mr_putI (pc' := 75) (ci := 7) (j := 3) dX7_takeWord_72 rfl rfl rfl (by decide) (by decide) rfl rfl ?_
      rw [Option.some.inj g29]
      refine mr_aload_n (pc' := 76) dX7_takeWord_75 rfl rfl ?_
      refine mr_dup_ref (pc' := 77) dX7_takeWord_76 rfl ?_
      refine mr_getI (pc' := 80) (ci := 7) (j := 2) dX7_takeWord_77 rfl rfl rfl (by decide) (by decide) rfl ?_
      refine mr_iload_n (pc' := 81) dX7_takeWord_80 rfl rfl ?_
      refine mr_iadd (pc' := 82) dX7_takeWord_81 rfl ?_
      obtain ⟨S31, g32, h33⟩ := Option.bind_eq_some_iff.mp h30
      refine mr_putI (pc' := 85) (ci := 7) (j := 2) dX7_takeWord_82 rfl rfl rfl (by decide) (by decide) rfl rfl ?_
      rw [Option.some.inj g32]
      refine mr_iconst (pc' := 86) (v := (1 : Int32)) dX7_takeWord_85 rfl (by decide) ?_
      obtain rfl := Option.some.inj h33
      exact mr_zreturn dX7_takeWord_86 rfl (by decide)
    · rw [if_neg c27] at h19
      refine mr_icmp_gt_f (t := 67) (pc' := 65) dX7_takeWord_62 (by decide) rfl c27 ?_
      refine mr_iconst (pc' := 66) (v := (0 : Int32)) dX7_takeWord_65 rfl (by decide) ?_
      obtain rfl := Option.some.inj h19
      exact mr_zreturn dX7_takeWord_66 rfl (by decide)
def f_X7_fail (v1 : Int32) (v2 : Int32) (S : fS) : Option (Int32 × fS) :=
  (some (pI S 1 4 (((1 : Int32) + ((8 : Int32) * v1)) + v2))).bind fun S1 =>
  some ((0 : Int32), S1)
set_option maxHeartbeats 4000000 in
set_option maxRecDepth 100000 in
theorem ok_X7_fail {X : mm_C} {RR : Nat → Nat → Option Nat} (hR : RRok RR) {v1 : Int32} {v2 : Int32}  {S : fS} {r : Int32 × fS} (h : f_X7_fail v1 v2 S = some r) : mr X 0 mY_X7_fail 0 (lv_args 0 [.ref 1, .int v1, .int v2]) [] (MM RR S) (some (.int r.1), MM RR r.2) := by
  unfold f_X7_fail at h
  show mr X _ _ 0 [(0, .ref 1), (1, .int v1), (2, .int v2)] [] (MM RR S) _
  refine mr_aload_n (pc' := 1) dX7_fail_0 rfl rfl ?_
  refine mr_iconst (pc' := 2) (v := (1 : Int32)) dX7_fail_1 rfl (by decide) ?_
  refine mr_bipush (pc' := 4) (v := (8 : Int32)) dX7_fail_2 rfl (by decide) ?_
  refine mr_iload_n (pc' := 5) dX7_fail_4 rfl rfl ?_
  refine mr_imul (pc' := 6) dX7_fail_5 rfl ?_
  refine mr_iadd (pc' := 7) dX7_fail_6 rfl ?_
  refine mr_iload_n (pc' := 8) dX7_fail_7 rfl rfl ?_
  refine mr_iadd (pc' := 9) dX7_fail_8 rfl ?_
  obtain ⟨S1, g2, h3⟩ := Option.bind_eq_some_iff.mp h
  refine mr_putI (pc' := 12) (ci := 7) (j := 4) dX7_fail_9 rfl rfl rfl (by decide) (by decide) rfl rfl ?_
  rw [Option.some.inj g2]
  refine mr_iconst (pc' := 13) (v := (0 : Int32)) dX7_fail_12 rfl (by decide) ?_
  obtain rfl := Option.some.inj h3
  exact mr_zreturn dX7_fail_13 rfl (by decide)
def f_X7_isDigitAt (v1 : Int32) (S : fS) : Option (Int32) :=
  (f_X7_byteAt v1 S).bind fun q1 =>
  if q1 < (48 : Int32) then (some (0 : Int32)) else
  (if (57 : Int32) < q1 then (some (0 : Int32)) else
  (some (1 : Int32)))
set_option maxHeartbeats 4000000 in
set_option maxRecDepth 100000 in
theorem ok_X7_isDigitAt {X : mm_C} {RR : Nat → Nat → Option Nat} (hR : RRok RR) {v1 : Int32}  {S : fS} {r : Int32} (h : f_X7_isDigitAt v1 S = some r) : mr X 1 mY_X7_isDigitAt 0 (lv_args 0 [.ref 1, .int v1]) [] (MM RR S) (some (.int r), MM RR S) := by
  unfold f_X7_isDigitAt at h
  show mr X _ _ 0 [(0, .ref 1), (1, .int v1)] [] (MM RR S) _
  refine mr_aload_n (pc' := 1) dX7_isDigitAt_0 rfl rfl ?_
  refine mr_iload_n (pc' := 2) dX7_isDigitAt_1 rfl rfl ?_
  obtain ⟨q1, g2, h3⟩ := Option.bind_eq_some_iff.mp h
  refine mr_cv (pc' := 5) (a := 1) (d1 := 0) dX7_isDigitAt_2 rfl rfl rfl rfl rfl rfl (by decide) rfl (by decide) (ok_X7_byteAt hR  g2) ?_
  show mr X _ _ 5 _ [.int q1] (MM RR S) _
  refine mr_istore_n (pc' := 6) (lv' := [(2, .int q1), (0, .ref 1), (1, .int v1)]) dX7_isDigitAt_5 rfl (by decide) rfl ?_
  refine mr_iload_n (pc' := 7) dX7_isDigitAt_6 rfl rfl ?_
  refine mr_bipush (pc' := 9) (v := (48 : Int32)) dX7_isDigitAt_7 rfl (by decide) ?_
  by_cases c4 : q1 < (48 : Int32)
  · rw [if_pos c4] at h3
    refine mr_icmp_lt_t (t := 22) dX7_isDigitAt_9 (by decide) c4 ?_
    refine mr_iconst (pc' := 23) (v := (0 : Int32)) dX7_isDigitAt_22 rfl (by decide) ?_
    obtain rfl := Option.some.inj h3
    exact mr_zreturn dX7_isDigitAt_23 rfl (by decide)
  · rw [if_neg c4] at h3
    refine mr_icmp_lt_f (t := 22) (pc' := 12) dX7_isDigitAt_9 (by decide) rfl c4 ?_
    refine mr_iload_n (pc' := 13) dX7_isDigitAt_12 rfl rfl ?_
    refine mr_bipush (pc' := 15) (v := (57 : Int32)) dX7_isDigitAt_13 rfl (by decide) ?_
    by_cases c5 : (57 : Int32) < q1
    · rw [if_pos c5] at h3
      refine mr_icmp_gt_t (t := 22) dX7_isDigitAt_15 (by decide) c5 ?_
      refine mr_iconst (pc' := 23) (v := (0 : Int32)) dX7_isDigitAt_22 rfl (by decide) ?_
      obtain rfl := Option.some.inj h3
      exact mr_zreturn dX7_isDigitAt_23 rfl (by decide)
    · rw [if_neg c5] at h3
      refine mr_icmp_gt_f (t := 22) (pc' := 18) dX7_isDigitAt_15 (by decide) rfl c5 ?_
      refine mr_iconst (pc' := 19) (v := (1 : Int32)) dX7_isDigitAt_18 rfl (by decide) ?_
      refine mr_goto (t := 23) dX7_isDigitAt_19 (by decide) ?_
      obtain rfl := Option.some.inj h3
      exact mr_zreturn dX7_isDigitAt_23 rfl (by decide)
def lp_X7_takeNumber_14 (p1 : Int32) (p2 : Int32) (K : Int32 → fS → Option (Int32 × fS)) : Nat → Int32 → fS → Option (Int32 × fS)
  | 0, _, _ => none
  | n + 1, p3, S0 =>
    if (S0.1 1 1) ≤ (S0.1 1 2) then (K p3 S0) else
    ((f_X7_isDigitAt (S0.1 1 2) S0).bind fun q8 =>
    if q8 = (0 : Int32) then (K p3 S0) else
    (if (5 : Int32) ≤ ((S0.1 1 2) - (S0.1 1 3)) then ((some (pI S0 1 2 ((S0.1 1 2) + (1 : Int32)))).bind fun S13 =>
    lp_X7_takeNumber_14 p1 p2 K n p3 S13) else
    ((f_X7_byteAt (S0.1 1 2) S0).bind fun q16 =>
    (some (pI S0 1 2 ((S0.1 1 2) + (1 : Int32)))).bind fun S19 =>
    lp_X7_takeNumber_14 p1 p2 K n (((p3 * (10 : Int32)) + q16) - (48 : Int32)) S19)))
set_option maxHeartbeats 4000000 in
set_option maxRecDepth 100000 in
theorem ok_lp_X7_takeNumber_14 {X : mm_C} {RR : Nat → Nat → Option Nat} (hR : RRok RR) {p1 : Int32} {p2 : Int32}  {K : Int32 → fS → Option (Int32 × fS)} {r : Int32 × fS} (hK : ∀ (k3 : Int32) (Sk : fS), K k3 Sk = some r → mr X 2 mY_X7_takeNumber 79 [(0, .ref 1), (1, .int p1), (2, .int p2), (3, .int k3)] [] (MM RR Sk) (some (.int r.1), MM RR r.2)) : ∀ (n : Nat) (p3 : Int32) (S0 : fS), lp_X7_takeNumber_14 p1 p2 K n p3 S0 = some r → mr X 2 mY_X7_takeNumber 14 [(0, .ref 1), (1, .int p1), (2, .int p2), (3, .int p3)] [] (MM RR S0) (some (.int r.1), MM RR r.2) := by
  intro n
  induction n with
  | zero => intro p3 S0 h; exact mm_no h
  | succ n ih =>
    intro p3 S0 h
    unfold lp_X7_takeNumber_14 at h
    refine mr_aload_n (pc' := 15) dX7_takeNumber_14 rfl rfl ?_
    refine mr_getI (pc' := 18) (ci := 7) (j := 2) dX7_takeNumber_15 rfl rfl rfl (by decide) (by decide) rfl ?_
    refine mr_aload_n (pc' := 19) dX7_takeNumber_18 rfl rfl ?_
    refine mr_getI (pc' := 22) (ci := 7) (j := 1) dX7_takeNumber_19 rfl rfl rfl (by decide) (by decide) rfl ?_
    by_cases c7 : (S0.1 1 1) ≤ (S0.1 1 2)
    · rw [if_pos c7] at h
      refine mr_icmp_ge_t (t := 79) dX7_takeNumber_22 (by decide) c7 ?_
      exact mr_sub [(0, .ref 1), (1, .int p1), (2, .int p2), (3, .int p3)] ⟨rfl, rfl, rfl, rfl, trivial⟩ rfl (hK _ _  h)
    · rw [if_neg c7] at h
      refine mr_icmp_ge_f (t := 79) (pc' := 25) dX7_takeNumber_22 (by decide) rfl c7 ?_
      refine mr_aload_n (pc' := 26) dX7_takeNumber_25 rfl rfl ?_
      refine mr_aload_n (pc' := 27) dX7_takeNumber_26 rfl rfl ?_
      refine mr_getI (pc' := 30) (ci := 7) (j := 2) dX7_takeNumber_27 rfl rfl rfl (by decide) (by decide) rfl ?_
      obtain ⟨q8, g9, h10⟩ := Option.bind_eq_some_iff.mp h
      refine mr_cv (pc' := 33) (a := 1) (d1 := 1) dX7_takeNumber_30 rfl rfl rfl rfl rfl rfl (by decide) rfl (by decide) (ok_X7_isDigitAt hR  g9) ?_
      show mr X _ _ 33 _ [.int q8] (MM RR S0) _
      by_cases c11 : q8 = (0 : Int32)
      · rw [if_pos c11] at h10
        refine mr_if_eq_t (t := 79) dX7_takeNumber_33 (by decide) c11 ?_
        exact mr_sub [(0, .ref 1), (1, .int p1), (2, .int p2), (3, .int p3)] ⟨rfl, rfl, rfl, rfl, trivial⟩ rfl (hK _ _  h10)
      · rw [if_neg c11] at h10
        refine mr_if_eq_f (t := 79) (pc' := 36) dX7_takeNumber_33 (by decide) rfl c11 ?_
        refine mr_aload_n (pc' := 37) dX7_takeNumber_36 rfl rfl ?_
        refine mr_getI (pc' := 40) (ci := 7) (j := 2) dX7_takeNumber_37 rfl rfl rfl (by decide) (by decide) rfl ?_
        refine mr_aload_n (pc' := 41) dX7_takeNumber_40 rfl rfl ?_
        refine mr_getI (pc' := 44) (ci := 7) (j := 3) dX7_takeNumber_41 rfl rfl rfl (by decide) (by decide) rfl ?_
        refine mr_isub (pc' := 45) dX7_takeNumber_44 rfl ?_
        refine mr_iconst (pc' := 46) (v := (5 : Int32)) dX7_takeNumber_45 rfl (by decide) ?_
        by_cases c12 : (5 : Int32) ≤ ((S0.1 1 2) - (S0.1 1 3))
        · rw [if_pos c12] at h10
          refine mr_icmp_ge_t (t := 66) dX7_takeNumber_46 (by decide) c12 ?_
          refine mr_aload_n (pc' := 67) dX7_takeNumber_66 rfl rfl ?_
          refine mr_dup_ref (pc' := 68) dX7_takeNumber_67 rfl ?_
          refine mr_getI (pc' := 71) (ci := 7) (j := 2) dX7_takeNumber_68 rfl rfl rfl (by decide) (by decide) rfl ?_
          refine mr_iconst (pc' := 72) (v := (1 : Int32)) dX7_takeNumber_71 rfl (by decide) ?_
          refine mr_iadd (pc' := 73) dX7_takeNumber_72 rfl ?_
          obtain ⟨S13, g14, h15⟩ := Option.bind_eq_some_iff.mp h10
          refine mr_putI (pc' := 76) (ci := 7) (j := 2) dX7_takeNumber_73 rfl rfl rfl (by decide) (by decide) rfl rfl ?_
          rw [Option.some.inj g14]
          refine mr_goto (t := 14) dX7_takeNumber_76 (by decide) ?_
          exact mr_sub [(0, .ref 1), (1, .int p1), (2, .int p2), (3, .int p3)] ⟨rfl, rfl, rfl, rfl, trivial⟩ rfl (ih _ _  h15)
        · rw [if_neg c12] at h10
          refine mr_icmp_ge_f (t := 66) (pc' := 49) dX7_takeNumber_46 (by decide) rfl c12 ?_
          refine mr_iload_n (pc' := 50) dX7_takeNumber_49 rfl rfl ?_
          refine mr_bipush (pc' := 52) (v := (10 : Int32)) dX7_takeNumber_50 rfl (by decide) ?_
          refine mr_imul (pc' := 53) dX7_takeNumber_52 rfl ?_
          refine mr_aload_n (pc' := 54) dX7_takeNumber_53 rfl rfl ?_
          refine mr_aload_n (pc' := 55) dX7_takeNumber_54 rfl rfl ?_
          refine mr_getI (pc' := 58) (ci := 7) (j := 2) dX7_takeNumber_55 rfl rfl rfl (by decide) (by decide) rfl ?_
          obtain ⟨q16, g17, h18⟩ := Option.bind_eq_some_iff.mp h10
          refine mr_cv (pc' := 61) (a := 1) (d1 := 0) dX7_takeNumber_58 rfl rfl rfl rfl rfl rfl (by decide) rfl (by decide) (ok_X7_byteAt hR  g17) ?_
          show mr X _ _ 61 _ [.int q16, .int (p3 * (10 : Int32))] (MM RR S0) _
          refine mr_iadd (pc' := 62) dX7_takeNumber_61 rfl ?_
          refine mr_bipush (pc' := 64) (v := (48 : Int32)) dX7_takeNumber_62 rfl (by decide) ?_
          refine mr_isub (pc' := 65) dX7_takeNumber_64 rfl ?_
          refine mr_istore_n (pc' := 66) (lv' := [(3, .int (((p3 * (10 : Int32)) + q16) - (48 : Int32))), (0, .ref 1), (1, .int p1), (2, .int p2)]) dX7_takeNumber_65 rfl (by decide) rfl ?_
          refine mr_aload_n (pc' := 67) dX7_takeNumber_66 rfl rfl ?_
          refine mr_dup_ref (pc' := 68) dX7_takeNumber_67 rfl ?_
          refine mr_getI (pc' := 71) (ci := 7) (j := 2) dX7_takeNumber_68 rfl rfl rfl (by decide) (by decide) rfl ?_
          refine mr_iconst (pc' := 72) (v := (1 : Int32)) dX7_takeNumber_71 rfl (by decide) ?_
          refine mr_iadd (pc' := 73) dX7_takeNumber_72 rfl ?_
          obtain ⟨S19, g20, h21⟩ := Option.bind_eq_some_iff.mp h18
          refine mr_putI (pc' := 76) (ci := 7) (j := 2) dX7_takeNumber_73 rfl rfl rfl (by decide) (by decide) rfl rfl ?_
          rw [Option.some.inj g20]
          refine mr_goto (t := 14) dX7_takeNumber_76 (by decide) ?_
          exact mr_sub [(0, .ref 1), (1, .int p1), (2, .int p2), (3, .int (((p3 * (10 : Int32)) + q16) - (48 : Int32)))] ⟨rfl, rfl, rfl, rfl, trivial⟩ rfl (ih _ _  h21)
def f_X7_takeNumber (v1 : Int32) (v2 : Int32) (S : fS) : Option (Int32 × fS) :=
  (f_X7_skipBlanks  S).bind fun q1 =>
  (some (pI q1 1 3 (q1.1 1 2))).bind fun S4 =>
  lp_X7_takeNumber_14 v1 v2 (fun u22 S23 => if (S23.1 1 2) = (S23.1 1 3) then ((f_X7_fail (S23.1 1 3) (0 : Int32) S23).bind fun q37 =>
  some ((-1 : Int32), q37.2)) else
  (if (5 : Int32) < ((S23.1 1 2) - (S23.1 1 3)) then ((f_X7_fail (S23.1 1 3) (1 : Int32) S23).bind fun q27 =>
  some ((-1 : Int32), q27.2)) else
  ((f_X10_isFrom u22 v1 v2 S23).bind fun q30 =>
  if q30 = (0 : Int32) then ((f_X7_fail (S23.1 1 3) (1 : Int32) S23).bind fun q34 =>
  some ((-1 : Int32), q34.2)) else
  (some (u22, S23))))) FU (0 : Int32) S4
set_option maxHeartbeats 4000000 in
set_option maxRecDepth 100000 in
theorem ok_X7_takeNumber {X : mm_C} {RR : Nat → Nat → Option Nat} (hR : RRok RR) {v1 : Int32} {v2 : Int32}  {S : fS} {r : Int32 × fS} (h : f_X7_takeNumber v1 v2 S = some r) : mr X 2 mY_X7_takeNumber 0 (lv_args 0 [.ref 1, .int v1, .int v2]) [] (MM RR S) (some (.int r.1), MM RR r.2) := by
  unfold f_X7_takeNumber at h
  show mr X _ _ 0 [(0, .ref 1), (1, .int v1), (2, .int v2)] [] (MM RR S) _
  refine mr_aload_n (pc' := 1) dX7_takeNumber_0 rfl rfl ?_
  obtain ⟨q1, g2, h3⟩ := Option.bind_eq_some_iff.mp h
  refine mr_cv (pc' := 4) (a := 1) (d1 := 0) dX7_takeNumber_1 rfl rfl rfl rfl rfl rfl (by decide) rfl (by decide) (ok_X7_skipBlanks hR  g2) ?_
  show mr X _ _ 4 _ [] (MM RR q1) _
  refine mr_aload_n (pc' := 5) dX7_takeNumber_4 rfl rfl ?_
  refine mr_aload_n (pc' := 6) dX7_takeNumber_5 rfl rfl ?_
  refine mr_getI (pc' := 9) (ci := 7) (j := 2) dX7_takeNumber_6 rfl rfl rfl (by decide) (by decide) rfl ?_
  obtain ⟨S4, g5, h6⟩ := Option.bind_eq_some_iff.mp h3
  refine mr_putI (pc' := 12) (ci := 7) (j := 3) dX7_takeNumber_9 rfl rfl rfl (by decide) (by decide) rfl rfl ?_
  rw [Option.some.inj g5]
  refine mr_iconst (pc' := 13) (v := (0 : Int32)) dX7_takeNumber_12 rfl (by decide) ?_
  refine mr_istore_n (pc' := 14) (lv' := [(3, .int (0 : Int32)), (0, .ref 1), (1, .int v1), (2, .int v2)]) dX7_takeNumber_13 rfl (by decide) rfl ?_
  refine mr_sub [(0, .ref 1), (1, .int v1), (2, .int v2), (3, .int (0 : Int32))] ⟨rfl, rfl, rfl, rfl, trivial⟩ rfl ?_
  refine ok_lp_X7_takeNumber_14 hR  (fun u22 S23 h24 => ?_) FU _ _  h6
  refine mr_aload_n (pc' := 80) dX7_takeNumber_79 rfl rfl ?_
  refine mr_getI (pc' := 83) (ci := 7) (j := 2) dX7_takeNumber_80 rfl rfl rfl (by decide) (by decide) rfl ?_
  refine mr_aload_n (pc' := 84) dX7_takeNumber_83 rfl rfl ?_
  refine mr_getI (pc' := 87) (ci := 7) (j := 3) dX7_takeNumber_84 rfl rfl rfl (by decide) (by decide) rfl ?_
  by_cases c25 : (S23.1 1 2) = (S23.1 1 3)
  · rw [if_pos c25] at h24
    refine mr_icmp_ne_f (t := 102) (pc' := 90) dX7_takeNumber_87 (by decide) rfl (not_not_intro c25) ?_
    refine mr_aload_n (pc' := 91) dX7_takeNumber_90 rfl rfl ?_
    refine mr_aload_n (pc' := 92) dX7_takeNumber_91 rfl rfl ?_
    refine mr_getI (pc' := 95) (ci := 7) (j := 3) dX7_takeNumber_92 rfl rfl rfl (by decide) (by decide) rfl ?_
    refine mr_iconst (pc' := 96) (v := (0 : Int32)) dX7_takeNumber_95 rfl (by decide) ?_
    obtain ⟨q37, g38, h39⟩ := Option.bind_eq_some_iff.mp h24
    refine mr_cv (pc' := 99) (a := 1) (d1 := 0) dX7_takeNumber_96 rfl rfl rfl rfl rfl rfl (by decide) rfl (by decide) (ok_X7_fail hR  g38) ?_
    show mr X _ _ 99 _ [.int q37.1] (MM RR q37.2) _
    refine mr_pop_int (pc' := 100) dX7_takeNumber_99 rfl ?_
    refine mr_iconst (pc' := 101) (v := (-1 : Int32)) dX7_takeNumber_100 rfl (by decide) ?_
    obtain rfl := Option.some.inj h39
    exact mr_ireturn dX7_takeNumber_101 rfl
  · rw [if_neg c25] at h24
    refine mr_icmp_ne_t (t := 102) dX7_takeNumber_87 (by decide) c25 ?_
    refine mr_aload_n (pc' := 103) dX7_takeNumber_102 rfl rfl ?_
    refine mr_getI (pc' := 106) (ci := 7) (j := 2) dX7_takeNumber_103 rfl rfl rfl (by decide) (by decide) rfl ?_
    refine mr_aload_n (pc' := 107) dX7_takeNumber_106 rfl rfl ?_
    refine mr_getI (pc' := 110) (ci := 7) (j := 3) dX7_takeNumber_107 rfl rfl rfl (by decide) (by decide) rfl ?_
    refine mr_isub (pc' := 111) dX7_takeNumber_110 rfl ?_
    refine mr_iconst (pc' := 112) (v := (5 : Int32)) dX7_takeNumber_111 rfl (by decide) ?_
    by_cases c26 : (5 : Int32) < ((S23.1 1 2) - (S23.1 1 3))
    · rw [if_pos c26] at h24
      refine mr_icmp_gt_t (t := 124) dX7_takeNumber_112 (by decide) c26 ?_
      refine mr_aload_n (pc' := 125) dX7_takeNumber_124 rfl rfl ?_
      refine mr_aload_n (pc' := 126) dX7_takeNumber_125 rfl rfl ?_
      refine mr_getI (pc' := 129) (ci := 7) (j := 3) dX7_takeNumber_126 rfl rfl rfl (by decide) (by decide) rfl ?_
      refine mr_iconst (pc' := 130) (v := (1 : Int32)) dX7_takeNumber_129 rfl (by decide) ?_
      obtain ⟨q27, g28, h29⟩ := Option.bind_eq_some_iff.mp h24
      refine mr_cv (pc' := 133) (a := 1) (d1 := 0) dX7_takeNumber_130 rfl rfl rfl rfl rfl rfl (by decide) rfl (by decide) (ok_X7_fail hR  g28) ?_
      show mr X _ _ 133 _ [.int q27.1] (MM RR q27.2) _
      refine mr_pop_int (pc' := 134) dX7_takeNumber_133 rfl ?_
      refine mr_iconst (pc' := 135) (v := (-1 : Int32)) dX7_takeNumber_134 rfl (by decide) ?_
      obtain rfl := Option.some.inj h29
      exact mr_ireturn dX7_takeNumber_135 rfl
    · rw [if_neg c26] at h24
      refine mr_icmp_gt_f (t := 124) (pc' := 115) dX7_takeNumber_112 (by decide) rfl c26 ?_
      refine mr_iload_n (pc' := 116) dX7_takeNumber_115 rfl rfl ?_
      refine mr_iload_n (pc' := 117) dX7_takeNumber_116 rfl rfl ?_
      refine mr_iload_n (pc' := 118) dX7_takeNumber_117 rfl rfl ?_
      obtain ⟨q30, g31, h32⟩ := Option.bind_eq_some_iff.mp h24
      refine mr_cs (pc' := 121) (d1 := 0) dX7_takeNumber_118 rfl rfl rfl rfl (by decide) (Nat.le_of_ble_eq_true rfl) rfl rfl rfl (by decide) (ok_X10_isFrom hR  g31) ?_
      show mr X _ _ 121 _ [.int q30] (MM RR S23) _
      by_cases c33 : q30 = (0 : Int32)
      · rw [if_pos c33] at h32
        refine mr_if_ne_f (t := 136) (pc' := 124) dX7_takeNumber_121 (by decide) rfl (not_not_intro c33) ?_
        refine mr_aload_n (pc' := 125) dX7_takeNumber_124 rfl rfl ?_
        refine mr_aload_n (pc' := 126) dX7_takeNumber_125 rfl rfl ?_
        refine mr_getI (pc' := 129) (ci := 7) (j := 3) dX7_takeNumber_126 rfl rfl rfl (by decide) (by decide) rfl ?_
        refine mr_iconst (pc' := 130) (v := (1 : Int32)) dX7_takeNumber_129 rfl (by decide) ?_
        obtain ⟨q34, g35, h36⟩ := Option.bind_eq_some_iff.mp h32
        refine mr_cv (pc' := 133) (a := 1) (d1 := 0) dX7_takeNumber_130 rfl rfl rfl rfl rfl rfl (by decide) rfl (by decide) (ok_X7_fail hR  g35) ?_
        show mr X _ _ 133 _ [.int q34.1] (MM RR q34.2) _
        refine mr_pop_int (pc' := 134) dX7_takeNumber_133 rfl ?_
        refine mr_iconst (pc' := 135) (v := (-1 : Int32)) dX7_takeNumber_134 rfl (by decide) ?_
        obtain rfl := Option.some.inj h36
        exact mr_ireturn dX7_takeNumber_135 rfl
      · rw [if_neg c33] at h32
        refine mr_if_ne_t (t := 136) dX7_takeNumber_121 (by decide) c33 ?_
        refine mr_iload_n (pc' := 137) dX7_takeNumber_136 rfl rfl ?_
        obtain rfl := Option.some.inj h32
        exact mr_ireturn dX7_takeNumber_137 rfl
def f_X9_readPace  (S : fS) : Option (Int64 × fS) :=
  (f_X7_takeNumber (1 : Int32) (20 : Int32) S).bind fun q1 =>
  if (0 : Int32) ≤ q1.1 then ((f_X7_takeNumber (1 : Int32) (20 : Int32) q1.2).bind fun q5 =>
  if (0 : Int32) < q5.1 then ((dL (232792560 : Int64) (Int32.toInt64 q5.1)).bind fun a9 =>
  some (((Int32.toInt64 q1.1) * a9), q5.2)) else
  (some ((-1 : Int64), q5.2))) else
  (some ((-1 : Int64), q1.2))
set_option maxHeartbeats 4000000 in
set_option maxRecDepth 100000 in
theorem ok_X9_readPace {X : mm_C} {RR : Nat → Nat → Option Nat} (hR : RRok RR)   {S : fS} {r : Int64 × fS} (h : f_X9_readPace  S = some r) : mr X 3 mY_X9_readPace 0 (lv_args 0 [.ref 37]) [] (MM RR S) (some (.long r.1), MM RR r.2) := by
  unfold f_X9_readPace at h
  show mr X _ _ 0 [(0, .ref 37)] [] (MM RR S) _
  refine mr_aload_n (pc' := 1) dX9_readPace_0 rfl rfl ?_
  refine mr_getR (pc' := 4) (ci := 9) (j := 0) (b := 1) hR dX9_readPace_1 rfl rfl rfl (by decide) (by decide) (by decide) rfl rfl ?_
  refine mr_iconst (pc' := 5) (v := (1 : Int32)) dX9_readPace_4 rfl (by decide) ?_
  refine mr_bipush (pc' := 7) (v := (20 : Int32)) dX9_readPace_5 rfl (by decide) ?_
  obtain ⟨q1, g2, h3⟩ := Option.bind_eq_some_iff.mp h
  refine mr_cv (pc' := 10) (a := 1) (d1 := 2) dX9_readPace_7 rfl rfl rfl rfl rfl rfl (by decide) rfl (by decide) (ok_X7_takeNumber hR  g2) ?_
  show mr X _ _ 10 _ [.int q1.1] (MM RR q1.2) _
  refine mr_istore_n (pc' := 11) (lv' := [(1, .int q1.1), (0, .ref 37)]) dX9_readPace_10 rfl (by decide) rfl ?_
  refine mr_iload_n (pc' := 12) dX9_readPace_11 rfl rfl ?_
  by_cases c4 : (0 : Int32) ≤ q1.1
  · rw [if_pos c4] at h3
    refine mr_if_ge_t (t := 19) dX9_readPace_12 (by decide) c4 ?_
    refine mr_aload_n (pc' := 20) dX9_readPace_19 rfl rfl ?_
    refine mr_getR (pc' := 23) (ci := 9) (j := 0) (b := 1) hR dX9_readPace_20 rfl rfl rfl (by decide) (by decide) (by decide) rfl rfl ?_
    refine mr_iconst (pc' := 24) (v := (1 : Int32)) dX9_readPace_23 rfl (by decide) ?_
    refine mr_bipush (pc' := 26) (v := (20 : Int32)) dX9_readPace_24 rfl (by decide) ?_
    obtain ⟨q5, g6, h7⟩ := Option.bind_eq_some_iff.mp h3
    refine mr_cv (pc' := 29) (a := 1) (d1 := 2) dX9_readPace_26 rfl rfl rfl rfl rfl rfl (by decide) rfl (by decide) (ok_X7_takeNumber hR  g6) ?_
    show mr X _ _ 29 _ [.int q5.1] (MM RR q5.2) _
    refine mr_istore_n (pc' := 30) (lv' := [(2, .int q5.1), (1, .int q1.1), (0, .ref 37)]) dX9_readPace_29 rfl (by decide) rfl ?_
    refine mr_iload_n (pc' := 31) dX9_readPace_30 rfl rfl ?_
    by_cases c8 : (0 : Int32) < q5.1
    · rw [if_pos c8] at h7
      refine mr_if_gt_t (t := 38) dX9_readPace_31 (by decide) c8 ?_
      refine mr_iload_n (pc' := 39) dX9_readPace_38 rfl rfl ?_
      refine mr_i2l (pc' := 40) dX9_readPace_39 rfl ?_
      refine mr_ldc2 (pc' := 43) (v := (232792560 : Int64)) dX9_readPace_40 rfl rfl ?_
      refine mr_iload_n (pc' := 44) dX9_readPace_43 rfl rfl ?_
      refine mr_i2l (pc' := 45) dX9_readPace_44 rfl ?_
      obtain ⟨a9, g10, h11⟩ := Option.bind_eq_some_iff.mp h7
      refine mr_ldiv (pc' := 46) dX9_readPace_45 rfl g10 ?_
      refine mr_lmul (pc' := 47) dX9_readPace_46 rfl ?_
      obtain rfl := Option.some.inj h11
      exact mr_lreturn dX9_readPace_47 rfl
    · rw [if_neg c8] at h7
      refine mr_if_gt_f (t := 38) (pc' := 34) dX9_readPace_31 (by decide) rfl c8 ?_
      refine mr_ldc2 (pc' := 37) (v := (-1 : Int64)) dX9_readPace_34 rfl rfl ?_
      obtain rfl := Option.some.inj h7
      exact mr_lreturn dX9_readPace_37 rfl
  · rw [if_neg c4] at h3
    refine mr_if_ge_f (t := 19) (pc' := 15) dX9_readPace_12 (by decide) rfl c4 ?_
    refine mr_ldc2 (pc' := 18) (v := (-1 : Int64)) dX9_readPace_15 rfl rfl ?_
    obtain rfl := Option.some.inj h3
    exact mr_lreturn dX9_readPace_18 rfl
def f_X9_readFloor  (S : fS) : Option (Int32 × fS) :=
  (f_X9_readPace  S).bind fun q1 =>
  if (0 : Int64) ≤ q1.1 then ((sL q1.2 25 10 (q1.2.1 24 6) q1.1).bind fun S5 =>
  (some (pI S5 24 6 ((S5.1 24 6) + (1 : Int32)))).bind fun S8 =>
  some ((1 : Int32), S8)) else
  (some ((0 : Int32), q1.2))
set_option maxHeartbeats 4000000 in
set_option maxRecDepth 100000 in
theorem ok_X9_readFloor {X : mm_C} {RR : Nat → Nat → Option Nat} (hR : RRok RR)   {S : fS} {r : Int32 × fS} (h : f_X9_readFloor  S = some r) : mr X 4 mY_X9_readFloor 0 (lv_args 0 [.ref 37]) [] (MM RR S) (some (.int r.1), MM RR r.2) := by
  unfold f_X9_readFloor at h
  show mr X _ _ 0 [(0, .ref 37)] [] (MM RR S) _
  refine mr_aload_n (pc' := 1) dX9_readFloor_0 rfl rfl ?_
  obtain ⟨q1, g2, h3⟩ := Option.bind_eq_some_iff.mp h
  refine mr_cv (pc' := 4) (a := 37) (d1 := 3) dX9_readFloor_1 rfl rfl rfl rfl rfl rfl (by decide) rfl (by decide) (ok_X9_readPace hR  g2) ?_
  show mr X _ _ 4 _ [.long q1.1] (MM RR q1.2) _
  refine mr_lstore_n (pc' := 5) (lv' := [(1, .long q1.1), (0, .ref 37)]) dX9_readFloor_4 rfl (by decide) rfl ?_
  refine mr_lload_n (pc' := 6) dX9_readFloor_5 rfl rfl ?_
  refine mr_lconst (pc' := 7) (v := (0 : Int64)) dX9_readFloor_6 rfl (by decide) ?_
  by_cases c4 : (0 : Int64) ≤ q1.1
  · rw [if_pos c4] at h3
    refine mr_lcmp_ge_t (t := 13) dX9_readFloor_7 rfl dX9_readFloor_8 (by decide) c4 ?_
    refine mr_aload_n (pc' := 14) dX9_readFloor_13 rfl rfl ?_
    refine mr_getR (pc' := 17) (ci := 9) (j := 1) (b := 24) hR dX9_readFloor_14 rfl rfl rfl (by decide) (by decide) (by decide) rfl rfl ?_
    refine mr_getR (pc' := 20) (ci := 8) (j := 0) (b := 25) hR dX9_readFloor_17 rfl rfl rfl (by decide) (by decide) (by decide) rfl rfl ?_
    refine mr_aload_n (pc' := 21) dX9_readFloor_20 rfl rfl ?_
    refine mr_getR (pc' := 24) (ci := 9) (j := 1) (b := 24) hR dX9_readFloor_21 rfl rfl rfl (by decide) (by decide) (by decide) rfl rfl ?_
    refine mr_getI (pc' := 27) (ci := 8) (j := 6) dX9_readFloor_24 rfl rfl rfl (by decide) (by decide) rfl ?_
    refine mr_lload_n (pc' := 28) dX9_readFloor_27 rfl rfl ?_
    obtain ⟨S5, g6, h7⟩ := Option.bind_eq_some_iff.mp h3
    refine mr_last (pc' := 29) dX9_readFloor_28 rfl rfl rfl g6 ?_
    refine mr_aload_n (pc' := 30) dX9_readFloor_29 rfl rfl ?_
    refine mr_getR (pc' := 33) (ci := 9) (j := 1) (b := 24) hR dX9_readFloor_30 rfl rfl rfl (by decide) (by decide) (by decide) rfl rfl ?_
    refine mr_dup_ref (pc' := 34) dX9_readFloor_33 rfl ?_
    refine mr_getI (pc' := 37) (ci := 8) (j := 6) dX9_readFloor_34 rfl rfl rfl (by decide) (by decide) rfl ?_
    refine mr_iconst (pc' := 38) (v := (1 : Int32)) dX9_readFloor_37 rfl (by decide) ?_
    refine mr_iadd (pc' := 39) dX9_readFloor_38 rfl ?_
    obtain ⟨S8, g9, h10⟩ := Option.bind_eq_some_iff.mp h7
    refine mr_putI (pc' := 42) (ci := 8) (j := 6) dX9_readFloor_39 rfl rfl rfl (by decide) (by decide) rfl rfl ?_
    rw [Option.some.inj g9]
    refine mr_iconst (pc' := 43) (v := (1 : Int32)) dX9_readFloor_42 rfl (by decide) ?_
    obtain rfl := Option.some.inj h10
    exact mr_zreturn dX9_readFloor_43 rfl (by decide)
  · rw [if_neg c4] at h3
    refine mr_lcmp_ge_f (t := 13) (pc' := 11) dX9_readFloor_7 rfl dX9_readFloor_8 (by decide) rfl c4 ?_
    refine mr_iconst (pc' := 12) (v := (0 : Int32)) dX9_readFloor_11 rfl (by decide) ?_
    obtain rfl := Option.some.inj h3
    exact mr_zreturn dX9_readFloor_12 rfl (by decide)
def f_X8_addStair (v0 : Nat) (v1 : Int32) (v2 : Int32) (v3 : Int32) (v4 : Int64) (S : fS) : Option (fS) :=
  if (12 : Int32) ≤ (S.1 v0 7) then (some S) else
  ((sI S (v0 + 2) 12 (S.1 v0 7) v1).bind fun S2 =>
  (sI S2 (v0 + 3) 12 (S2.1 v0 7) v2).bind fun S5 =>
  (sI S5 (v0 + 4) 12 (S5.1 v0 7) v3).bind fun S8 =>
  (sL S8 (v0 + 5) 12 (S8.1 v0 7) v4).bind fun S11 =>
  (some (pI S11 v0 7 ((S11.1 v0 7) + (1 : Int32)))).bind fun S14 =>
  some S14)
set_option maxHeartbeats 4000000 in
set_option maxRecDepth 100000 in
theorem ok_X8_addStair {X : mm_C} {RR : Nat → Nat → Option Nat} (hR : RRok RR) {v0 : Nat} {v1 : Int32} {v2 : Int32} {v3 : Int32} {v4 : Int64} (t0 : tg v0 = 8) {S : fS} {r : fS} (h : f_X8_addStair v0 v1 v2 v3 v4 S = some r) : mr X 0 mY_X8_addStair 0 (lv_args 0 [.ref v0, .int v1, .int v2, .int v3, .long v4]) [] (MM RR S) (none, MM RR r) := by
  unfold f_X8_addStair at h
  show mr X _ _ 0 [(0, .ref v0), (1, .int v1), (2, .int v2), (3, .int v3), (4, .long v4)] [] (MM RR S) _
  refine mr_aload_n (pc' := 1) dX8_addStair_0 rfl rfl ?_
  refine mr_getI (pc' := 4) (ci := 8) (j := 7) dX8_addStair_1 rfl rfl t0 (by decide) (by decide) rfl ?_
  refine mr_bipush (pc' := 6) (v := (12 : Int32)) dX8_addStair_4 rfl (by decide) ?_
  by_cases c1 : (12 : Int32) ≤ (S.1 v0 7)
  · rw [if_pos c1] at h
    refine mr_icmp_ge_t (t := 60) dX8_addStair_6 (by decide) c1 ?_
    obtain rfl := Option.some.inj h
    exact mr_return dX8_addStair_60 rfl
  · rw [if_neg c1] at h
    refine mr_icmp_ge_f (t := 60) (pc' := 9) dX8_addStair_6 (by decide) rfl c1 ?_
    refine mr_aload_n (pc' := 10) dX8_addStair_9 rfl rfl ?_
    refine mr_getR (pc' := 13) (ci := 8) (j := 1) (b := (v0 + 2)) hR dX8_addStair_10 rfl rfl t0 (by decide) (by decide) (by decide) rfl (ly8_1 t0).1 ?_
    refine mr_aload_n (pc' := 14) dX8_addStair_13 rfl rfl ?_
    refine mr_getI (pc' := 17) (ci := 8) (j := 7) dX8_addStair_14 rfl rfl t0 (by decide) (by decide) rfl ?_
    refine mr_iload_n (pc' := 18) dX8_addStair_17 rfl rfl ?_
    obtain ⟨S2, g3, h4⟩ := Option.bind_eq_some_iff.mp h
    refine mr_iast (pc' := 19) dX8_addStair_18 rfl (ly8_1 t0).2.1 (ly8_1 t0).2.2 g3 ?_
    refine mr_aload_n (pc' := 20) dX8_addStair_19 rfl rfl ?_
    refine mr_getR (pc' := 23) (ci := 8) (j := 2) (b := (v0 + 3)) hR dX8_addStair_20 rfl rfl t0 (by decide) (by decide) (by decide) rfl (ly8_2 t0).1 ?_
    refine mr_aload_n (pc' := 24) dX8_addStair_23 rfl rfl ?_
    refine mr_getI (pc' := 27) (ci := 8) (j := 7) dX8_addStair_24 rfl rfl t0 (by decide) (by decide) rfl ?_
    refine mr_iload_n (pc' := 28) dX8_addStair_27 rfl rfl ?_
    obtain ⟨S5, g6, h7⟩ := Option.bind_eq_some_iff.mp h4
    refine mr_iast (pc' := 29) dX8_addStair_28 rfl (ly8_2 t0).2.1 (ly8_2 t0).2.2 g6 ?_
    refine mr_aload_n (pc' := 30) dX8_addStair_29 rfl rfl ?_
    refine mr_getR (pc' := 33) (ci := 8) (j := 3) (b := (v0 + 4)) hR dX8_addStair_30 rfl rfl t0 (by decide) (by decide) (by decide) rfl (ly8_3 t0).1 ?_
    refine mr_aload_n (pc' := 34) dX8_addStair_33 rfl rfl ?_
    refine mr_getI (pc' := 37) (ci := 8) (j := 7) dX8_addStair_34 rfl rfl t0 (by decide) (by decide) rfl ?_
    refine mr_iload_n (pc' := 38) dX8_addStair_37 rfl rfl ?_
    obtain ⟨S8, g9, h10⟩ := Option.bind_eq_some_iff.mp h7
    refine mr_iast (pc' := 39) dX8_addStair_38 rfl (ly8_3 t0).2.1 (ly8_3 t0).2.2 g9 ?_
    refine mr_aload_n (pc' := 40) dX8_addStair_39 rfl rfl ?_
    refine mr_getR (pc' := 43) (ci := 8) (j := 4) (b := (v0 + 5)) hR dX8_addStair_40 rfl rfl t0 (by decide) (by decide) (by decide) rfl (ly8_4 t0).1 ?_
    refine mr_aload_n (pc' := 44) dX8_addStair_43 rfl rfl ?_
    refine mr_getI (pc' := 47) (ci := 8) (j := 7) dX8_addStair_44 rfl rfl t0 (by decide) (by decide) rfl ?_
    refine mr_lload (pc' := 49) dX8_addStair_47 rfl rfl ?_
    obtain ⟨S11, g12, h13⟩ := Option.bind_eq_some_iff.mp h10
    refine mr_last (pc' := 50) dX8_addStair_49 rfl (ly8_4 t0).2.1 (ly8_4 t0).2.2 g12 ?_
    refine mr_aload_n (pc' := 51) dX8_addStair_50 rfl rfl ?_
    refine mr_dup_ref (pc' := 52) dX8_addStair_51 rfl ?_
    refine mr_getI (pc' := 55) (ci := 8) (j := 7) dX8_addStair_52 rfl rfl t0 (by decide) (by decide) rfl ?_
    refine mr_iconst (pc' := 56) (v := (1 : Int32)) dX8_addStair_55 rfl (by decide) ?_
    refine mr_iadd (pc' := 57) dX8_addStair_56 rfl ?_
    obtain ⟨S14, g15, h16⟩ := Option.bind_eq_some_iff.mp h13
    refine mr_putI (pc' := 60) (ci := 8) (j := 7) dX8_addStair_57 rfl rfl t0 (by decide) (by decide) rfl rfl ?_
    rw [Option.some.inj g15]
    obtain rfl := Option.some.inj h16
    exact mr_return dX8_addStair_60 rfl
