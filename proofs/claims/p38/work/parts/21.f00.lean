def lp_X7_put_3 (p1 : Int32) (K : fS → Option (fS)) : Nat → Int32 → fS → Option (fS)
  | 0, _, _ => none
  | n + 1, p2, S0 =>
    if p2 < (0 : Int32) then (K S0) else
    (if (400 : Int32) ≤ (S0.1 1 1) then (lp_X7_put_3 p1 K n (p2 + (-8 : Int32)) S0) else
    ((sI S0 2 400 (S0.1 1 1) (Int8.toInt32 (Int32.toInt8 (Int8.toInt32 (Int32.toInt8 (p1 >>> (p2 &&& 31))))))).bind fun S3 =>
    (some (pI S3 1 1 ((S3.1 1 1) + (1 : Int32)))).bind fun S6 =>
    lp_X7_put_3 p1 K n (p2 + (-8 : Int32)) S6))
set_option maxHeartbeats 4000000 in
set_option maxRecDepth 100000 in
theorem ok_lp_X7_put_3 {X : mm_C} {RR : Nat → Nat → Option Nat} (hR : RRok RR) {p1 : Int32}  {K : fS → Option (fS)} {r : fS} (hK : ∀ (Sk : fS), K Sk = some r → mr X 0 mY_X7_put 46 [] [] (MM RR Sk) (none, MM RR r)) : ∀ (n : Nat) (p2 : Int32) (S0 : fS), lp_X7_put_3 p1 K n p2 S0 = some r → mr X 0 mY_X7_put 3 [(0, .ref 1), (1, .int p1), (2, .int p2)] [] (MM RR S0) (none, MM RR r) := by
  intro n
  induction n with
  | zero => intro p2 S0 h; exact mm_no h
  | succ n ih =>
    intro p2 S0 h
    unfold lp_X7_put_3 at h
    refine mr_iload_n (pc' := 4) dX7_put_3 rfl rfl ?_
    by_cases c1 : p2 < (0 : Int32)
    · rw [if_pos c1] at h
      refine mr_if_lt_t (t := 46) dX7_put_4 (by decide) c1 ?_
      exact mr_sub [] trivial rfl (hK _  h)
    · rw [if_neg c1] at h
      refine mr_if_lt_f (t := 46) (pc' := 7) dX7_put_4 (by decide) rfl c1 ?_
      refine mr_aload_n (pc' := 8) dX7_put_7 rfl rfl ?_
      refine mr_getI (pc' := 11) (ci := 7) (j := 1) dX7_put_8 rfl rfl rfl (by decide) (by decide) rfl ?_
      refine mr_sipush (pc' := 14) (v := (400 : Int32)) dX7_put_11 rfl (by decide) ?_
      by_cases c2 : (400 : Int32) ≤ (S0.1 1 1)
      · rw [if_pos c2] at h
        refine mr_icmp_ge_t (t := 40) dX7_put_14 (by decide) c2 ?_
        refine mr_iinc (pc' := 43) (x' := (p2 + (-8 : Int32))) (lv' := [(2, .int (p2 + (-8 : Int32))), (0, .ref 1), (1, .int p1)]) dX7_put_40 rfl (by decide) rfl rfl rfl ?_
        refine mr_goto (t := 3) dX7_put_43 (by decide) ?_
        exact mr_sub [(0, .ref 1), (1, .int p1), (2, .int (p2 + (-8 : Int32)))] ⟨rfl, rfl, rfl, trivial⟩ rfl (ih _ _  h)
      · rw [if_neg c2] at h
        refine mr_icmp_ge_f (t := 40) (pc' := 17) dX7_put_14 (by decide) rfl c2 ?_
        refine mr_aload_n (pc' := 18) dX7_put_17 rfl rfl ?_
        refine mr_getR (pc' := 21) (ci := 7) (j := 0) (b := 2) hR dX7_put_18 rfl rfl rfl (by decide) (by decide) (by decide) rfl rfl ?_
        refine mr_aload_n (pc' := 22) dX7_put_21 rfl rfl ?_
        refine mr_getI (pc' := 25) (ci := 7) (j := 1) dX7_put_22 rfl rfl rfl (by decide) (by decide) rfl ?_
        refine mr_iload_n (pc' := 26) dX7_put_25 rfl rfl ?_
        refine mr_iload_n (pc' := 27) dX7_put_26 rfl rfl ?_
        refine mr_ishr (pc' := 28) dX7_put_27 rfl ?_
        refine mr_i2b (pc' := 29) dX7_put_28 rfl ?_
        obtain ⟨S3, g4, h5⟩ := Option.bind_eq_some_iff.mp h
        refine mr_bast (pc' := 30) dX7_put_29 rfl rfl rfl g4 ?_
        refine mr_aload_n (pc' := 31) dX7_put_30 rfl rfl ?_
        refine mr_dup_ref (pc' := 32) dX7_put_31 rfl ?_
        refine mr_getI (pc' := 35) (ci := 7) (j := 1) dX7_put_32 rfl rfl rfl (by decide) (by decide) rfl ?_
        refine mr_iconst (pc' := 36) (v := (1 : Int32)) dX7_put_35 rfl (by decide) ?_
        refine mr_iadd (pc' := 37) dX7_put_36 rfl ?_
        obtain ⟨S6, g7, h8⟩ := Option.bind_eq_some_iff.mp h5
        refine mr_putI (pc' := 40) (ci := 7) (j := 1) dX7_put_37 rfl rfl rfl (by decide) (by decide) rfl rfl ?_
        rw [Option.some.inj g7]
        refine mr_iinc (pc' := 43) (x' := (p2 + (-8 : Int32))) (lv' := [(2, .int (p2 + (-8 : Int32))), (0, .ref 1), (1, .int p1)]) dX7_put_40 rfl (by decide) rfl rfl rfl ?_
        refine mr_goto (t := 3) dX7_put_43 (by decide) ?_
        exact mr_sub [(0, .ref 1), (1, .int p1), (2, .int (p2 + (-8 : Int32)))] ⟨rfl, rfl, rfl, trivial⟩ rfl (ih _ _  h8)
def f_X7_put (v1 : Int32) (S : fS) : Option (fS) :=
  lp_X7_put_3 v1 (fun S9 => some S9) FU (24 : Int32) S
set_option maxHeartbeats 4000000 in
set_option maxRecDepth 100000 in
theorem ok_X7_put {X : mm_C} {RR : Nat → Nat → Option Nat} (hR : RRok RR) {v1 : Int32}  {S : fS} {r : fS} (h : f_X7_put v1 S = some r) : mr X 0 mY_X7_put 0 (lv_args 0 [.ref 1, .int v1]) [] (MM RR S) (none, MM RR r) := by
  unfold f_X7_put at h
  show mr X _ _ 0 [(0, .ref 1), (1, .int v1)] [] (MM RR S) _
  refine mr_bipush (pc' := 2) (v := (24 : Int32)) dX7_put_0 rfl (by decide) ?_
  refine mr_istore_n (pc' := 3) (lv' := [(2, .int (24 : Int32)), (0, .ref 1), (1, .int v1)]) dX7_put_2 rfl (by decide) rfl ?_
  refine mr_sub [(0, .ref 1), (1, .int v1), (2, .int (24 : Int32))] ⟨rfl, rfl, rfl, trivial⟩ rfl ?_
  refine ok_lp_X7_put_3 hR  (fun S9 h10 => ?_) FU _ _  h
  obtain rfl := Option.some.inj h10
  exact mr_return dX7_put_46 rfl
def f_X10_feed (v1 : Int32) (v2 : Int32) (v3 : Int32) (v4 : Int32) (v5 : Int32) (S : fS) : Option (Int32 × fS) :=
  if ((S.1 1 1) + (20 : Int32)) ≤ (400 : Int32) then ((f_X7_put v1 S).bind fun q2 =>
  (f_X7_put v2 q2).bind fun q5 =>
  (f_X7_put v3 q5).bind fun q8 =>
  (f_X7_put v4 q8).bind fun q11 =>
  (f_X7_put v5 q11).bind fun q14 =>
  some ((q14.1 1 1), q14)) else
  (some ((-1 : Int32), S))
set_option maxHeartbeats 4000000 in
set_option maxRecDepth 100000 in
theorem ok_X10_feed {X : mm_C} {RR : Nat → Nat → Option Nat} (hR : RRok RR) {v1 : Int32} {v2 : Int32} {v3 : Int32} {v4 : Int32} {v5 : Int32}  {S : fS} {r : Int32 × fS} (h : f_X10_feed v1 v2 v3 v4 v5 S = some r) : mr X 1 mY_X10_feed 0 (lv_args 0 [.ref 0, .int v1, .int v2, .int v3, .int v4, .int v5]) [] (MM RR S) (some (.int r.1), MM RR r.2) := by
  unfold f_X10_feed at h
  show mr X _ _ 0 [(0, .ref 0), (1, .int v1), (2, .int v2), (3, .int v3), (4, .int v4), (5, .int v5)] [] (MM RR S) _
  refine mr_aload_n (pc' := 1) dX10_feed_0 rfl rfl ?_
  refine mr_getR (pc' := 4) (ci := 10) (j := 0) (b := 1) hR dX10_feed_1 rfl rfl rfl (by decide) (by decide) (by decide) rfl rfl ?_
  refine mr_getI (pc' := 7) (ci := 7) (j := 1) dX10_feed_4 rfl rfl rfl (by decide) (by decide) rfl ?_
  refine mr_bipush (pc' := 9) (v := (20 : Int32)) dX10_feed_7 rfl (by decide) ?_
  refine mr_iadd (pc' := 10) dX10_feed_9 rfl ?_
  refine mr_sipush (pc' := 13) (v := (400 : Int32)) dX10_feed_10 rfl (by decide) ?_
  by_cases c1 : ((S.1 1 1) + (20 : Int32)) ≤ (400 : Int32)
  · rw [if_pos c1] at h
    refine mr_icmp_le_t (t := 18) dX10_feed_13 (by decide) c1 ?_
    refine mr_aload_n (pc' := 19) dX10_feed_18 rfl rfl ?_
    refine mr_getR (pc' := 22) (ci := 10) (j := 0) (b := 1) hR dX10_feed_19 rfl rfl rfl (by decide) (by decide) (by decide) rfl rfl ?_
    refine mr_iload_n (pc' := 23) dX10_feed_22 rfl rfl ?_
    obtain ⟨q2, g3, h4⟩ := Option.bind_eq_some_iff.mp h
    refine mr_cv (pc' := 26) (a := 1) (d1 := 0) dX10_feed_23 rfl rfl rfl rfl rfl rfl (by decide) rfl (by decide) (ok_X7_put hR  g3) ?_
    show mr X _ _ 26 _ [] (MM RR q2) _
    refine mr_aload_n (pc' := 27) dX10_feed_26 rfl rfl ?_
    refine mr_getR (pc' := 30) (ci := 10) (j := 0) (b := 1) hR dX10_feed_27 rfl rfl rfl (by decide) (by decide) (by decide) rfl rfl ?_
    refine mr_iload_n (pc' := 31) dX10_feed_30 rfl rfl ?_
    obtain ⟨q5, g6, h7⟩ := Option.bind_eq_some_iff.mp h4
    refine mr_cv (pc' := 34) (a := 1) (d1 := 0) dX10_feed_31 rfl rfl rfl rfl rfl rfl (by decide) rfl (by decide) (ok_X7_put hR  g6) ?_
    show mr X _ _ 34 _ [] (MM RR q5) _
    refine mr_aload_n (pc' := 35) dX10_feed_34 rfl rfl ?_
    refine mr_getR (pc' := 38) (ci := 10) (j := 0) (b := 1) hR dX10_feed_35 rfl rfl rfl (by decide) (by decide) (by decide) rfl rfl ?_
    refine mr_iload_n (pc' := 39) dX10_feed_38 rfl rfl ?_
    obtain ⟨q8, g9, h10⟩ := Option.bind_eq_some_iff.mp h7
    refine mr_cv (pc' := 42) (a := 1) (d1 := 0) dX10_feed_39 rfl rfl rfl rfl rfl rfl (by decide) rfl (by decide) (ok_X7_put hR  g9) ?_
    show mr X _ _ 42 _ [] (MM RR q8) _
    refine mr_aload_n (pc' := 43) dX10_feed_42 rfl rfl ?_
    refine mr_getR (pc' := 46) (ci := 10) (j := 0) (b := 1) hR dX10_feed_43 rfl rfl rfl (by decide) (by decide) (by decide) rfl rfl ?_
    refine mr_iload (pc' := 48) dX10_feed_46 rfl rfl ?_
    obtain ⟨q11, g12, h13⟩ := Option.bind_eq_some_iff.mp h10
    refine mr_cv (pc' := 51) (a := 1) (d1 := 0) dX10_feed_48 rfl rfl rfl rfl rfl rfl (by decide) rfl (by decide) (ok_X7_put hR  g12) ?_
    show mr X _ _ 51 _ [] (MM RR q11) _
    refine mr_aload_n (pc' := 52) dX10_feed_51 rfl rfl ?_
    refine mr_getR (pc' := 55) (ci := 10) (j := 0) (b := 1) hR dX10_feed_52 rfl rfl rfl (by decide) (by decide) (by decide) rfl rfl ?_
    refine mr_iload (pc' := 57) dX10_feed_55 rfl rfl ?_
    obtain ⟨q14, g15, h16⟩ := Option.bind_eq_some_iff.mp h13
    refine mr_cv (pc' := 60) (a := 1) (d1 := 0) dX10_feed_57 rfl rfl rfl rfl rfl rfl (by decide) rfl (by decide) (ok_X7_put hR  g15) ?_
    show mr X _ _ 60 _ [] (MM RR q14) _
    refine mr_aload_n (pc' := 61) dX10_feed_60 rfl rfl ?_
    refine mr_getR (pc' := 64) (ci := 10) (j := 0) (b := 1) hR dX10_feed_61 rfl rfl rfl (by decide) (by decide) (by decide) rfl rfl ?_
    refine mr_getI (pc' := 67) (ci := 7) (j := 1) dX10_feed_64 rfl rfl rfl (by decide) (by decide) rfl ?_
    obtain rfl := Option.some.inj h16
    exact mr_ireturn dX10_feed_67 rfl
  · rw [if_neg c1] at h
    refine mr_icmp_le_f (t := 18) (pc' := 16) dX10_feed_13 (by decide) rfl c1 ?_
    refine mr_iconst (pc' := 17) (v := (-1 : Int32)) dX10_feed_16 rfl (by decide) ?_
    obtain rfl := Option.some.inj h
    exact mr_ireturn dX10_feed_17 rfl
def f_X10_isFrom (v0 : Int32) (v1 : Int32) (v2 : Int32) (S : fS) : Option (Int32) :=
  if v0 < v1 then (some (0 : Int32)) else
  (if v2 < v0 then (some (0 : Int32)) else
  (some (1 : Int32)))
set_option maxHeartbeats 4000000 in
set_option maxRecDepth 100000 in
theorem ok_X10_isFrom {X : mm_C} {RR : Nat → Nat → Option Nat} (hR : RRok RR) {v0 : Int32} {v1 : Int32} {v2 : Int32}  {S : fS} {r : Int32} (h : f_X10_isFrom v0 v1 v2 S = some r) : mr X 0 mY_X10_isFrom 0 (lv_args 0 [.int v0, .int v1, .int v2]) [] (MM RR S) (some (.int r), MM RR S) := by
  unfold f_X10_isFrom at h
  show mr X _ _ 0 [(0, .int v0), (1, .int v1), (2, .int v2)] [] (MM RR S) _
  refine mr_iload_n (pc' := 1) dX10_isFrom_0 rfl rfl ?_
  refine mr_iload_n (pc' := 2) dX10_isFrom_1 rfl rfl ?_
  by_cases c1 : v0 < v1
  · rw [if_pos c1] at h
    refine mr_icmp_lt_t (t := 14) dX10_isFrom_2 (by decide) c1 ?_
    refine mr_iconst (pc' := 15) (v := (0 : Int32)) dX10_isFrom_14 rfl (by decide) ?_
    obtain rfl := Option.some.inj h
    exact mr_zreturn dX10_isFrom_15 rfl (by decide)
  · rw [if_neg c1] at h
    refine mr_icmp_lt_f (t := 14) (pc' := 5) dX10_isFrom_2 (by decide) rfl c1 ?_
    refine mr_iload_n (pc' := 6) dX10_isFrom_5 rfl rfl ?_
    refine mr_iload_n (pc' := 7) dX10_isFrom_6 rfl rfl ?_
    by_cases c2 : v2 < v0
    · rw [if_pos c2] at h
      refine mr_icmp_gt_t (t := 14) dX10_isFrom_7 (by decide) c2 ?_
      refine mr_iconst (pc' := 15) (v := (0 : Int32)) dX10_isFrom_14 rfl (by decide) ?_
      obtain rfl := Option.some.inj h
      exact mr_zreturn dX10_isFrom_15 rfl (by decide)
    · rw [if_neg c2] at h
      refine mr_icmp_gt_f (t := 14) (pc' := 10) dX10_isFrom_7 (by decide) rfl c2 ?_
      refine mr_iconst (pc' := 11) (v := (1 : Int32)) dX10_isFrom_10 rfl (by decide) ?_
      refine mr_goto (t := 15) dX10_isFrom_11 (by decide) ?_
      obtain rfl := Option.some.inj h
      exact mr_zreturn dX10_isFrom_15 rfl (by decide)
def f_X10_end (v1 : Int32) (S : fS) : Option (Int32 × fS) :=
  (f_X10_isFrom v1 (0 : Int32) (S.1 1 1) S).bind fun q1 =>
  if q1 = (0 : Int32) then (some ((-1 : Int32), S)) else
  ((some (pI S 1 1 v1)).bind fun S5 =>
  some (v1, S5))
set_option maxHeartbeats 4000000 in
set_option maxRecDepth 100000 in
theorem ok_X10_end {X : mm_C} {RR : Nat → Nat → Option Nat} (hR : RRok RR) {v1 : Int32}  {S : fS} {r : Int32 × fS} (h : f_X10_end v1 S = some r) : mr X 1 mY_X10_end 0 (lv_args 0 [.ref 0, .int v1]) [] (MM RR S) (some (.int r.1), MM RR r.2) := by
  unfold f_X10_end at h
  show mr X _ _ 0 [(0, .ref 0), (1, .int v1)] [] (MM RR S) _
  refine mr_iload_n (pc' := 1) dX10_end_0 rfl rfl ?_
  refine mr_iconst (pc' := 2) (v := (0 : Int32)) dX10_end_1 rfl (by decide) ?_
  refine mr_aload_n (pc' := 3) dX10_end_2 rfl rfl ?_
  refine mr_getR (pc' := 6) (ci := 10) (j := 0) (b := 1) hR dX10_end_3 rfl rfl rfl (by decide) (by decide) (by decide) rfl rfl ?_
  refine mr_getI (pc' := 9) (ci := 7) (j := 1) dX10_end_6 rfl rfl rfl (by decide) (by decide) rfl ?_
  obtain ⟨q1, g2, h3⟩ := Option.bind_eq_some_iff.mp h
  refine mr_cs (pc' := 12) (d1 := 0) dX10_end_9 rfl rfl rfl rfl (by decide) (Nat.le_of_ble_eq_true rfl) rfl rfl rfl (by decide) (ok_X10_isFrom hR  g2) ?_
  show mr X _ _ 12 _ [.int q1] (MM RR S) _
  by_cases c4 : q1 = (0 : Int32)
  · rw [if_pos c4] at h3
    refine mr_if_ne_f (t := 17) (pc' := 15) dX10_end_12 (by decide) rfl (not_not_intro c4) ?_
    refine mr_iconst (pc' := 16) (v := (-1 : Int32)) dX10_end_15 rfl (by decide) ?_
    obtain rfl := Option.some.inj h3
    exact mr_ireturn dX10_end_16 rfl
  · rw [if_neg c4] at h3
    refine mr_if_ne_t (t := 17) dX10_end_12 (by decide) c4 ?_
    refine mr_aload_n (pc' := 18) dX10_end_17 rfl rfl ?_
    refine mr_getR (pc' := 21) (ci := 10) (j := 0) (b := 1) hR dX10_end_18 rfl rfl rfl (by decide) (by decide) (by decide) rfl rfl ?_
    refine mr_iload_n (pc' := 22) dX10_end_21 rfl rfl ?_
    obtain ⟨S5, g6, h7⟩ := Option.bind_eq_some_iff.mp h3
    refine mr_putI (pc' := 25) (ci := 7) (j := 1) dX10_end_22 rfl rfl rfl (by decide) (by decide) rfl rfl ?_
    rw [Option.some.inj g6]
    refine mr_iload_n (pc' := 26) dX10_end_25 rfl rfl ?_
    obtain rfl := Option.some.inj h7
    exact mr_ireturn dX10_end_26 rfl
def f_X7_rewind  (S : fS) : Option (fS) :=
  (some (pI S 1 2 (0 : Int32))).bind fun S1 =>
  (some (pI S1 1 3 (0 : Int32))).bind fun S4 =>
  (some (pI S4 1 4 (0 : Int32))).bind fun S7 =>
  some S7
set_option maxHeartbeats 4000000 in
set_option maxRecDepth 100000 in
theorem ok_X7_rewind {X : mm_C} {RR : Nat → Nat → Option Nat} (hR : RRok RR)   {S : fS} {r : fS} (h : f_X7_rewind  S = some r) : mr X 0 mY_X7_rewind 0 (lv_args 0 [.ref 1]) [] (MM RR S) (none, MM RR r) := by
  unfold f_X7_rewind at h
  show mr X _ _ 0 [(0, .ref 1)] [] (MM RR S) _
  refine mr_aload_n (pc' := 1) dX7_rewind_0 rfl rfl ?_
  refine mr_iconst (pc' := 2) (v := (0 : Int32)) dX7_rewind_1 rfl (by decide) ?_
  obtain ⟨S1, g2, h3⟩ := Option.bind_eq_some_iff.mp h
  refine mr_putI (pc' := 5) (ci := 7) (j := 2) dX7_rewind_2 rfl rfl rfl (by decide) (by decide) rfl rfl ?_
  rw [Option.some.inj g2]
  refine mr_aload_n (pc' := 6) dX7_rewind_5 rfl rfl ?_
  refine mr_iconst (pc' := 7) (v := (0 : Int32)) dX7_rewind_6 rfl (by decide) ?_
  obtain ⟨S4, g5, h6⟩ := Option.bind_eq_some_iff.mp h3
  refine mr_putI (pc' := 10) (ci := 7) (j := 3) dX7_rewind_7 rfl rfl rfl (by decide) (by decide) rfl rfl ?_
  rw [Option.some.inj g5]
  refine mr_aload_n (pc' := 11) dX7_rewind_10 rfl rfl ?_
  refine mr_iconst (pc' := 12) (v := (0 : Int32)) dX7_rewind_11 rfl (by decide) ?_
  obtain ⟨S7, g8, h9⟩ := Option.bind_eq_some_iff.mp h6
  refine mr_putI (pc' := 15) (ci := 7) (j := 4) dX7_rewind_12 rfl rfl rfl (by decide) (by decide) rfl rfl ?_
  rw [Option.some.inj g8]
  obtain rfl := Option.some.inj h9
  exact mr_return dX7_rewind_15 rfl
def lp_X7_skipBlanks_0  (K : fS → Option (fS)) : Nat → fS → Option (fS)
  | 0, _ => none
  | n + 1, S0 =>
    if (S0.1 1 1) ≤ (S0.1 1 2) then (K S0) else
    (if (400 : Int32) ≤ (S0.1 1 2) then (K S0) else
    ((gI S0 2 400 (S0.1 1 2)).bind fun a3 =>
    if a3 = (32 : Int32) then ((some (pI S0 1 2 ((S0.1 1 2) + (1 : Int32)))).bind fun S7 =>
    lp_X7_skipBlanks_0  K n  S7) else
    (K S0)))
set_option maxHeartbeats 4000000 in
set_option maxRecDepth 100000 in
theorem ok_lp_X7_skipBlanks_0 {X : mm_C} {RR : Nat → Nat → Option Nat} (hR : RRok RR)   {K : fS → Option (fS)} {r : fS} (hK : ∀ (Sk : fS), K Sk = some r → mr X 0 mY_X7_skipBlanks 48 [] [] (MM RR Sk) (none, MM RR r)) : ∀ (n : Nat) (S0 : fS), lp_X7_skipBlanks_0  K n S0 = some r → mr X 0 mY_X7_skipBlanks 0 [(0, .ref 1)] [] (MM RR S0) (none, MM RR r) := by
  intro n
  induction n with
  | zero => intro S0 h; exact mm_no h
  | succ n ih =>
    intro S0 h
    unfold lp_X7_skipBlanks_0 at h
    refine mr_aload_n (pc' := 1) dX7_skipBlanks_0 rfl rfl ?_
    refine mr_getI (pc' := 4) (ci := 7) (j := 2) dX7_skipBlanks_1 rfl rfl rfl (by decide) (by decide) rfl ?_
    refine mr_aload_n (pc' := 5) dX7_skipBlanks_4 rfl rfl ?_
    refine mr_getI (pc' := 8) (ci := 7) (j := 1) dX7_skipBlanks_5 rfl rfl rfl (by decide) (by decide) rfl ?_
    by_cases c1 : (S0.1 1 1) ≤ (S0.1 1 2)
    · rw [if_pos c1] at h
      refine mr_icmp_ge_t (t := 48) dX7_skipBlanks_8 (by decide) c1 ?_
      exact mr_sub [] trivial rfl (hK _  h)
    · rw [if_neg c1] at h
      refine mr_icmp_ge_f (t := 48) (pc' := 11) dX7_skipBlanks_8 (by decide) rfl c1 ?_
      refine mr_aload_n (pc' := 12) dX7_skipBlanks_11 rfl rfl ?_
      refine mr_getI (pc' := 15) (ci := 7) (j := 2) dX7_skipBlanks_12 rfl rfl rfl (by decide) (by decide) rfl ?_
      refine mr_sipush (pc' := 18) (v := (400 : Int32)) dX7_skipBlanks_15 rfl (by decide) ?_
      by_cases c2 : (400 : Int32) ≤ (S0.1 1 2)
      · rw [if_pos c2] at h
        refine mr_icmp_ge_t (t := 48) dX7_skipBlanks_18 (by decide) c2 ?_
        exact mr_sub [] trivial rfl (hK _  h)
      · rw [if_neg c2] at h
        refine mr_icmp_ge_f (t := 48) (pc' := 21) dX7_skipBlanks_18 (by decide) rfl c2 ?_
        refine mr_aload_n (pc' := 22) dX7_skipBlanks_21 rfl rfl ?_
        refine mr_getR (pc' := 25) (ci := 7) (j := 0) (b := 2) hR dX7_skipBlanks_22 rfl rfl rfl (by decide) (by decide) (by decide) rfl rfl ?_
        refine mr_aload_n (pc' := 26) dX7_skipBlanks_25 rfl rfl ?_
        refine mr_getI (pc' := 29) (ci := 7) (j := 2) dX7_skipBlanks_26 rfl rfl rfl (by decide) (by decide) rfl ?_
        obtain ⟨a3, g4, h5⟩ := Option.bind_eq_some_iff.mp h
        refine mr_bald (pc' := 30) dX7_skipBlanks_29 rfl (Or.inl rfl) rfl g4 ?_
        refine mr_bipush (pc' := 32) (v := (32 : Int32)) dX7_skipBlanks_30 rfl (by decide) ?_
        by_cases c6 : a3 = (32 : Int32)
        · rw [if_pos c6] at h5
          refine mr_icmp_ne_f (t := 48) (pc' := 35) dX7_skipBlanks_32 (by decide) rfl (not_not_intro c6) ?_
          refine mr_aload_n (pc' := 36) dX7_skipBlanks_35 rfl rfl ?_
          refine mr_dup_ref (pc' := 37) dX7_skipBlanks_36 rfl ?_
          refine mr_getI (pc' := 40) (ci := 7) (j := 2) dX7_skipBlanks_37 rfl rfl rfl (by decide) (by decide) rfl ?_
          refine mr_iconst (pc' := 41) (v := (1 : Int32)) dX7_skipBlanks_40 rfl (by decide) ?_
          refine mr_iadd (pc' := 42) dX7_skipBlanks_41 rfl ?_
          obtain ⟨S7, g8, h9⟩ := Option.bind_eq_some_iff.mp h5
          refine mr_putI (pc' := 45) (ci := 7) (j := 2) dX7_skipBlanks_42 rfl rfl rfl (by decide) (by decide) rfl rfl ?_
          rw [Option.some.inj g8]
          refine mr_goto (t := 0) dX7_skipBlanks_45 (by decide) ?_
          exact mr_sub [(0, .ref 1)] ⟨rfl, trivial⟩ rfl (ih _  h9)
        · rw [if_neg c6] at h5
          refine mr_icmp_ne_t (t := 48) dX7_skipBlanks_32 (by decide) c6 ?_
          exact mr_sub [] trivial rfl (hK _  h5)
def f_X7_skipBlanks  (S : fS) : Option (fS) :=
  lp_X7_skipBlanks_0  (fun S10 => some S10) FU  S
set_option maxHeartbeats 4000000 in
set_option maxRecDepth 100000 in
theorem ok_X7_skipBlanks {X : mm_C} {RR : Nat → Nat → Option Nat} (hR : RRok RR)   {S : fS} {r : fS} (h : f_X7_skipBlanks  S = some r) : mr X 0 mY_X7_skipBlanks 0 (lv_args 0 [.ref 1]) [] (MM RR S) (none, MM RR r) := by
  unfold f_X7_skipBlanks at h
  show mr X _ _ 0 [(0, .ref 1)] [] (MM RR S) _
  refine mr_sub [(0, .ref 1)] ⟨rfl, trivial⟩ rfl ?_
  refine ok_lp_X7_skipBlanks_0 hR  (fun S10 h11 => ?_) FU _  h
  obtain rfl := Option.some.inj h11
  exact mr_return dX7_skipBlanks_48 rfl
def f_X7_byteAt (v1 : Int32) (S : fS) : Option (Int32) :=
  if v1 < (0 : Int32) then (some (-1 : Int32)) else
  (if (S.1 1 1) ≤ v1 then (some (-1 : Int32)) else
  (if (400 : Int32) ≤ v1 then (some (-1 : Int32)) else
  ((gI S 2 400 v1).bind fun a4 =>
  some a4)))
set_option maxHeartbeats 4000000 in
set_option maxRecDepth 100000 in
theorem ok_X7_byteAt {X : mm_C} {RR : Nat → Nat → Option Nat} (hR : RRok RR) {v1 : Int32}  {S : fS} {r : Int32} (h : f_X7_byteAt v1 S = some r) : mr X 0 mY_X7_byteAt 0 (lv_args 0 [.ref 1, .int v1]) [] (MM RR S) (some (.int r), MM RR S) := by
  unfold f_X7_byteAt at h
  show mr X _ _ 0 [(0, .ref 1), (1, .int v1)] [] (MM RR S) _
  refine mr_iload_n (pc' := 1) dX7_byteAt_0 rfl rfl ?_
  by_cases c1 : v1 < (0 : Int32)
  · rw [if_pos c1] at h
    refine mr_if_lt_t (t := 28) dX7_byteAt_1 (by decide) c1 ?_
    refine mr_iconst (pc' := 29) (v := (-1 : Int32)) dX7_byteAt_28 rfl (by decide) ?_
    obtain rfl := Option.some.inj h
    exact mr_ireturn dX7_byteAt_29 rfl
  · rw [if_neg c1] at h
    refine mr_if_lt_f (t := 28) (pc' := 4) dX7_byteAt_1 (by decide) rfl c1 ?_
    refine mr_iload_n (pc' := 5) dX7_byteAt_4 rfl rfl ?_
    refine mr_aload_n (pc' := 6) dX7_byteAt_5 rfl rfl ?_
    refine mr_getI (pc' := 9) (ci := 7) (j := 1) dX7_byteAt_6 rfl rfl rfl (by decide) (by decide) rfl ?_
    by_cases c2 : (S.1 1 1) ≤ v1
    · rw [if_pos c2] at h
      refine mr_icmp_ge_t (t := 28) dX7_byteAt_9 (by decide) c2 ?_
      refine mr_iconst (pc' := 29) (v := (-1 : Int32)) dX7_byteAt_28 rfl (by decide) ?_
      obtain rfl := Option.some.inj h
      exact mr_ireturn dX7_byteAt_29 rfl
    · rw [if_neg c2] at h
      refine mr_icmp_ge_f (t := 28) (pc' := 12) dX7_byteAt_9 (by decide) rfl c2 ?_
      refine mr_iload_n (pc' := 13) dX7_byteAt_12 rfl rfl ?_
      refine mr_sipush (pc' := 16) (v := (400 : Int32)) dX7_byteAt_13 rfl (by decide) ?_
      by_cases c3 : (400 : Int32) ≤ v1
      · rw [if_pos c3] at h
        refine mr_icmp_ge_t (t := 28) dX7_byteAt_16 (by decide) c3 ?_
        refine mr_iconst (pc' := 29) (v := (-1 : Int32)) dX7_byteAt_28 rfl (by decide) ?_
        obtain rfl := Option.some.inj h
        exact mr_ireturn dX7_byteAt_29 rfl
      · rw [if_neg c3] at h
        refine mr_icmp_ge_f (t := 28) (pc' := 19) dX7_byteAt_16 (by decide) rfl c3 ?_
        refine mr_aload_n (pc' := 20) dX7_byteAt_19 rfl rfl ?_
        refine mr_getR (pc' := 23) (ci := 7) (j := 0) (b := 2) hR dX7_byteAt_20 rfl rfl rfl (by decide) (by decide) (by decide) rfl rfl ?_
        refine mr_iload_n (pc' := 24) dX7_byteAt_23 rfl rfl ?_
        obtain ⟨a4, g5, h6⟩ := Option.bind_eq_some_iff.mp h
        refine mr_bald (pc' := 25) dX7_byteAt_24 rfl (Or.inl rfl) rfl g5 ?_
        refine mr_goto (t := 29) dX7_byteAt_25 (by decide) ?_
        obtain rfl := Option.some.inj h6
        exact mr_ireturn dX7_byteAt_29 rfl
def lp_X7_takeWord_11 (p1 : Nat) (p2 : Int32) (K : fS → Option (Int32 × fS)) : Nat → Int32 → fS → Option (Int32 × fS)
  | 0, _, _ => none
  | n + 1, p3, S0 =>
    if p2 ≤ p3 then (K S0) else
    ((f_X7_byteAt ((S0.1 1 2) + p3) S0).bind fun q8 =>
    (f_J0_charAt_5068e p1 p3).bind fun q11 =>
    if q8 = q11 then (lp_X7_takeWord_11 p1 p2 K n (p3 + (1 : Int32)) S0) else
    (some ((0 : Int32), S0)))
set_option maxHeartbeats 4000000 in
set_option maxRecDepth 100000 in
theorem ok_lp_X7_takeWord_11 {X : mm_C} {RR : Nat → Nat → Option Nat} (hR : RRok RR) {p1 : Nat} {p2 : Int32} (w1 : p1 < 16) {K : fS → Option (Int32 × fS)} {r : Int32 × fS} (hK : ∀ (Sk : fS), K Sk = some r → mr X 4 mY_X7_takeWord 42 [(0, .ref 1), (2, .int p2)] [] (MM RR Sk) (some (.int r.1), MM RR r.2)) : ∀ (n : Nat) (p3 : Int32) (S0 : fS), lp_X7_takeWord_11 p1 p2 K n p3 S0 = some r → mr X 4 mY_X7_takeWord 11 [(0, .ref 1), (1, .ref (mm_ext + 10 + p1)), (2, .int p2), (3, .int p3)] [] (MM RR S0) (some (.int r.1), MM RR r.2) := by
  intro n
  induction n with
  | zero => intro p3 S0 h; exact mm_no h
  | succ n ih =>
    intro p3 S0 h
    unfold lp_X7_takeWord_11 at h
    refine mr_iload_n (pc' := 12) dX7_takeWord_11 rfl rfl ?_
    refine mr_iload_n (pc' := 13) dX7_takeWord_12 rfl rfl ?_
    by_cases c7 : p2 ≤ p3
    · rw [if_pos c7] at h
      refine mr_icmp_ge_t (t := 42) dX7_takeWord_13 (by decide) c7 ?_
      exact mr_sub [(0, .ref 1), (2, .int p2)] ⟨rfl, rfl, trivial⟩ rfl (hK _  h)
    · rw [if_neg c7] at h
      refine mr_icmp_ge_f (t := 42) (pc' := 16) dX7_takeWord_13 (by decide) rfl c7 ?_
      refine mr_aload_n (pc' := 17) dX7_takeWord_16 rfl rfl ?_
      refine mr_aload_n (pc' := 18) dX7_takeWord_17 rfl rfl ?_
      refine mr_getI (pc' := 21) (ci := 7) (j := 2) dX7_takeWord_18 rfl rfl rfl (by decide) (by decide) rfl ?_
      refine mr_iload_n (pc' := 22) dX7_takeWord_21 rfl rfl ?_
      refine mr_iadd (pc' := 23) dX7_takeWord_22 rfl ?_
      obtain ⟨q8, g9, h10⟩ := Option.bind_eq_some_iff.mp h
      refine mr_cv (pc' := 26) (a := 1) (d1 := 0) dX7_takeWord_23 rfl rfl rfl rfl rfl rfl (by decide) rfl (by decide) (ok_X7_byteAt hR  g9) ?_
      show mr X _ _ 26 _ [.int q8] (MM RR S0) _
      refine mr_aload_n (pc' := 27) dX7_takeWord_26 rfl rfl ?_
      refine mr_iload_n (pc' := 28) dX7_takeWord_27 rfl rfl ?_
      obtain ⟨q11, g12, h13⟩ := Option.bind_eq_some_iff.mp h10
      refine mr_cvS (pc' := 31) (w := p1) (d1 := 3) dX7_takeWord_28 rfl rfl rfl rfl rfl rfl rfl w1 (by decide) (ok_J0_charAt_5068e w1 g12) ?_
      by_cases c14 : q8 = q11
      · rw [if_pos c14] at h13
        refine mr_icmp_eq_t (t := 36) dX7_takeWord_31 (by decide) c14 ?_
        refine mr_iinc (pc' := 39) (x' := (p3 + (1 : Int32))) (lv' := [(3, .int (p3 + (1 : Int32))), (0, .ref 1), (1, .ref (mm_ext + 10 + p1)), (2, .int p2)]) dX7_takeWord_36 rfl (by decide) rfl rfl rfl ?_
        refine mr_goto (t := 11) dX7_takeWord_39 (by decide) ?_
        exact mr_sub [(0, .ref 1), (1, .ref (mm_ext + 10 + p1)), (2, .int p2), (3, .int (p3 + (1 : Int32)))] ⟨rfl, rfl, rfl, rfl, trivial⟩ rfl (ih _ _  h13)
      · rw [if_neg c14] at h13
        refine mr_icmp_eq_f (t := 36) (pc' := 34) dX7_takeWord_31 (by decide) rfl c14 ?_
        refine mr_iconst (pc' := 35) (v := (0 : Int32)) dX7_takeWord_34 rfl (by decide) ?_
        obtain rfl := Option.some.inj h13
        exact mr_zreturn dX7_takeWord_35 rfl (by decide)
def f_X7_takeWord (v1 : Nat) (S : fS) : Option (Int32 × fS) :=
  (f_X7_skipBlanks  S).bind fun q1 =>
  (f_J0_length_8abf5 v1).bind fun q4 =>
  lp_X7_takeWord_11 v1 q4 (fun S15 => (f_X7_byteAt ((S15.1 1 2) + q4) S15).bind fun q17 =>
  if q17 < (97 : Int32) then ((some (pI S15 1 3 (S15.1 1 2))).bind fun S21 =>
  (some (pI S21 1 2 ((S21.1 1 2) + q4))).bind fun S24 =>
  some ((1 : Int32), S24)) else
  (if (122 : Int32) < q17 then ((some (pI S15 1 3 (S15.1 1 2))).bind fun S28 =>
  (some (pI S28 1 2 ((S28.1 1 2) + q4))).bind fun S31 =>
  some ((1 : Int32), S31)) else
  (some ((0 : Int32), S15)))) FU (0 : Int32) q1
set_option maxHeartbeats 4000000 in
set_option maxRecDepth 100000 in
theorem ok_X7_takeWord {X : mm_C} {RR : Nat → Nat → Option Nat} (hR : RRok RR) {v1 : Nat} (w1 : v1 < 16) {S : fS} {r : Int32 × fS} (h : f_X7_takeWord v1 S = some r) : mr X 4 mY_X7_takeWord 0 (lv_args 0 [.ref 1, .ref (mm_ext + 10 + v1)]) [] (MM RR S) (some (.int r.1), MM RR r.2) := by
  unfold f_X7_takeWord at h
  show mr X _ _ 0 [(0, .ref 1), (1, .ref (mm_ext + 10 + v1))] [] (MM RR S) _
  refine mr_aload_n (pc' := 1) dX7_takeWord_0 rfl rfl ?_
  obtain ⟨q1, g2, h3⟩ := Option.bind_eq_some_iff.mp h
  refine mr_cv (pc' := 4) (a := 1) (d1 := 0) dX7_takeWord_1 rfl rfl rfl rfl rfl rfl (by decide) rfl (by decide) (ok_X7_skipBlanks hR  g2) ?_
  show mr X _ _ 4 _ [] (MM RR q1) _
  refine mr_aload_n (pc' := 5) dX7_takeWord_4 rfl rfl ?_
  obtain ⟨q4, g5, h6⟩ := Option.bind_eq_some_iff.mp h3
  refine mr_cvS (pc' := 8) (w := v1) (d1 := 1) dX7_takeWord_5 rfl rfl rfl rfl rfl rfl rfl w1 (by decide) (ok_J0_length_8abf5 w1 g5) ?_
  refine mr_istore_n (pc' := 9) (lv' := [(2, .int q4), (0, .ref 1), (1, .ref (mm_ext + 10 + v1))]) dX7_takeWord_8 rfl (by decide) rfl ?_
  refine mr_iconst (pc' := 10) (v := (0 : Int32)) dX7_takeWord_9 rfl (by decide) ?_
  refine mr_istore_n (pc' := 11) (lv' := [(3, .int (0 : Int32)), (2, .int q4), (0, .ref 1), (1, .ref (mm_ext + 10 + v1))]) dX7_takeWord_10 rfl (by decide) rfl ?_
  refine mr_sub [(0, .ref 1), (1, .ref (mm_ext + 10 + v1)), (2, .int q4), (3, .int (0 : Int32))] ⟨rfl, rfl, rfl, rfl, trivial⟩ rfl ?_
  refine ok_lp_X7_takeWord_11 hR w1 (fun S15 h16 => ?_) FU _ _  h6
  refine mr_aload_n (pc' := 43) dX7_takeWord_42 rfl rfl ?_
  refine mr_aload_n (pc' := 44) dX7_takeWord_43 rfl rfl ?_
  refine mr_getI (pc' := 47) (ci := 7) (j := 2) dX7_takeWord_44 rfl rfl rfl (by decide) (by decide) rfl ?_
  refine mr_iload_n (pc' := 48) dX7_takeWord_47 rfl rfl ?_
  refine mr_iadd (pc' := 49) dX7_takeWord_48 rfl ?_
  obtain ⟨q17, g18, h19⟩ := Option.bind_eq_some_iff.mp h16
  refine mr_cv (pc' := 52) (a := 1) (d1 := 0) dX7_takeWord_49 rfl rfl rfl rfl rfl rfl (by decide) rfl (by decide) (ok_X7_byteAt hR  g18) ?_
  show mr X _ _ 52 _ [.int q17] (MM RR S15) _
  refine mr_istore_n (pc' := 53) (lv' := [(3, .int q17), (0, .ref 1), (2, .int q4)]) dX7_takeWord_52 rfl (by decide) rfl ?_
  refine mr_iload_n (pc' := 54) dX7_takeWord_53 rfl rfl ?_
  refine mr_bipush (pc' := 56) (v := (97 : Int32)) dX7_takeWord_54 rfl (by decide) ?_
  by_cases c20 : q17 < (97 : Int32)
  · rw [if_pos c20] at h19
    refine mr_icmp_lt_t (t := 67) dX7_takeWord_56 (by decide) c20 ?_
    refine mr_aload_n (pc' := 68) dX7_takeWord_67 rfl rfl ?_
    refine mr_aload_n (pc' := 69) dX7_takeWord_68 rfl rfl ?_
    refine mr_getI (pc' := 72) (ci := 7) (j := 2) dX7_takeWord_69 rfl rfl rfl (by decide) (by decide) rfl ?_
    obtain ⟨S21, g22, h23⟩ := Option.bind_eq_some_iff.mp h19
    refine mr_putI (pc' := 75) (ci := 7) (j := 3) dX7_takeWord_72 rfl rfl rfl (by decide) (by decide) rfl rfl ?_
    rw [Option.some.inj g22]
    refine mr_aload_n (pc' := 76) dX7_takeWord_75 rfl rfl ?_
    refine mr_dup_ref (pc' := 77) dX7_takeWord_76 rfl ?_
    refine mr_getI (pc' := 80) (ci := 7) (j := 2) dX7_takeWord_77 rfl rfl rfl (by decide) (by decide) rfl ?_
    refine mr_iload_n (pc' := 81) dX7_takeWord_80 rfl rfl ?_
    refine mr_iadd (pc' := 82) dX7_takeWord_81 rfl ?_
    obtain ⟨S24, g25, h26⟩ := Option.bind_eq_some_iff.mp h23
    refine mr_putI (pc' := 85) (ci := 7) (j := 2) dX7_takeWord_82 rfl rfl rfl (by decide) (by decide) rfl rfl ?_
    rw [Option.some.inj g25]
    refine mr_iconst (pc' := 86) (v := (1 : Int32)) dX7_takeWord_85 rfl (by decide) ?_
    obtain rfl := Option.some.inj h26
    exact mr_zreturn dX7_takeWord_86 rfl (by decide)
  · rw [if_neg c20] at h19
    refine mr_icmp_lt_f (t := 67) (pc' := 59) dX7_takeWord_56 (by decide) rfl c20 ?_
    refine mr_iload_n (pc' := 60) dX7_takeWord_59 rfl rfl ?_
    refine mr_bipush (pc' := 62) (v := (122 : Int32)) dX7_takeWord_60 rfl (by decide) ?_
    by_cases c27 : (122 : Int32) < q17
    · rw [if_pos c27] at h19
      refine mr_icmp_gt_t (t := 67) dX7_takeWord_62 (by decide) c27 ?_
      refine mr_aload_n (pc' := 68) dX7_takeWord_67 rfl rfl ?_
      refine mr_aload_n (pc' := 69) dX7_takeWord_68 rfl rfl ?_
      refine mr_getI (pc' := 72) (ci := 7) (j := 2) dX7_takeWord_69 rfl rfl rfl (by decide) (by decide) rfl ?_
      obtain ⟨S28, g29, h30⟩ := Option.bind_eq_some_iff.mp h19
      refine mr_putI (pc' := 75) (ci := 7) (j := 3) dX7_takeWord_72 rfl rfl rfl (by decide) (by decide) rfl rfl ?_
      rw [Option.some.inj g29]
      refine mr_aload_n (pc' := 76) dX7_takeWord_75 rfl rfl ?_
      refine mr_dup_ref (pc' := 77) dX7_takeWord_76 rfl ?_
      refine mr_getI (pc' := 80) (ci := 7) (j := 2) dX7_takeWord_77 rfl rfl rfl (by decide) (by decide) rfl ?_
      refine mr_iload_n (pc' := 81) dX7_takeWord_80 rfl rfl ?_
      refine mr_iadd (pc' := 82) dX7_takeWord_81 rfl ?_
      obtain ⟨S31, g32, h33⟩ := Option.bind_eq_some_iff.mp h30
      refine mr_putI (pc' := 85) (ci := 7) (j := 2) dX7_takeWord_82 rfl rfl rfl (by decide) (by decide) rfl rfl ?_
      rw [Option.some.inj g32]
      refine mr_iconst (pc' := 86) (v := (1 : Int32)) dX7_takeWord_85 rfl (by decide) ?_
      obtain rfl := Option.some.inj h33
      exact mr_zreturn dX7_takeWord_86 rfl (by decide)
    · rw [if_neg c27] at h19
      refine mr_icmp_gt_f (t := 67) (pc' := 65) dX7_takeWord_62 (by decide) rfl c27 ?_
      refine mr_iconst (pc' := 66) (v := (0 : Int32)) dX7_takeWord_65 rfl (by decide) ?_
      obtain rfl := Option.some.inj h19
      exact mr_zreturn dX7_takeWord_66 rfl (by decide)
def f_X7_fail (v1 : Int32) (v2 : Int32) (S : fS) : Option (Int32 × fS) :=
  (some (pI S 1 4 (((1 : Int32) + ((8 : Int32) * v1)) + v2))).bind fun S1 =>
  some ((0 : Int32), S1)
set_option maxHeartbeats 4000000 in
set_option maxRecDepth 100000 in
theorem ok_X7_fail {X : mm_C} {RR : Nat → Nat → Option Nat} (hR : RRok RR) {v1 : Int32} {v2 : Int32}  {S : fS} {r : Int32 × fS} (h : f_X7_fail v1 v2 S = some r) : mr X 0 mY_X7_fail 0 (lv_args 0 [.ref 1, .int v1, .int v2]) [] (MM RR S) (some (.int r.1), MM RR r.2) := by
  unfold f_X7_fail at h
  show mr X _ _ 0 [(0, .ref 1), (1, .int v1), (2, .int v2)] [] (MM RR S) _
  refine mr_aload_n (pc' := 1) dX7_fail_0 rfl rfl ?_
  refine mr_iconst (pc' := 2) (v := (1 : Int32)) dX7_fail_1 rfl (by decide) ?_
  refine mr_bipush (pc' := 4) (v := (8 : Int32)) dX7_fail_2 rfl (by decide) ?_
  refine mr_iload_n (pc' := 5) dX7_fail_4 rfl rfl ?_
  refine mr_imul (pc' := 6) dX7_fail_5 rfl ?_
  refine mr_iadd (pc' := 7) dX7_fail_6 rfl ?_
  refine mr_iload_n (pc' := 8) dX7_fail_7 rfl rfl ?_
  refine mr_iadd (pc' := 9) dX7_fail_8 rfl ?_
  obtain ⟨S1, g2, h3⟩ := Option.bind_eq_some_iff.mp h
  refine mr_putI (pc' := 12) (ci := 7) (j := 4) dX7_fail_9 rfl rfl rfl (by decide) (by decide) rfl rfl ?_
  rw [Option.some.inj g2]
  refine mr_iconst (pc' := 13) (v := (0 : Int32)) dX7_fail_12 rfl (by decide) ?_
  obtain rfl := Option.some.inj h3
  exact mr_zreturn dX7_fail_13 rfl (by decide)
def f_X7_isDigitAt (v1 : Int32) (S : fS) : Option (Int32) :=
  (f_X7_byteAt v1 S).bind fun q1 =>
  if q1 < (48 : Int32) then (some (0 : Int32)) else
  (if (57 : Int32) < q1 then (some (0 : Int32)) else
  (some (1 : Int32)))
set_option maxHeartbeats 4000000 in
set_option maxRecDepth 100000 in
theorem ok_X7_isDigitAt {X : mm_C} {RR : Nat → Nat → Option Nat} (hR : RRok RR) {v1 : Int32}  {S : fS} {r : Int32} (h : f_X7_isDigitAt v1 S = some r) : mr X 1 mY_X7_isDigitAt 0 (lv_args 0 [.ref 1, .int v1]) [] (MM RR S) (some (.int r), MM RR S) := by
  unfold f_X7_isDigitAt at h
  show mr X _ _ 0 [(0, .ref 1), (1, .int v1)] [] (MM RR S) _
  refine mr_aload_n (pc' := 1) dX7_isDigitAt_0 rfl rfl ?_
  refine mr_iload_n (pc' := 2) dX7_isDigitAt_1 rfl rfl ?_
  obtain ⟨q1, g2, h3⟩ := Option.bind_eq_some_iff.mp h
  refine mr_cv (pc' := 5) (a := 1) (d1 := 0) dX7_isDigitAt_2 rfl rfl rfl rfl rfl rfl (by decide) rfl (by decide) (ok_X7_byteAt hR  g2) ?_
  show mr X _ _ 5 _ [.int q1] (MM RR S) _
  refine mr_istore_n (pc' := 6) (lv' := [(2, .int q1), (0, .ref 1), (1, .int v1)]) dX7_isDigitAt_5 rfl (by decide) rfl ?_
  refine mr_iload_n (pc' := 7) dX7_isDigitAt_6 rfl rfl ?_
  refine mr_bipush (pc' := 9) (v := (48 : Int32)) dX7_isDigitAt_7 rfl (by decide) ?_
  by_cases c4 : q1 < (48 : Int32)
  · rw [if_pos c4] at h3
    refine mr_icmp_lt_t (t := 22) dX7_isDigitAt_9 (by decide) c4 ?_
    refine mr_iconst (pc' := 23) (v := (0 : Int32)) dX7_isDigitAt_22 rfl (by decide) ?_
    obtain rfl := Option.some.inj h3
    exact mr_zreturn dX7_isDigitAt_23 rfl (by decide)
  · rw [if_neg c4] at h3
    refine mr_icmp_lt_f (t := 22) (pc' := 12) dX7_isDigitAt_9 (by decide) rfl c4 ?_
    refine mr_iload_n (pc' := 13) dX7_isDigitAt_12 rfl rfl ?_
    refine mr_bipush (pc' := 15) (v := (57 : Int32)) dX7_isDigitAt_13 rfl (by decide) ?_
    by_cases c5 : (57 : Int32) < q1
    · rw [if_pos c5] at h3
      refine mr_icmp_gt_t (t := 22) dX7_isDigitAt_15 (by decide) c5 ?_
      refine mr_iconst (pc' := 23) (v := (0 : Int32)) dX7_isDigitAt_22 rfl (by decide) ?_
      obtain rfl := Option.some.inj h3
      exact mr_zreturn dX7_isDigitAt_23 rfl (by decide)
    · rw [if_neg c5] at h3
      refine mr_icmp_gt_f (t := 22) (pc' := 18) dX7_isDigitAt_15 (by decide) rfl c5 ?_
      refine mr_iconst (pc' := 19) (v := (1 : Int32)) dX7_isDigitAt_18 rfl (by decide) ?_
      refine mr_goto (t := 23) dX7_isDigitAt_19 (by decide) ?_
      obtain rfl := Option.some.inj h3
      exact mr_zreturn dX7_isDigitAt_23 rfl (by decide)
def lp_X7_takeNumber_14 (p1 : Int32) (p2 : Int32) (K : Int32 → fS → Option (Int32 × fS)) : Nat → Int32 → fS → Option (Int32 × fS)
  | 0, _, _ => none
  | n + 1, p3, S0 =>
    if (S0.1 1 1) ≤ (S0.1 1 2) then (K p3 S0) else
    ((f_X7_isDigitAt (S0.1 1 2) S0).bind fun q8 =>
    if q8 = (0 : Int32) then (K p3 S0) else
    (if (5 : Int32) ≤ ((S0.1 1 2) - (S0.1 1 3)) then ((some (pI S0 1 2 ((S0.1 1 2) + (1 : Int32)))).bind fun S13 =>
    lp_X7_takeNumber_14 p1 p2 K n p3 S13) else
    ((f_X7_byteAt (S0.1 1 2) S0).bind fun q16 =>
    (some (pI S0 1 2 ((S0.1 1 2) + (1 : Int32)))).bind fun S19 =>
    lp_X7_takeNumber_14 p1 p2 K n (((p3 * (10 : Int32)) + q16) - (48 : Int32)) S19)))
set_option maxHeartbeats 4000000 in
set_option maxRecDepth 100000 in
theorem ok_lp_X7_takeNumber_14 {X : mm_C} {RR : Nat → Nat → Option Nat} (hR : RRok RR) {p1 : Int32} {p2 : Int32}  {K : Int32 → fS → Option (Int32 × fS)} {r : Int32 × fS} (hK : ∀ (k3 : Int32) (Sk : fS), K k3 Sk = some r → mr X 2 mY_X7_takeNumber 79 [(0, .ref 1), (1, .int p1), (2, .int p2), (3, .int k3)] [] (MM RR Sk) (some (.int r.1), MM RR r.2)) : ∀ (n : Nat) (p3 : Int32) (S0 : fS), lp_X7_takeNumber_14 p1 p2 K n p3 S0 = some r → mr X 2 mY_X7_takeNumber 14 [(0, .ref 1), (1, .int p1), (2, .int p2), (3, .int p3)] [] (MM RR S0) (some (.int r.1), MM RR r.2) := by
  intro n
  induction n with
  | zero => intro p3 S0 h; exact mm_no h
  | succ n ih =>
    intro p3 S0 h
    unfold lp_X7_takeNumber_14 at h
    refine mr_aload_n (pc' := 15) dX7_takeNumber_14 rfl rfl ?_
    refine mr_getI (pc' := 18) (ci := 7) (j := 2) dX7_takeNumber_15 rfl rfl rfl (by decide) (by decide) rfl ?_
    refine mr_aload_n (pc' := 19) dX7_takeNumber_18 rfl rfl ?_
    refine mr_getI (pc' := 22) (ci := 7) (j := 1) dX7_takeNumber_19 rfl rfl rfl (by decide) (by decide) rfl ?_
    by_cases c7 : (S0.1 1 1) ≤ (S0.1 1 2)
    · rw [if_pos c7] at h
      refine mr_icmp_ge_t (t := 79) dX7_takeNumber_22 (by decide) c7 ?_
      exact mr_sub [(0, .ref 1), (1, .int p1), (2, .int p2), (3, .int p3)] ⟨rfl, rfl, rfl, rfl, trivial⟩ rfl (hK _ _  h)
    · rw [if_neg c7] at h
      refine mr_icmp_ge_f (t := 79) (pc' := 25) dX7_takeNumber_22 (by decide) rfl c7 ?_
      refine mr_aload_n (pc' := 26) dX7_takeNumber_25 rfl rfl ?_
      refine mr_aload_n (pc' := 27) dX7_takeNumber_26 rfl rfl ?_
      refine mr_getI (pc' := 30) (ci := 7) (j := 2) dX7_takeNumber_27 rfl rfl rfl (by decide) (by decide) rfl ?_
      obtain ⟨q8, g9, h10⟩ := Option.bind_eq_some_iff.mp h
      refine mr_cv (pc' := 33) (a := 1) (d1 := 1) dX7_takeNumber_30 rfl rfl rfl rfl rfl rfl (by decide) rfl (by decide) (ok_X7_isDigitAt hR  g9) ?_
      show mr X _ _ 33 _ [.int q8] (MM RR S0) _
      by_cases c11 : q8 = (0 : Int32)
      · rw [if_pos c11] at h10
        refine mr_if_eq_t (t := 79) dX7_takeNumber_33 (by decide) c11 ?_
        exact mr_sub [(0, .ref 1), (1, .int p1), (2, .int p2), (3, .int p3)] ⟨rfl, rfl, rfl, rfl, trivial⟩ rfl (hK _ _  h10)
      · rw [if_neg c11] at h10
        refine mr_if_eq_f (t := 79) (pc' := 36) dX7_takeNumber_33 (by decide) rfl c11 ?_
        refine mr_aload_n (pc' := 37) dX7_takeNumber_36 rfl rfl ?_
        refine mr_getI (pc' := 40) (ci := 7) (j := 2) dX7_takeNumber_37 rfl rfl rfl (by decide) (by decide) rfl ?_
        refine mr_aload_n (pc' := 41) dX7_takeNumber_40 rfl rfl ?_
        refine mr_getI (pc' := 44) (ci := 7) (j := 3) dX7_takeNumber_41 rfl rfl rfl (by decide) (by decide) rfl ?_
        refine mr_isub (pc' := 45) dX7_takeNumber_44 rfl ?_
        refine mr_iconst (pc' := 46) (v := (5 : Int32)) dX7_takeNumber_45 rfl (by decide) ?_
        by_cases c12 : (5 : Int32) ≤ ((S0.1 1 2) - (S0.1 1 3))
        · rw [if_pos c12] at h10
          refine mr_icmp_ge_t (t := 66) dX7_takeNumber_46 (by decide) c12 ?_
          refine mr_aload_n (pc' := 67) dX7_takeNumber_66 rfl rfl ?_
          refine mr_dup_ref (pc' := 68) dX7_takeNumber_67 rfl ?_
          refine mr_getI (pc' := 71) (ci := 7) (j := 2) dX7_takeNumber_68 rfl rfl rfl (by decide) (by decide) rfl ?_
          refine mr_iconst (pc' := 72) (v := (1 : Int32)) dX7_takeNumber_71 rfl (by decide) ?_
          refine mr_iadd (pc' := 73) dX7_takeNumber_72 rfl ?_
          obtain ⟨S13, g14, h15⟩ := Option.bind_eq_some_iff.mp h10
          refine mr_putI (pc' := 76) (ci := 7) (j := 2) dX7_takeNumber_73 rfl rfl rfl (by decide) (by decide) rfl rfl ?_
          rw [Option.some.inj g14]
          refine mr_goto (t := 14) dX7_takeNumber_76 (by decide) ?_
          exact mr_sub [(0, .ref 1), (1, .int p1), (2, .int p2), (3, .int p3)] ⟨rfl, rfl, rfl, rfl, trivial⟩ rfl (ih _ _  h15)
        · rw [if_neg c12] at h10
          refine mr_icmp_ge_f (t := 66) (pc' := 49) dX7_takeNumber_46 (by decide) rfl c12 ?_
          refine mr_iload_n (pc' := 50) dX7_takeNumber_49 rfl rfl ?_
          refine mr_bipush (pc' := 52) (v := (10 : Int32)) dX7_takeNumber_50 rfl (by decide) ?_
          refine mr_imul (pc' := 53) dX7_takeNumber_52 rfl ?_
          refine mr_aload_n (pc' := 54) dX7_takeNumber_53 rfl rfl ?_
          refine mr_aload_n (pc' := 55) dX7_takeNumber_54 rfl rfl ?_
          refine mr_getI (pc' := 58) (ci := 7) (j := 2) dX7_takeNumber_55 rfl rfl rfl (by decide) (by decide) rfl ?_
          obtain ⟨q16, g17, h18⟩ := Option.bind_eq_some_iff.mp h10
          refine mr_cv (pc' := 61) (a := 1) (d1 := 0) dX7_takeNumber_58 rfl rfl rfl rfl rfl rfl (by decide) rfl (by decide) (ok_X7_byteAt hR  g17) ?_
          show mr X _ _ 61 _ [.int q16, .int (p3 * (10 : Int32))] (MM RR S0) _
          refine mr_iadd (pc' := 62) dX7_takeNumber_61 rfl ?_
          refine mr_bipush (pc' := 64) (v := (48 : Int32)) dX7_takeNumber_62 rfl (by decide) ?_
          refine mr_isub (pc' := 65) dX7_takeNumber_64 rfl ?_
          refine mr_istore_n (pc' := 66) (lv' := [(3, .int (((p3 * (10 : Int32)) + q16) - (48 : Int32))), (0, .ref 1), (1, .int p1), (2, .int p2)]) dX7_takeNumber_65 rfl (by decide) rfl ?_
          refine mr_aload_n (pc' := 67) dX7_takeNumber_66 rfl rfl ?_
          refine mr_dup_ref (pc' := 68) dX7_takeNumber_67 rfl ?_
          refine mr_getI (pc' := 71) (ci := 7) (j := 2) dX7_takeNumber_68 rfl rfl rfl (by decide) (by decide) rfl ?_
          refine mr_iconst (pc' := 72) (v := (1 : Int32)) dX7_takeNumber_71 rfl (by decide) ?_
          refine mr_iadd (pc' := 73) dX7_takeNumber_72 rfl ?_
          obtain ⟨S19, g20, h21⟩ := Option.bind_eq_some_iff.mp h18
          refine mr_putI (pc' := 76) (ci := 7) (j := 2) dX7_takeNumber_73 rfl rfl rfl (by decide) (by decide) rfl rfl ?_
          rw [Option.some.inj g20]
          refine mr_goto (t := 14) dX7_takeNumber_76 (by decide) ?_
          exact mr_sub [(0, .ref 1), (1, .int p1), (2, .int p2), (3, .int (((p3 * (10 : Int32)) + q16) - (48 : Int32)))] ⟨rfl, rfl, rfl, rfl, trivial⟩ rfl (ih _ _  h21)
def f_X7_takeNumber (v1 : Int32) (v2 : Int32) (S : fS) : Option (Int32 × fS) :=
  (f_X7_skipBlanks  S).bind fun q1 =>
  (some (pI q1 1 3 (q1.1 1 2))).bind fun S4 =>
  lp_X7_takeNumber_14 v1 v2 (fun u22 S23 => if (S23.1 1 2) = (S23.1 1 3) then ((f_X7_fail (S23.1 1 3) (0 : Int32) S23).bind fun q37 =>
  some ((-1 : Int32), q37.2)) else
  (if (5 : Int32) < ((S23.1 1 2) - (S23.1 1 3)) then ((f_X7_fail (S23.1 1 3) (1 : Int32) S23).bind fun q27 =>
  some ((-1 : Int32), q27.2)) else
  ((f_X10_isFrom u22 v1 v2 S23).bind fun q30 =>
  if q30 = (0 : Int32) then ((f_X7_fail (S23.1 1 3) (1 : Int32) S23).bind fun q34 =>
  some ((-1 : Int32), q34.2)) else
  (some (u22, S23))))) FU (0 : Int32) S4
set_option maxHeartbeats 4000000 in
set_option maxRecDepth 100000 in
theorem ok_X7_takeNumber {X : mm_C} {RR : Nat → Nat → Option Nat} (hR : RRok RR) {v1 : Int32} {v2 : Int32}  {S : fS} {r : Int32 × fS} (h : f_X7_takeNumber v1 v2 S = some r) : mr X 2 mY_X7_takeNumber 0 (lv_args 0 [.ref 1, .int v1, .int v2]) [] (MM RR S) (some (.int r.1), MM RR r.2) := by
  unfold f_X7_takeNumber at h
  show mr X _ _ 0 [(0, .ref 1), (1, .int v1), (2, .int v2)] [] (MM RR S) _
  refine mr_aload_n (pc' := 1) dX7_takeNumber_0 rfl rfl ?_
  obtain ⟨q1, g2, h3⟩ := Option.bind_eq_some_iff.mp h
  refine mr_cv (pc' := 4) (a := 1) (d1 := 0) dX7_takeNumber_1 rfl rfl rfl rfl rfl rfl (by decide) rfl (by decide) (ok_X7_skipBlanks hR  g2) ?_
  show mr X _ _ 4 _ [] (MM RR q1) _
  refine mr_aload_n (pc' := 5) dX7_takeNumber_4 rfl rfl ?_
  refine mr_aload_n (pc' := 6) dX7_takeNumber_5 rfl rfl ?_
  refine mr_getI (pc' := 9) (ci := 7) (j := 2) dX7_takeNumber_6 rfl rfl rfl (by decide) (by decide) rfl ?_
  obtain ⟨S4, g5, h6⟩ := Option.bind_eq_some_iff.mp h3
  refine mr_putI (pc' := 12) (ci := 7) (j := 3) dX7_takeNumber_9 rfl rfl rfl (by decide) (by decide) rfl rfl ?_
  rw [Option.some.inj g5]
  refine mr_iconst (pc' := 13) (v := (0 : Int32)) dX7_takeNumber_12 rfl (by decide) ?_
  refine mr_istore_n (pc' := 14) (lv' := [(3, .int (0 : Int32)), (0, .ref 1), (1, .int v1), (2, .int v2)]) dX7_takeNumber_13 rfl (by decide) rfl ?_
  refine mr_sub [(0, .ref 1), (1, .int v1), (2, .int v2), (3, .int (0 : Int32))] ⟨rfl, rfl, rfl, rfl, trivial⟩ rfl ?_
  refine ok_lp_X7_takeNumber_14 hR  (fun u22 S23 h24 => ?_) FU _ _  h6
  refine mr_aload_n (pc' := 80) dX7_takeNumber_79 rfl rfl ?_
  refine mr_getI (pc' := 83) (ci := 7) (j := 2) dX7_takeNumber_80 rfl rfl rfl (by decide) (by decide) rfl ?_
  refine mr_aload_n (pc' := 84) dX7_takeNumber_83 rfl rfl ?_
  refine mr_getI (pc' := 87) (ci := 7) (j := 3) dX7_takeNumber_84 rfl rfl rfl (by decide) (by decide) rfl ?_
  by_cases c25 : (S23.1 1 2) = (S23.1 1 3)
  · rw [if_pos c25] at h24
    refine mr_icmp_ne_f (t := 102) (pc' := 90) dX7_takeNumber_87 (by decide) rfl (not_not_intro c25) ?_
    refine mr_aload_n (pc' := 91) dX7_takeNumber_90 rfl rfl ?_
    refine mr_aload_n (pc' := 92) dX7_takeNumber_91 rfl rfl ?_
    refine mr_getI (pc' := 95) (ci := 7) (j := 3) dX7_takeNumber_92 rfl rfl rfl (by decide) (by decide) rfl ?_
    refine mr_iconst (pc' := 96) (v := (0 : Int32)) dX7_takeNumber_95 rfl (by decide) ?_
    obtain ⟨q37, g38, h39⟩ := Option.bind_eq_some_iff.mp h24
    refine mr_cv (pc' := 99) (a := 1) (d1 := 0) dX7_takeNumber_96 rfl rfl rfl rfl rfl rfl (by decide) rfl (by decide) (ok_X7_fail hR  g38) ?_
    show mr X _ _ 99 _ [.int q37.1] (MM RR q37.2) _
    refine mr_pop_int (pc' := 100) dX7_takeNumber_99 rfl ?_
    refine mr_iconst (pc' := 101) (v := (-1 : Int32)) dX7_takeNumber_100 rfl (by decide) ?_
    obtain rfl := Option.some.inj h39
    exact mr_ireturn dX7_takeNumber_101 rfl
  · rw [if_neg c25] at h24
    refine mr_icmp_ne_t (t := 102) dX7_takeNumber_87 (by decide) c25 ?_
    refine mr_aload_n (pc' := 103) dX7_takeNumber_102 rfl rfl ?_
    refine mr_getI (pc' := 106) (ci := 7) (j := 2) dX7_takeNumber_103 rfl rfl rfl (by decide) (by decide) rfl ?_
    refine mr_aload_n (pc' := 107) dX7_takeNumber_106 rfl rfl ?_
    refine mr_getI (pc' := 110) (ci := 7) (j := 3) dX7_takeNumber_107 rfl rfl rfl (by decide) (by decide) rfl ?_
    refine mr_isub (pc' := 111) dX7_takeNumber_110 rfl ?_
    refine mr_iconst (pc' := 112) (v := (5 : Int32)) dX7_takeNumber_111 rfl (by decide) ?_
    by_cases c26 : (5 : Int32) < ((S23.1 1 2) - (S23.1 1 3))
    · rw [if_pos c26] at h24
      refine mr_icmp_gt_t (t := 124) dX7_takeNumber_112 (by decide) c26 ?_
      refine mr_aload_n (pc' := 125) dX7_takeNumber_124 rfl rfl ?_
      refine mr_aload_n (pc' := 126) dX7_takeNumber_125 rfl rfl ?_
      refine mr_getI (pc' := 129) (ci := 7) (j := 3) dX7_takeNumber_126 rfl rfl rfl (by decide) (by decide) rfl ?_
      refine mr_iconst (pc' := 130) (v := (1 : Int32)) dX7_takeNumber_129 rfl (by decide) ?_
      obtain ⟨q27, g28, h29⟩ := Option.bind_eq_some_iff.mp h24
      refine mr_cv (pc' := 133) (a := 1) (d1 := 0) dX7_takeNumber_130 rfl rfl rfl rfl rfl rfl (by decide) rfl (by decide) (ok_X7_fail hR  g28) ?_
      show mr X _ _ 133 _ [.int q27.1] (MM RR q27.2) _
      refine mr_pop_int (pc' := 134) dX7_takeNumber_133 rfl ?_
      refine mr_iconst (pc' := 135) (v := (-1 : Int32)) dX7_takeNumber_134 rfl (by decide) ?_
      obtain rfl := Option.some.inj h29
      exact mr_ireturn dX7_takeNumber_135 rfl
    · rw [if_neg c26] at h24
      refine mr_icmp_gt_f (t := 124) (pc' := 115) dX7_takeNumber_112 (by decide) rfl c26 ?_
      refine mr_iload_n (pc' := 116) dX7_takeNumber_115 rfl rfl ?_
      refine mr_iload_n (pc' := 117) dX7_takeNumber_116 rfl rfl ?_
      refine mr_iload_n (pc' := 118) dX7_takeNumber_117 rfl rfl ?_
      obtain ⟨q30, g31, h32⟩ := Option.bind_eq_some_iff.mp h24
      refine mr_cs (pc' := 121) (d1 := 0) dX7_takeNumber_118 rfl rfl rfl rfl (by decide) (Nat.le_of_ble_eq_true rfl) rfl rfl rfl (by decide) (ok_X10_isFrom hR  g31) ?_
      show mr X _ _ 121 _ [.int q30] (MM RR S23) _
      by_cases c33 : q30 = (0 : Int32)
      · rw [if_pos c33] at h32
        refine mr_if_ne_f (t := 136) (pc' := 124) dX7_takeNumber_121 (by decide) rfl (not_not_intro c33) ?_
        refine mr_aload_n (pc' := 125) dX7_takeNumber_124 rfl rfl ?_
        refine mr_aload_n (pc' := 126) dX7_takeNumber_125 rfl rfl ?_
        refine mr_getI (pc' := 129) (ci := 7) (j := 3) dX7_takeNumber_126 rfl rfl rfl (by decide) (by decide) rfl ?_
        refine mr_iconst (pc' := 130) (v := (1 : Int32)) dX7_takeNumber_129 rfl (by decide) ?_
        obtain ⟨q34, g35, h36⟩ := Option.bind_eq_some_iff.mp h32
        refine mr_cv (pc' := 133) (a := 1) (d1 := 0) dX7_takeNumber_130 rfl rfl rfl rfl rfl rfl (by decide) rfl (by decide) (ok_X7_fail hR  g35) ?_
        show mr X _ _ 133 _ [.int q34.1] (MM RR q34.2) _
        refine mr_pop_int (pc' := 134) dX7_takeNumber_133 rfl ?_
        refine mr_iconst (pc' := 135) (v := (-1 : Int32)) dX7_takeNumber_134 rfl (by decide) ?_
        obtain rfl := Option.some.inj h36
        exact mr_ireturn dX7_takeNumber_135 rfl
      · rw [if_neg c33] at h32
        refine mr_if_ne_t (t := 136) dX7_takeNumber_121 (by decide) c33 ?_
        refine mr_iload_n (pc' := 137) dX7_takeNumber_136 rfl rfl ?_
        obtain rfl := Option.some.inj h32
        exact mr_ireturn dX7_takeNumber_137 rfl
def f_X9_readPace  (S : fS) : Option (Int64 × fS) :=
  (f_X7_takeNumber (1 : Int32) (20 : Int32) S).bind fun q1 =>
  if (0 : Int32) ≤ q1.1 then ((f_X7_takeNumber (1 : Int32) (20 : Int32) q1.2).bind fun q5 =>
  if (0 : Int32) < q5.1 then ((dL (232792560 : Int64) (Int32.toInt64 q5.1)).bind fun a9 =>
  some (((Int32.toInt64 q1.1) * a9), q5.2)) else
  (some ((-1 : Int64), q5.2))) else
  (some ((-1 : Int64), q1.2))
set_option maxHeartbeats 4000000 in
set_option maxRecDepth 100000 in
theorem ok_X9_readPace {X : mm_C} {RR : Nat → Nat → Option Nat} (hR : RRok RR)   {S : fS} {r : Int64 × fS} (h : f_X9_readPace  S = some r) : mr X 3 mY_X9_readPace 0 (lv_args 0 [.ref 37]) [] (MM RR S) (some (.long r.1), MM RR r.2) := by
  unfold f_X9_readPace at h
  show mr X _ _ 0 [(0, .ref 37)] [] (MM RR S) _
  refine mr_aload_n (pc' := 1) dX9_readPace_0 rfl rfl ?_
  refine mr_getR (pc' := 4) (ci := 9) (j := 0) (b := 1) hR dX9_readPace_1 rfl rfl rfl (by decide) (by decide) (by decide) rfl rfl ?_
  refine mr_iconst (pc' := 5) (v := (1 : Int32)) dX9_readPace_4 rfl (by decide) ?_
  refine mr_bipush (pc' := 7) (v := (20 : Int32)) dX9_readPace_5 rfl (by decide) ?_
  obtain ⟨q1, g2, h3⟩ := Option.bind_eq_some_iff.mp h
  refine mr_cv (pc' := 10) (a := 1) (d1 := 2) dX9_readPace_7 rfl rfl rfl rfl rfl rfl (by decide) rfl (by decide) (ok_X7_takeNumber hR  g2) ?_
  show mr X _ _ 10 _ [.int q1.1] (MM RR q1.2) _
  refine mr_istore_n (pc' := 11) (lv' := [(1, .int q1.1), (0, .ref 37)]) dX9_readPace_10 rfl (by decide) rfl ?_
  refine mr_iload_n (pc' := 12) dX9_readPace_11 rfl rfl ?_
  by_cases c4 : (0 : Int32) ≤ q1.1
  · rw [if_pos c4] at h3
    refine mr_if_ge_t (t := 19) dX9_readPace_12 (by decide) c4 ?_
    refine mr_aload_n (pc' := 20) dX9_readPace_19 rfl rfl ?_
    refine mr_getR (pc' := 23) (ci := 9) (j := 0) (b := 1) hR dX9_readPace_20 rfl rfl rfl (by decide) (by decide) (by decide) rfl rfl ?_
    refine mr_iconst (pc' := 24) (v := (1 : Int32)) dX9_readPace_23 rfl (by decide) ?_
    refine mr_bipush (pc' := 26) (v := (20 : Int32)) dX9_readPace_24 rfl (by decide) ?_
    obtain ⟨q5, g6, h7⟩ := Option.bind_eq_some_iff.mp h3
    refine mr_cv (pc' := 29) (a := 1) (d1 := 2) dX9_readPace_26 rfl rfl rfl rfl rfl rfl (by decide) rfl (by decide) (ok_X7_takeNumber hR  g6) ?_
    show mr X _ _ 29 _ [.int q5.1] (MM RR q5.2) _
    refine mr_istore_n (pc' := 30) (lv' := [(2, .int q5.1), (1, .int q1.1), (0, .ref 37)]) dX9_readPace_29 rfl (by decide) rfl ?_
    refine mr_iload_n (pc' := 31) dX9_readPace_30 rfl rfl ?_
    by_cases c8 : (0 : Int32) < q5.1
    · rw [if_pos c8] at h7
      refine mr_if_gt_t (t := 38) dX9_readPace_31 (by decide) c8 ?_
      refine mr_iload_n (pc' := 39) dX9_readPace_38 rfl rfl ?_
      refine mr_i2l (pc' := 40) dX9_readPace_39 rfl ?_
      refine mr_ldc2 (pc' := 43) (v := (232792560 : Int64)) dX9_readPace_40 rfl rfl ?_
      refine mr_iload_n (pc' := 44) dX9_readPace_43 rfl rfl ?_
      refine mr_i2l (pc' := 45) dX9_readPace_44 rfl ?_
      obtain ⟨a9, g10, h11⟩ := Option.bind_eq_some_iff.mp h7
      refine mr_ldiv (pc' := 46) dX9_readPace_45 rfl g10 ?_
      refine mr_lmul (pc' := 47) dX9_readPace_46 rfl ?_
      obtain rfl := Option.some.inj h11
      exact mr_lreturn dX9_readPace_47 rfl
    · rw [if_neg c8] at h7
      refine mr_if_gt_f (t := 38) (pc' := 34) dX9_readPace_31 (by decide) rfl c8 ?_
      refine mr_ldc2 (pc' := 37) (v := (-1 : Int64)) dX9_readPace_34 rfl rfl ?_
      obtain rfl := Option.some.inj h7
      exact mr_lreturn dX9_readPace_37 rfl
  · rw [if_neg c4] at h3
    refine mr_if_ge_f (t := 19) (pc' := 15) dX9_readPace_12 (by decide) rfl c4 ?_
    refine mr_ldc2 (pc' := 18) (v := (-1 : Int64)) dX9_readPace_15 rfl rfl ?_
    obtain rfl := Option.some.inj h3
    exact mr_lreturn dX9_readPace_18 rfl
def f_X9_readFloor  (S : fS) : Option (Int32 × fS) :=
  (f_X9_readPace  S).bind fun q1 =>
  if (0 : Int64) ≤ q1.1 then ((sL q1.2 25 10 (q1.2.1 24 6) q1.1).bind fun S5 =>
  (some (pI S5 24 6 ((S5.1 24 6) + (1 : Int32)))).bind fun S8 =>
  some ((1 : Int32), S8)) else
  (some ((0 : Int32), q1.2))
set_option maxHeartbeats 4000000 in
set_option maxRecDepth 100000 in
theorem ok_X9_readFloor {X : mm_C} {RR : Nat → Nat → Option Nat} (hR : RRok RR)   {S : fS} {r : Int32 × fS} (h : f_X9_readFloor  S = some r) : mr X 4 mY_X9_readFloor 0 (lv_args 0 [.ref 37]) [] (MM RR S) (some (.int r.1), MM RR r.2) := by
  unfold f_X9_readFloor at h
  show mr X _ _ 0 [(0, .ref 37)] [] (MM RR S) _
  refine mr_aload_n (pc' := 1) dX9_readFloor_0 rfl rfl ?_
  obtain ⟨q1, g2, h3⟩ := Option.bind_eq_some_iff.mp h
  refine mr_cv (pc' := 4) (a := 37) (d1 := 3) dX9_readFloor_1 rfl rfl rfl rfl rfl rfl (by decide) rfl (by decide) (ok_X9_readPace hR  g2) ?_
  show mr X _ _ 4 _ [.long q1.1] (MM RR q1.2) _
  refine mr_lstore_n (pc' := 5) (lv' := [(1, .long q1.1), (0, .ref 37)]) dX9_readFloor_4 rfl (by decide) rfl ?_
  refine mr_lload_n (pc' := 6) dX9_readFloor_5 rfl rfl ?_
  refine mr_lconst (pc' := 7) (v := (0 : Int64)) dX9_readFloor_6 rfl (by decide) ?_
  by_cases c4 : (0 : Int64) ≤ q1.1
  · rw [if_pos c4] at h3
    refine mr_lcmp_ge_t (t := 13) dX9_readFloor_7 rfl dX9_readFloor_8 (by decide) c4 ?_
    refine mr_aload_n (pc' := 14) dX9_readFloor_13 rfl rfl ?_
    refine mr_getR (pc' := 17) (ci := 9) (j := 1) (b := 24) hR dX9_readFloor_14 rfl rfl rfl (by decide) (by decide) (by decide) rfl rfl ?_
    refine mr_getR (pc' := 20) (ci := 8) (j := 0) (b := 25) hR dX9_readFloor_17 rfl rfl rfl (by decide) (by decide) (by decide) rfl rfl ?_
    refine mr_aload_n (pc' := 21) dX9_readFloor_20 rfl rfl ?_
    refine mr_getR (pc' := 24) (ci := 9) (j := 1) (b := 24) hR dX9_readFloor_21 rfl rfl rfl (by decide) (by decide) (by decide) rfl rfl ?_
    refine mr_getI (pc' := 27) (ci := 8) (j := 6) dX9_readFloor_24 rfl rfl rfl (by decide) (by decide) rfl ?_
    refine mr_lload_n (pc' := 28) dX9_readFloor_27 rfl rfl ?_
    obtain ⟨S5, g6, h7⟩ := Option.bind_eq_some_iff.mp h3
    refine mr_last (pc' := 29) dX9_readFloor_28 rfl rfl rfl g6 ?_
    refine mr_aload_n (pc' := 30) dX9_readFloor_29 rfl rfl ?_
    refine mr_getR (pc' := 33) (ci := 9) (j := 1) (b := 24) hR dX9_readFloor_30 rfl rfl rfl (by decide) (by decide) (by decide) rfl rfl ?_
    refine mr_dup_ref (pc' := 34) dX9_readFloor_33 rfl ?_
    refine mr_getI (pc' := 37) (ci := 8) (j := 6) dX9_readFloor_34 rfl rfl rfl (by decide) (by decide) rfl ?_
    refine mr_iconst (pc' := 38) (v := (1 : Int32)) dX9_readFloor_37 rfl (by decide) ?_
    refine mr_iadd (pc' := 39) dX9_readFloor_38 rfl ?_
    obtain ⟨S8, g9, h10⟩ := Option.bind_eq_some_iff.mp h7
    refine mr_putI (pc' := 42) (ci := 8) (j := 6) dX9_readFloor_39 rfl rfl rfl (by decide) (by decide) rfl rfl ?_
    rw [Option.some.inj g9]
    refine mr_iconst (pc' := 43) (v := (1 : Int32)) dX9_readFloor_42 rfl (by decide) ?_
    obtain rfl := Option.some.inj h10
    exact mr_zreturn dX9_readFloor_43 rfl (by decide)
  · rw [if_neg c4] at h3
    refine mr_lcmp_ge_f (t := 13) (pc' := 11) dX9_readFloor_7 rfl dX9_readFloor_8 (by decide) rfl c4 ?_
    refine mr_iconst (pc' := 12) (v := (0 : Int32)) dX9_readFloor_11 rfl (by decide) ?_
    obtain rfl := Option.some.inj h3
    exact mr_zreturn dX9_readFloor_12 rfl (by decide)
def f_X8_addStair (v0 : Nat) (v1 : Int32) (v2 : Int32) (v3 : Int32) (v4 : Int64) (S : fS) : Option (fS) :=
  if (12 : Int32) ≤ (S.1 v0 7) then (some S) else
  ((sI S (v0 + 2) 12 (S.1 v0 7) v1).bind fun S2 =>
  (sI S2 (v0 + 3) 12 (S2.1 v0 7) v2).bind fun S5 =>
  (sI S5 (v0 + 4) 12 (S5.1 v0 7) v3).bind fun S8 =>
  (sL S8 (v0 + 5) 12 (S8.1 v0 7) v4).bind fun S11 =>
  (some (pI S11 v0 7 ((S11.1 v0 7) + (1 : Int32)))).bind fun S14 =>
  some S14)
set_option maxHeartbeats 4000000 in
set_option maxRecDepth 100000 in
theorem ok_X8_addStair {X : mm_C} {RR : Nat → Nat → Option Nat} (hR : RRok RR) {v0 : Nat} {v1 : Int32} {v2 : Int32} {v3 : Int32} {v4 : Int64} (t0 : tg v0 = 8) {S : fS} {r : fS} (h : f_X8_addStair v0 v1 v2 v3 v4 S = some r) : mr X 0 mY_X8_addStair 0 (lv_args 0 [.ref v0, .int v1, .int v2, .int v3, .long v4]) [] (MM RR S) (none, MM RR r) := by
  unfold f_X8_addStair at h
  show mr X _ _ 0 [(0, .ref v0), (1, .int v1), (2, .int v2), (3, .int v3), (4, .long v4)] [] (MM RR S) _
  refine mr_aload_n (pc' := 1) dX8_addStair_0 rfl rfl ?_
  refine mr_getI (pc' := 4) (ci := 8) (j := 7) dX8_addStair_1 rfl rfl t0 (by decide) (by decide) rfl ?_
  refine mr_bipush (pc' := 6) (v := (12 : Int32)) dX8_addStair_4 rfl (by decide) ?_
  by_cases c1 : (12 : Int32) ≤ (S.1 v0 7)
  · rw [if_pos c1] at h
    refine mr_icmp_ge_t (t := 60) dX8_addStair_6 (by decide) c1 ?_
    obtain rfl := Option.some.inj h
    exact mr_return dX8_addStair_60 rfl
  · rw [if_neg c1] at h
    refine mr_icmp_ge_f (t := 60) (pc' := 9) dX8_addStair_6 (by decide) rfl c1 ?_
    refine mr_aload_n (pc' := 10) dX8_addStair_9 rfl rfl ?_
    refine mr_getR (pc' := 13) (ci := 8) (j := 1) (b := (v0 + 2)) hR dX8_addStair_10 rfl rfl t0 (by decide) (by decide) (by decide) rfl (ly8_1 t0).1 ?_
    refine mr_aload_n (pc' := 14) dX8_addStair_13 rfl rfl ?_
    refine mr_getI (pc' := 17) (ci := 8) (j := 7) dX8_addStair_14 rfl rfl t0 (by decide) (by decide) rfl ?_
    refine mr_iload_n (pc' := 18) dX8_addStair_17 rfl rfl ?_
    obtain ⟨S2, g3, h4⟩ := Option.bind_eq_some_iff.mp h
    refine mr_iast (pc' := 19) dX8_addStair_18 rfl (ly8_1 t0).2.1 (ly8_1 t0).2.2 g3 ?_
    refine mr_aload_n (pc' := 20) dX8_addStair_19 rfl rfl ?_
    refine mr_getR (pc' := 23) (ci := 8) (j := 2) (b := (v0 + 3)) hR dX8_addStair_20 rfl rfl t0 (by decide) (by decide) (by decide) rfl (ly8_2 t0).1 ?_
    refine mr_aload_n (pc' := 24) dX8_addStair_23 rfl rfl ?_
    refine mr_getI (pc' := 27) (ci := 8) (j := 7) dX8_addStair_24 rfl rfl t0 (by decide) (by decide) rfl ?_
    refine mr_iload_n (pc' := 28) dX8_addStair_27 rfl rfl ?_
    obtain ⟨S5, g6, h7⟩ := Option.bind_eq_some_iff.mp h4
    refine mr_iast (pc' := 29) dX8_addStair_28 rfl (ly8_2 t0).2.1 (ly8_2 t0).2.2 g6 ?_
    refine mr_aload_n (pc' := 30) dX8_addStair_29 rfl rfl ?_
    refine mr_getR (pc' := 33) (ci := 8) (j := 3) (b := (v0 + 4)) hR dX8_addStair_30 rfl rfl t0 (by decide) (by decide) (by decide) rfl (ly8_3 t0).1 ?_
    refine mr_aload_n (pc' := 34) dX8_addStair_33 rfl rfl ?_
    refine mr_getI (pc' := 37) (ci := 8) (j := 7) dX8_addStair_34 rfl rfl t0 (by decide) (by decide) rfl ?_
    refine mr_iload_n (pc' := 38) dX8_addStair_37 rfl rfl ?_
    obtain ⟨S8, g9, h10⟩ := Option.bind_eq_some_iff.mp h7
    refine mr_iast (pc' := 39) dX8_addStair_38 rfl (ly8_3 t0).2.1 (ly8_3 t0).2.2 g9 ?_
    refine mr_aload_n (pc' := 40) dX8_addStair_39 rfl rfl ?_
    refine mr_getR (pc' := 43) (ci := 8) (j := 4) (b := (v0 + 5)) hR dX8_addStair_40 rfl rfl t0 (by decide) (by decide) (by decide) rfl (ly8_4 t0).1 ?_
    refine mr_aload_n (pc' := 44) dX8_addStair_43 rfl rfl ?_
    refine mr_getI (pc' := 47) (ci := 8) (j := 7) dX8_addStair_44 rfl rfl t0 (by decide) (by decide) rfl ?_
    refine mr_lload (pc' := 49) dX8_addStair_47 rfl rfl ?_
    obtain ⟨S11, g12, h13⟩ := Option.bind_eq_some_iff.mp h10
    refine mr_last (pc' := 50) dX8_addStair_49 rfl (ly8_4 t0).2.1 (ly8_4 t0).2.2 g12 ?_
    refine mr_aload_n (pc' := 51) dX8_addStair_50 rfl rfl ?_
    refine mr_dup_ref (pc' := 52) dX8_addStair_51 rfl ?_
    refine mr_getI (pc' := 55) (ci := 8) (j := 7) dX8_addStair_52 rfl rfl t0 (by decide) (by decide) rfl ?_
    refine mr_iconst (pc' := 56) (v := (1 : Int32)) dX8_addStair_55 rfl (by decide) ?_
    refine mr_iadd (pc' := 57) dX8_addStair_56 rfl ?_
    obtain ⟨S14, g15, h16⟩ := Option.bind_eq_some_iff.mp h13
    refine mr_putI (pc' := 60) (ci := 8) (j := 7) dX8_addStair_57 rfl rfl t0 (by decide) (by decide) rfl rfl ?_
    rw [Option.some.inj g15]
    obtain rfl := Option.some.inj h16
    exact mr_return dX8_addStair_60 rfl
def f_X9_readStair  (S : fS) : Option (Int32 × fS) :=
  (f_X7_takeNumber (0 : Int32) ((S.1 24 6) - (1 : Int32)) S).bind fun q1 =>
  if (0 : Int32) ≤ q1.1 then ((f_X7_takeNumber (0 : Int32) ((q1.2.1 24 6) - (1 : Int32)) q1.2).bind fun q5 =>
  if (0 : Int32) ≤ q5.1 then (if q1.1 = q5.1 then ((f_X7_fail (q5.2.1 1 3) (1 : Int32) q5.2).bind fun q21 =>
  (bZ q21.1).bind fun z24 => some (z24, q21.2)) else
  ((f_X7_takeNumber (1 : Int32) (9 : Int32) q5.2).bind fun q10 =>
  if (0 : Int32) ≤ q10.1 then ((f_X9_readPace  q10.2).bind fun q14 =>
  if (0 : Int64) ≤ q14.1 then ((f_X8_addStair 24 q1.1 q5.1 q10.1 q14.1 q14.2).bind fun q18 =>
  some ((1 : Int32), q18)) else
  (some ((0 : Int32), q14.2))) else
  (some ((0 : Int32), q10.2)))) else
  (some ((0 : Int32), q5.2))) else
  (some ((0 : Int32), q1.2))
set_option maxHeartbeats 4000000 in
set_option maxRecDepth 100000 in
theorem ok_X9_readStair {X : mm_C} {RR : Nat → Nat → Option Nat} (hR : RRok RR)   {S : fS} {r : Int32 × fS} (h : f_X9_readStair  S = some r) : mr X 4 mY_X9_readStair 0 (lv_args 0 [.ref 37]) [] (MM RR S) (some (.int r.1), MM RR r.2) := by
  unfold f_X9_readStair at h
  show mr X _ _ 0 [(0, .ref 37)] [] (MM RR S) _
  refine mr_aload_n (pc' := 1) dX9_readStair_0 rfl rfl ?_
  refine mr_getR (pc' := 4) (ci := 9) (j := 0) (b := 1) hR dX9_readStair_1 rfl rfl rfl (by decide) (by decide) (by decide) rfl rfl ?_
  refine mr_iconst (pc' := 5) (v := (0 : Int32)) dX9_readStair_4 rfl (by decide) ?_
  refine mr_aload_n (pc' := 6) dX9_readStair_5 rfl rfl ?_
  refine mr_getR (pc' := 9) (ci := 9) (j := 1) (b := 24) hR dX9_readStair_6 rfl rfl rfl (by decide) (by decide) (by decide) rfl rfl ?_
  refine mr_getI (pc' := 12) (ci := 8) (j := 6) dX9_readStair_9 rfl rfl rfl (by decide) (by decide) rfl ?_
  refine mr_iconst (pc' := 13) (v := (1 : Int32)) dX9_readStair_12 rfl (by decide) ?_
  refine mr_isub (pc' := 14) dX9_readStair_13 rfl ?_
  obtain ⟨q1, g2, h3⟩ := Option.bind_eq_some_iff.mp h
  refine mr_cv (pc' := 17) (a := 1) (d1 := 2) dX9_readStair_14 rfl rfl rfl rfl rfl rfl (by decide) rfl (by decide) (ok_X7_takeNumber hR  g2) ?_
  show mr X _ _ 17 _ [.int q1.1] (MM RR q1.2) _
  refine mr_istore_n (pc' := 18) (lv' := [(1, .int q1.1), (0, .ref 37)]) dX9_readStair_17 rfl (by decide) rfl ?_
  refine mr_iload_n (pc' := 19) dX9_readStair_18 rfl rfl ?_
  by_cases c4 : (0 : Int32) ≤ q1.1
  · rw [if_pos c4] at h3
    refine mr_if_ge_t (t := 24) dX9_readStair_19 (by decide) c4 ?_
    refine mr_aload_n (pc' := 25) dX9_readStair_24 rfl rfl ?_
    refine mr_getR (pc' := 28) (ci := 9) (j := 0) (b := 1) hR dX9_readStair_25 rfl rfl rfl (by decide) (by decide) (by decide) rfl rfl ?_
    refine mr_iconst (pc' := 29) (v := (0 : Int32)) dX9_readStair_28 rfl (by decide) ?_
    refine mr_aload_n (pc' := 30) dX9_readStair_29 rfl rfl ?_
    refine mr_getR (pc' := 33) (ci := 9) (j := 1) (b := 24) hR dX9_readStair_30 rfl rfl rfl (by decide) (by decide) (by decide) rfl rfl ?_
    refine mr_getI (pc' := 36) (ci := 8) (j := 6) dX9_readStair_33 rfl rfl rfl (by decide) (by decide) rfl ?_
    refine mr_iconst (pc' := 37) (v := (1 : Int32)) dX9_readStair_36 rfl (by decide) ?_
    refine mr_isub (pc' := 38) dX9_readStair_37 rfl ?_
    obtain ⟨q5, g6, h7⟩ := Option.bind_eq_some_iff.mp h3
    refine mr_cv (pc' := 41) (a := 1) (d1 := 2) dX9_readStair_38 rfl rfl rfl rfl rfl rfl (by decide) rfl (by decide) (ok_X7_takeNumber hR  g6) ?_
    show mr X _ _ 41 _ [.int q5.1] (MM RR q5.2) _
    refine mr_istore_n (pc' := 42) (lv' := [(2, .int q5.1), (1, .int q1.1), (0, .ref 37)]) dX9_readStair_41 rfl (by decide) rfl ?_
    refine mr_iload_n (pc' := 43) dX9_readStair_42 rfl rfl ?_
    by_cases c8 : (0 : Int32) ≤ q5.1
    · rw [if_pos c8] at h7
      refine mr_if_ge_t (t := 48) dX9_readStair_43 (by decide) c8 ?_
      refine mr_iload_n (pc' := 49) dX9_readStair_48 rfl rfl ?_
      refine mr_iload_n (pc' := 50) dX9_readStair_49 rfl rfl ?_
      by_cases c9 : q1.1 = q5.1
      · rw [if_pos c9] at h7
        refine mr_icmp_ne_f (t := 69) (pc' := 53) dX9_readStair_50 (by decide) rfl (not_not_intro c9) ?_
        refine mr_aload_n (pc' := 54) dX9_readStair_53 rfl rfl ?_
        refine mr_getR (pc' := 57) (ci := 9) (j := 0) (b := 1) hR dX9_readStair_54 rfl rfl rfl (by decide) (by decide) (by decide) rfl rfl ?_
        refine mr_aload_n (pc' := 58) dX9_readStair_57 rfl rfl ?_
        refine mr_getR (pc' := 61) (ci := 9) (j := 0) (b := 1) hR dX9_readStair_58 rfl rfl rfl (by decide) (by decide) (by decide) rfl rfl ?_
        refine mr_getI (pc' := 64) (ci := 7) (j := 3) dX9_readStair_61 rfl rfl rfl (by decide) (by decide) rfl ?_
        refine mr_iconst (pc' := 65) (v := (1 : Int32)) dX9_readStair_64 rfl (by decide) ?_
        obtain ⟨q21, g22, h23⟩ := Option.bind_eq_some_iff.mp h7
        refine mr_cv (pc' := 68) (a := 1) (d1 := 0) dX9_readStair_65 rfl rfl rfl rfl rfl rfl (by decide) rfl (by decide) (ok_X7_fail hR  g22) ?_
        show mr X _ _ 68 _ [.int q21.1] (MM RR q21.2) _
        obtain ⟨z24, g25, h26⟩ := Option.bind_eq_some_iff.mp h23
        obtain ⟨g27, e28⟩ := mm_ifs g25
        cases e28
        cases h26
        exact mr_zreturn dX9_readStair_68 rfl g27
      · rw [if_neg c9] at h7
        refine mr_icmp_ne_t (t := 69) dX9_readStair_50 (by decide) c9 ?_
        refine mr_aload_n (pc' := 70) dX9_readStair_69 rfl rfl ?_
        refine mr_getR (pc' := 73) (ci := 9) (j := 0) (b := 1) hR dX9_readStair_70 rfl rfl rfl (by decide) (by decide) (by decide) rfl rfl ?_
        refine mr_iconst (pc' := 74) (v := (1 : Int32)) dX9_readStair_73 rfl (by decide) ?_
        refine mr_bipush (pc' := 76) (v := (9 : Int32)) dX9_readStair_74 rfl (by decide) ?_
        obtain ⟨q10, g11, h12⟩ := Option.bind_eq_some_iff.mp h7
        refine mr_cv (pc' := 79) (a := 1) (d1 := 2) dX9_readStair_76 rfl rfl rfl rfl rfl rfl (by decide) rfl (by decide) (ok_X7_takeNumber hR  g11) ?_
        show mr X _ _ 79 _ [.int q10.1] (MM RR q10.2) _
        refine mr_istore_n (pc' := 80) (lv' := [(3, .int q10.1), (2, .int q5.1), (1, .int q1.1), (0, .ref 37)]) dX9_readStair_79 rfl (by decide) rfl ?_
        refine mr_iload_n (pc' := 81) dX9_readStair_80 rfl rfl ?_
        by_cases c13 : (0 : Int32) ≤ q10.1
        · rw [if_pos c13] at h12
          refine mr_if_ge_t (t := 86) dX9_readStair_81 (by decide) c13 ?_
          refine mr_aload_n (pc' := 87) dX9_readStair_86 rfl rfl ?_
          obtain ⟨q14, g15, h16⟩ := Option.bind_eq_some_iff.mp h12
          refine mr_cv (pc' := 90) (a := 37) (d1 := 3) dX9_readStair_87 rfl rfl rfl rfl rfl rfl (by decide) rfl (by decide) (ok_X9_readPace hR  g15) ?_
          show mr X _ _ 90 _ [.long q14.1] (MM RR q14.2) _
          refine mr_lstore (pc' := 92) (lv' := [(4, .long q14.1), (3, .int q10.1), (2, .int q5.1), (1, .int q1.1), (0, .ref 37)]) dX9_readStair_90 rfl (by decide) rfl ?_
          refine mr_lload (pc' := 94) dX9_readStair_92 rfl rfl ?_
          refine mr_lconst (pc' := 95) (v := (0 : Int64)) dX9_readStair_94 rfl (by decide) ?_
          by_cases c17 : (0 : Int64) ≤ q14.1
          · rw [if_pos c17] at h16
            refine mr_lcmp_ge_t (t := 101) dX9_readStair_95 rfl dX9_readStair_96 (by decide) c17 ?_
            refine mr_aload_n (pc' := 102) dX9_readStair_101 rfl rfl ?_
            refine mr_getR (pc' := 105) (ci := 9) (j := 1) (b := 24) hR dX9_readStair_102 rfl rfl rfl (by decide) (by decide) (by decide) rfl rfl ?_
            refine mr_iload_n (pc' := 106) dX9_readStair_105 rfl rfl ?_
            refine mr_iload_n (pc' := 107) dX9_readStair_106 rfl rfl ?_
            refine mr_iload_n (pc' := 108) dX9_readStair_107 rfl rfl ?_
            refine mr_lload (pc' := 110) dX9_readStair_108 rfl rfl ?_
            obtain ⟨q18, g19, h20⟩ := Option.bind_eq_some_iff.mp h16
            refine mr_cv (pc' := 113) (a := 24) (d1 := 0) dX9_readStair_110 rfl rfl rfl rfl rfl rfl (by decide) rfl (by decide) (ok_X8_addStair hR rfl g19) ?_
            show mr X _ _ 113 _ [] (MM RR q18) _
            refine mr_iconst (pc' := 114) (v := (1 : Int32)) dX9_readStair_113 rfl (by decide) ?_
            obtain rfl := Option.some.inj h20
            exact mr_zreturn dX9_readStair_114 rfl (by decide)
          · rw [if_neg c17] at h16
            refine mr_lcmp_ge_f (t := 101) (pc' := 99) dX9_readStair_95 rfl dX9_readStair_96 (by decide) rfl c17 ?_
            refine mr_iconst (pc' := 100) (v := (0 : Int32)) dX9_readStair_99 rfl (by decide) ?_
            obtain rfl := Option.some.inj h16
            exact mr_zreturn dX9_readStair_100 rfl (by decide)
        · rw [if_neg c13] at h12
          refine mr_if_ge_f (t := 86) (pc' := 84) dX9_readStair_81 (by decide) rfl c13 ?_
          refine mr_iconst (pc' := 85) (v := (0 : Int32)) dX9_readStair_84 rfl (by decide) ?_
          obtain rfl := Option.some.inj h12
          exact mr_zreturn dX9_readStair_85 rfl (by decide)
    · rw [if_neg c8] at h7
      refine mr_if_ge_f (t := 48) (pc' := 46) dX9_readStair_43 (by decide) rfl c8 ?_
      refine mr_iconst (pc' := 47) (v := (0 : Int32)) dX9_readStair_46 rfl (by decide) ?_
      obtain rfl := Option.some.inj h7
      exact mr_zreturn dX9_readStair_47 rfl (by decide)
  · rw [if_neg c4] at h3
    refine mr_if_ge_f (t := 24) (pc' := 22) dX9_readStair_19 (by decide) rfl c4 ?_
    refine mr_iconst (pc' := 23) (v := (0 : Int32)) dX9_readStair_22 rfl (by decide) ?_
    obtain rfl := Option.some.inj h3
    exact mr_zreturn dX9_readStair_23 rfl (by decide)
def f_X0_putOn (v0 : Nat) (v1 : Int32) (v2 : Int32) (S : fS) : Option (fS) :=
  (sI S (v0 + 1) 8 v1 v2).bind fun S1 =>
  (sI S1 (v0 + 2) 8 v1 (-1 : Int32)).bind fun S4 =>
  (sI S4 (v0 + 3) 8 v1 (0 : Int32)).bind fun S7 =>
  (sI S7 (v0 + 4) 8 v1 (-1 : Int32)).bind fun S10 =>
  some S10
set_option maxHeartbeats 4000000 in
set_option maxRecDepth 100000 in
theorem ok_X0_putOn {X : mm_C} {RR : Nat → Nat → Option Nat} (hR : RRok RR) {v0 : Nat} {v1 : Int32} {v2 : Int32} (t0 : tg v0 = 0) {S : fS} {r : fS} (h : f_X0_putOn v0 v1 v2 S = some r) : mr X 0 mY_X0_putOn 0 (lv_args 0 [.ref v0, .int v1, .int v2]) [] (MM RR S) (none, MM RR r) := by
  unfold f_X0_putOn at h
  show mr X _ _ 0 [(0, .ref v0), (1, .int v1), (2, .int v2)] [] (MM RR S) _
  refine mr_aload_n (pc' := 1) dX0_putOn_0 rfl rfl ?_
  refine mr_getR (pc' := 4) (ci := 0) (j := 0) (b := (v0 + 1)) hR dX0_putOn_1 rfl rfl t0 (by decide) (by decide) (by decide) rfl (ly0_0 t0).1 ?_
  refine mr_iload_n (pc' := 5) dX0_putOn_4 rfl rfl ?_
  refine mr_iload_n (pc' := 6) dX0_putOn_5 rfl rfl ?_
  obtain ⟨S1, g2, h3⟩ := Option.bind_eq_some_iff.mp h
  refine mr_iast (pc' := 7) dX0_putOn_6 rfl (ly0_0 t0).2.1 (ly0_0 t0).2.2 g2 ?_
  refine mr_aload_n (pc' := 8) dX0_putOn_7 rfl rfl ?_
  refine mr_getR (pc' := 11) (ci := 0) (j := 1) (b := (v0 + 2)) hR dX0_putOn_8 rfl rfl t0 (by decide) (by decide) (by decide) rfl (ly0_1 t0).1 ?_
  refine mr_iload_n (pc' := 12) dX0_putOn_11 rfl rfl ?_
  refine mr_iconst (pc' := 13) (v := (-1 : Int32)) dX0_putOn_12 rfl (by decide) ?_
  obtain ⟨S4, g5, h6⟩ := Option.bind_eq_some_iff.mp h3
  refine mr_iast (pc' := 14) dX0_putOn_13 rfl (ly0_1 t0).2.1 (ly0_1 t0).2.2 g5 ?_
  refine mr_aload_n (pc' := 15) dX0_putOn_14 rfl rfl ?_
  refine mr_getR (pc' := 18) (ci := 0) (j := 2) (b := (v0 + 3)) hR dX0_putOn_15 rfl rfl t0 (by decide) (by decide) (by decide) rfl (ly0_2 t0).1 ?_
  refine mr_iload_n (pc' := 19) dX0_putOn_18 rfl rfl ?_
  refine mr_iconst (pc' := 20) (v := (0 : Int32)) dX0_putOn_19 rfl (by decide) ?_
  obtain ⟨S7, g8, h9⟩ := Option.bind_eq_some_iff.mp h6
  refine mr_iast (pc' := 21) dX0_putOn_20 rfl (ly0_2 t0).2.1 (ly0_2 t0).2.2 g8 ?_
  refine mr_aload_n (pc' := 22) dX0_putOn_21 rfl rfl ?_
  refine mr_getR (pc' := 25) (ci := 0) (j := 3) (b := (v0 + 4)) hR dX0_putOn_22 rfl rfl t0 (by decide) (by decide) (by decide) rfl (ly0_3 t0).1 ?_
  refine mr_iload_n (pc' := 26) dX0_putOn_25 rfl rfl ?_
  refine mr_iconst (pc' := 27) (v := (-1 : Int32)) dX0_putOn_26 rfl (by decide) ?_
  obtain ⟨S10, g11, h12⟩ := Option.bind_eq_some_iff.mp h9
  refine mr_iast (pc' := 28) dX0_putOn_27 rfl (ly0_3 t0).2.1 (ly0_3 t0).2.2 g11 ?_
  obtain rfl := Option.some.inj h12
  exact mr_return dX0_putOn_28 rfl
def f_X0_addThing (v0 : Nat) (v1 : Int32) (S : fS) : Option (fS) :=
  if (8 : Int32) ≤ (S.1 v0 5) then (some S) else
  ((f_X0_putOn v0 (S.1 v0 5) v1 S).bind fun q2 =>
  (sL q2 (v0 + 5) 8 (q2.1 v0 5) (0 : Int64)).bind fun S5 =>
  (some (pI S5 v0 5 ((S5.1 v0 5) + (1 : Int32)))).bind fun S8 =>
  some S8)
set_option maxHeartbeats 4000000 in
set_option maxRecDepth 100000 in
theorem ok_X0_addThing {X : mm_C} {RR : Nat → Nat → Option Nat} (hR : RRok RR) {v0 : Nat} {v1 : Int32} (t0 : tg v0 = 0) {S : fS} {r : fS} (h : f_X0_addThing v0 v1 S = some r) : mr X 1 mY_X0_addThing 0 (lv_args 0 [.ref v0, .int v1]) [] (MM RR S) (none, MM RR r) := by
  unfold f_X0_addThing at h
  show mr X _ _ 0 [(0, .ref v0), (1, .int v1)] [] (MM RR S) _
  refine mr_aload_n (pc' := 1) dX0_addThing_0 rfl rfl ?_
  refine mr_getI (pc' := 4) (ci := 0) (j := 5) dX0_addThing_1 rfl rfl t0 (by decide) (by decide) rfl ?_
  refine mr_bipush (pc' := 6) (v := (8 : Int32)) dX0_addThing_4 rfl (by decide) ?_
  by_cases c1 : (8 : Int32) ≤ (S.1 v0 5)
  · rw [if_pos c1] at h
    refine mr_icmp_ge_t (t := 38) dX0_addThing_6 (by decide) c1 ?_
    obtain rfl := Option.some.inj h
    exact mr_return dX0_addThing_38 rfl
  · rw [if_neg c1] at h
    refine mr_icmp_ge_f (t := 38) (pc' := 9) dX0_addThing_6 (by decide) rfl c1 ?_
    refine mr_aload_n (pc' := 10) dX0_addThing_9 rfl rfl ?_
    refine mr_aload_n (pc' := 11) dX0_addThing_10 rfl rfl ?_
    refine mr_getI (pc' := 14) (ci := 0) (j := 5) dX0_addThing_11 rfl rfl t0 (by decide) (by decide) rfl ?_
    refine mr_iload_n (pc' := 15) dX0_addThing_14 rfl rfl ?_
    obtain ⟨q2, g3, h4⟩ := Option.bind_eq_some_iff.mp h
    refine mr_cv (pc' := 18) (a := v0) (d1 := 0) dX0_addThing_15 rfl rfl rfl rfl rfl t0 (by decide) rfl (by decide) (ok_X0_putOn hR t0 g3) ?_
    show mr X _ _ 18 _ [] (MM RR q2) _
    refine mr_aload_n (pc' := 19) dX0_addThing_18 rfl rfl ?_
    refine mr_getR (pc' := 22) (ci := 0) (j := 4) (b := (v0 + 5)) hR dX0_addThing_19 rfl rfl t0 (by decide) (by decide) (by decide) rfl (ly0_4 t0).1 ?_
    refine mr_aload_n (pc' := 23) dX0_addThing_22 rfl rfl ?_
    refine mr_getI (pc' := 26) (ci := 0) (j := 5) dX0_addThing_23 rfl rfl t0 (by decide) (by decide) rfl ?_
    refine mr_lconst (pc' := 27) (v := (0 : Int64)) dX0_addThing_26 rfl (by decide) ?_
    obtain ⟨S5, g6, h7⟩ := Option.bind_eq_some_iff.mp h4
    refine mr_last (pc' := 28) dX0_addThing_27 rfl (ly0_4 t0).2.1 (ly0_4 t0).2.2 g6 ?_
    refine mr_aload_n (pc' := 29) dX0_addThing_28 rfl rfl ?_
    refine mr_dup_ref (pc' := 30) dX0_addThing_29 rfl ?_
    refine mr_getI (pc' := 33) (ci := 0) (j := 5) dX0_addThing_30 rfl rfl t0 (by decide) (by decide) rfl ?_
    refine mr_iconst (pc' := 34) (v := (1 : Int32)) dX0_addThing_33 rfl (by decide) ?_
    refine mr_iadd (pc' := 35) dX0_addThing_34 rfl ?_
    obtain ⟨S8, g9, h10⟩ := Option.bind_eq_some_iff.mp h7
    refine mr_putI (pc' := 38) (ci := 0) (j := 5) dX0_addThing_35 rfl rfl t0 (by decide) (by decide) rfl rfl ?_
    rw [Option.some.inj g9]
    obtain rfl := Option.some.inj h10
    exact mr_return dX0_addThing_38 rfl
def f_X9_readThing  (S : fS) : Option (Int32 × fS) :=
  (f_X7_takeNumber (0 : Int32) ((S.1 24 6) - (1 : Int32)) S).bind fun q1 =>
  if (0 : Int32) ≤ q1.1 then ((f_X0_addThing 31 q1.1 q1.2).bind fun q5 =>
  some ((1 : Int32), q5)) else
  (some ((0 : Int32), q1.2))
set_option maxHeartbeats 4000000 in
set_option maxRecDepth 100000 in
theorem ok_X9_readThing {X : mm_C} {RR : Nat → Nat → Option Nat} (hR : RRok RR)   {S : fS} {r : Int32 × fS} (h : f_X9_readThing  S = some r) : mr X 3 mY_X9_readThing 0 (lv_args 0 [.ref 37]) [] (MM RR S) (some (.int r.1), MM RR r.2) := by
  unfold f_X9_readThing at h
  show mr X _ _ 0 [(0, .ref 37)] [] (MM RR S) _
  refine mr_aload_n (pc' := 1) dX9_readThing_0 rfl rfl ?_
  refine mr_getR (pc' := 4) (ci := 9) (j := 0) (b := 1) hR dX9_readThing_1 rfl rfl rfl (by decide) (by decide) (by decide) rfl rfl ?_
  refine mr_iconst (pc' := 5) (v := (0 : Int32)) dX9_readThing_4 rfl (by decide) ?_
  refine mr_aload_n (pc' := 6) dX9_readThing_5 rfl rfl ?_
  refine mr_getR (pc' := 9) (ci := 9) (j := 1) (b := 24) hR dX9_readThing_6 rfl rfl rfl (by decide) (by decide) (by decide) rfl rfl ?_
  refine mr_getI (pc' := 12) (ci := 8) (j := 6) dX9_readThing_9 rfl rfl rfl (by decide) (by decide) rfl ?_
  refine mr_iconst (pc' := 13) (v := (1 : Int32)) dX9_readThing_12 rfl (by decide) ?_
  refine mr_isub (pc' := 14) dX9_readThing_13 rfl ?_
  obtain ⟨q1, g2, h3⟩ := Option.bind_eq_some_iff.mp h
  refine mr_cv (pc' := 17) (a := 1) (d1 := 2) dX9_readThing_14 rfl rfl rfl rfl rfl rfl (by decide) rfl (by decide) (ok_X7_takeNumber hR  g2) ?_
  show mr X _ _ 17 _ [.int q1.1] (MM RR q1.2) _
  refine mr_istore_n (pc' := 18) (lv' := [(1, .int q1.1), (0, .ref 37)]) dX9_readThing_17 rfl (by decide) rfl ?_
  refine mr_iload_n (pc' := 19) dX9_readThing_18 rfl rfl ?_
  by_cases c4 : (0 : Int32) ≤ q1.1
  · rw [if_pos c4] at h3
    refine mr_if_ge_t (t := 24) dX9_readThing_19 (by decide) c4 ?_
    refine mr_aload_n (pc' := 25) dX9_readThing_24 rfl rfl ?_
    refine mr_getR (pc' := 28) (ci := 9) (j := 2) (b := 31) hR dX9_readThing_25 rfl rfl rfl (by decide) (by decide) (by decide) rfl rfl ?_
    refine mr_iload_n (pc' := 29) dX9_readThing_28 rfl rfl ?_
    obtain ⟨q5, g6, h7⟩ := Option.bind_eq_some_iff.mp h3
    refine mr_cv (pc' := 32) (a := 31) (d1 := 1) dX9_readThing_29 rfl rfl rfl rfl rfl rfl (by decide) rfl (by decide) (ok_X0_addThing hR rfl g6) ?_
    show mr X _ _ 32 _ [] (MM RR q5) _
    refine mr_iconst (pc' := 33) (v := (1 : Int32)) dX9_readThing_32 rfl (by decide) ?_
    obtain rfl := Option.some.inj h7
    exact mr_zreturn dX9_readThing_33 rfl (by decide)
  · rw [if_neg c4] at h3
    refine mr_if_ge_f (t := 24) (pc' := 22) dX9_readThing_19 (by decide) rfl c4 ?_
    refine mr_iconst (pc' := 23) (v := (0 : Int32)) dX9_readThing_22 rfl (by decide) ?_
    obtain rfl := Option.some.inj h3
    exact mr_zreturn dX9_readThing_23 rfl (by decide)
def j_X9_readClause_155   (S : fS) : Option (Int32 × fS) :=
  (f_X7_fail (S.1 1 3) (4 : Int32) S).bind fun q11 =>
  (bZ q11.1).bind fun z14 => some (z14, q11.2)
set_option maxHeartbeats 4000000 in
set_option maxRecDepth 100000 in
theorem ok_j_X9_readClause_155 {X : mm_C} {RR : Nat → Nat → Option Nat} (hR : RRok RR)   {S : fS} {r : Int32 × fS} (h : j_X9_readClause_155   S = some r) : mr X 5 mY_X9_readClause 155 [(0, .ref 37)] [] (MM RR S) (some (.int r.1), MM RR r.2) := by
  unfold j_X9_readClause_155 at h
  refine mr_aload_n (pc' := 156) dX9_readClause_155 rfl rfl ?_
  refine mr_getR (pc' := 159) (ci := 9) (j := 0) (b := 1) hR dX9_readClause_156 rfl rfl rfl (by decide) (by decide) (by decide) rfl rfl ?_
  refine mr_aload_n (pc' := 160) dX9_readClause_159 rfl rfl ?_
  refine mr_getR (pc' := 163) (ci := 9) (j := 0) (b := 1) hR dX9_readClause_160 rfl rfl rfl (by decide) (by decide) (by decide) rfl rfl ?_
  refine mr_getI (pc' := 166) (ci := 7) (j := 3) dX9_readClause_163 rfl rfl rfl (by decide) (by decide) rfl ?_
  refine mr_iconst (pc' := 167) (v := (4 : Int32)) dX9_readClause_166 rfl (by decide) ?_
  obtain ⟨q11, g12, h13⟩ := Option.bind_eq_some_iff.mp h
  refine mr_cv (pc' := 170) (a := 1) (d1 := 0) dX9_readClause_167 rfl rfl rfl rfl rfl rfl (by decide) rfl (by decide) (ok_X7_fail hR  g12) ?_
  show mr X _ _ 170 _ [.int q11.1] (MM RR q11.2) _
  obtain ⟨z14, g15, h16⟩ := Option.bind_eq_some_iff.mp h13
  obtain ⟨g17, e18⟩ := mm_ifs g15
  cases e18
  cases h16
  exact mr_zreturn dX9_readClause_170 rfl g17
def j_X9_readClause_195  (s0 : Int32) (S : fS) : Option (Int32 × fS) :=
  (bZ s0).bind fun z25 => some (z25, S)
set_option maxHeartbeats 4000000 in
set_option maxRecDepth 100000 in
theorem ok_j_X9_readClause_195 {X : mm_C} {RR : Nat → Nat → Option Nat} (hR : RRok RR)  {s0 : Int32} {S : fS} {r : Int32 × fS} (h : j_X9_readClause_195  s0 S = some r) : mr X 5 mY_X9_readClause 195 [] [.int s0] (MM RR S) (some (.int r.1), MM RR r.2) := by
  unfold j_X9_readClause_195 at h
  obtain ⟨z25, g26, h27⟩ := Option.bind_eq_some_iff.mp h
  obtain ⟨g28, e29⟩ := mm_ifs g26
  cases e29
  cases h27
  exact mr_zreturn dX9_readClause_195 rfl g28
def j_X9_readClause_142 (p1 : Int32) (p2 : Int32) (p3 : Int32) (s0 : Int32) (S : fS) : Option (Int32 × fS) :=
  if s0 = (0 : Int32) then (if p1 < (24 : Int32) then (if p2 = (0 : Int32) then (if p3 = (0 : Int32) then ((f_X9_readThing  S).bind fun q22 =>
  j_X9_readClause_195  q22.1 q22.2) else
  ((f_X9_readStair  S).bind fun q30 =>
  j_X9_readClause_195  q30.1 q30.2)) else
  ((f_X9_readFloor  S).bind fun q33 =>
  (bZ q33.1).bind fun z36 => some (z36, q33.2))) else
  (j_X9_readClause_155   S)) else
  (j_X9_readClause_155   S)
set_option maxHeartbeats 4000000 in
set_option maxRecDepth 100000 in
theorem ok_j_X9_readClause_142 {X : mm_C} {RR : Nat → Nat → Option Nat} (hR : RRok RR) {p1 : Int32} {p2 : Int32} {p3 : Int32} {s0 : Int32} {S : fS} {r : Int32 × fS} (h : j_X9_readClause_142 p1 p2 p3 s0 S = some r) : mr X 5 mY_X9_readClause 142 [(0, .ref 37), (1, .int p1), (2, .int p2), (3, .int p3)] [.int s0] (MM RR S) (some (.int r.1), MM RR r.2) := by
  unfold j_X9_readClause_142 at h
  refine mr_istore (pc' := 144) (lv' := [(5, .int s0), (0, .ref 37), (1, .int p1), (2, .int p2), (3, .int p3)]) dX9_readClause_142 rfl (by decide) rfl ?_
  refine mr_iload (pc' := 146) dX9_readClause_144 rfl rfl ?_
  by_cases c10 : s0 = (0 : Int32)
  · rw [if_pos c10] at h
    refine mr_if_ne_f (t := 155) (pc' := 149) dX9_readClause_146 (by decide) rfl (not_not_intro c10) ?_
    refine mr_iload_n (pc' := 150) dX9_readClause_149 rfl rfl ?_
    refine mr_bipush (pc' := 152) (v := (24 : Int32)) dX9_readClause_150 rfl (by decide) ?_
    by_cases c19 : p1 < (24 : Int32)
    · rw [if_pos c19] at h
      refine mr_icmp_lt_t (t := 171) dX9_readClause_152 (by decide) c19 ?_
      refine mr_iload_n (pc' := 172) dX9_readClause_171 rfl rfl ?_
      by_cases c20 : p2 = (0 : Int32)
      · rw [if_pos c20] at h
        refine mr_if_eq_t (t := 180) dX9_readClause_172 (by decide) c20 ?_
        refine mr_iload_n (pc' := 181) dX9_readClause_180 rfl rfl ?_
        by_cases c21 : p3 = (0 : Int32)
        · rw [if_pos c21] at h
          refine mr_if_eq_t (t := 191) dX9_readClause_181 (by decide) c21 ?_
          refine mr_aload_n (pc' := 192) dX9_readClause_191 rfl rfl ?_
          obtain ⟨q22, g23, h24⟩ := Option.bind_eq_some_iff.mp h
          refine mr_cv (pc' := 195) (a := 37) (d1 := 3) dX9_readClause_192 rfl rfl rfl rfl rfl rfl (by decide) rfl (by decide) (ok_X9_readThing hR  g23) ?_
          show mr X _ _ 195 _ [.int q22.1] (MM RR q22.2) _
          exact mr_sub [] trivial rfl (ok_j_X9_readClause_195 hR h24)
        · rw [if_neg c21] at h
          refine mr_if_eq_f (t := 191) (pc' := 184) dX9_readClause_181 (by decide) rfl c21 ?_
          refine mr_aload_n (pc' := 185) dX9_readClause_184 rfl rfl ?_
          obtain ⟨q30, g31, h32⟩ := Option.bind_eq_some_iff.mp h
          refine mr_cv (pc' := 188) (a := 37) (d1 := 4) dX9_readClause_185 rfl rfl rfl rfl rfl rfl (by decide) rfl (by decide) (ok_X9_readStair hR  g31) ?_
          show mr X _ _ 188 _ [.int q30.1] (MM RR q30.2) _
          refine mr_goto (t := 195) dX9_readClause_188 (by decide) ?_
          exact mr_sub [] trivial rfl (ok_j_X9_readClause_195 hR h32)
      · rw [if_neg c20] at h
        refine mr_if_eq_f (t := 180) (pc' := 175) dX9_readClause_172 (by decide) rfl c20 ?_
        refine mr_aload_n (pc' := 176) dX9_readClause_175 rfl rfl ?_
        obtain ⟨q33, g34, h35⟩ := Option.bind_eq_some_iff.mp h
        refine mr_cv (pc' := 179) (a := 37) (d1 := 4) dX9_readClause_176 rfl rfl rfl rfl rfl rfl (by decide) rfl (by decide) (ok_X9_readFloor hR  g34) ?_
        show mr X _ _ 179 _ [.int q33.1] (MM RR q33.2) _
        obtain ⟨z36, g37, h38⟩ := Option.bind_eq_some_iff.mp h35
        obtain ⟨g39, e40⟩ := mm_ifs g37
        cases e40
        cases h38
        exact mr_zreturn dX9_readClause_179 rfl g39
    · rw [if_neg c19] at h
      refine mr_icmp_lt_f (t := 171) (pc' := 155) dX9_readClause_152 (by decide) rfl c19 ?_
      exact mr_sub [(0, .ref 37)] ⟨rfl, trivial⟩ rfl (ok_j_X9_readClause_155 hR h)
  · rw [if_neg c10] at h
    refine mr_if_ne_t (t := 155) dX9_readClause_146 (by decide) c10 ?_
    exact mr_sub [(0, .ref 37)] ⟨rfl, trivial⟩ rfl (ok_j_X9_readClause_155 hR h)
def j_X9_readClause_141 (p1 : Int32) (p2 : Int32) (p3 : Int32)  (S : fS) : Option (Int32 × fS) :=
  j_X9_readClause_142 p1 p2 p3 (0 : Int32) S
set_option maxHeartbeats 4000000 in
set_option maxRecDepth 100000 in
theorem ok_j_X9_readClause_141 {X : mm_C} {RR : Nat → Nat → Option Nat} (hR : RRok RR) {p1 : Int32} {p2 : Int32} {p3 : Int32}  {S : fS} {r : Int32 × fS} (h : j_X9_readClause_141 p1 p2 p3  S = some r) : mr X 5 mY_X9_readClause 141 [(0, .ref 37), (1, .int p1), (2, .int p2), (3, .int p3)] [] (MM RR S) (some (.int r.1), MM RR r.2) := by
  unfold j_X9_readClause_141 at h
  refine mr_iconst (pc' := 142) (v := (0 : Int32)) dX9_readClause_141 rfl (by decide) ?_
  exact mr_sub [(0, .ref 37), (1, .int p1), (2, .int p2), (3, .int p3)] ⟨rfl, rfl, rfl, rfl, trivial⟩ rfl (ok_j_X9_readClause_142 hR h)
def j_X9_readClause_137 (p1 : Int32) (p2 : Int32) (p3 : Int32)  (S : fS) : Option (Int32 × fS) :=
  j_X9_readClause_142 p1 p2 p3 (1 : Int32) S
set_option maxHeartbeats 4000000 in
set_option maxRecDepth 100000 in
theorem ok_j_X9_readClause_137 {X : mm_C} {RR : Nat → Nat → Option Nat} (hR : RRok RR) {p1 : Int32} {p2 : Int32} {p3 : Int32}  {S : fS} {r : Int32 × fS} (h : j_X9_readClause_137 p1 p2 p3  S = some r) : mr X 5 mY_X9_readClause 137 [(0, .ref 37), (1, .int p1), (2, .int p2), (3, .int p3)] [] (MM RR S) (some (.int r.1), MM RR r.2) := by
  unfold j_X9_readClause_137 at h
  refine mr_iconst (pc' := 138) (v := (1 : Int32)) dX9_readClause_137 rfl (by decide) ?_
  refine mr_goto (t := 142) dX9_readClause_138 (by decide) ?_
  exact mr_sub [(0, .ref 37), (1, .int p1), (2, .int p2), (3, .int p3)] ⟨rfl, rfl, rfl, rfl, trivial⟩ rfl (ok_j_X9_readClause_142 hR h)
def j_X9_readClause_120 (p1 : Int32) (p2 : Int32) (p3 : Int32) (p4 : Int32)  (S : fS) : Option (Int32 × fS) :=
  if p4 = (0 : Int32) then (j_X9_readClause_141 p1 p2 p3  S) else
  (if (S.1 31 5) < (8 : Int32) then (j_X9_readClause_141 p1 p2 p3  S) else
  (j_X9_readClause_137 p1 p2 p3  S))
set_option maxHeartbeats 4000000 in
set_option maxRecDepth 100000 in
theorem ok_j_X9_readClause_120 {X : mm_C} {RR : Nat → Nat → Option Nat} (hR : RRok RR) {p1 : Int32} {p2 : Int32} {p3 : Int32} {p4 : Int32}  {S : fS} {r : Int32 × fS} (h : j_X9_readClause_120 p1 p2 p3 p4  S = some r) : mr X 5 mY_X9_readClause 120 [(0, .ref 37), (1, .int p1), (2, .int p2), (3, .int p3), (4, .int p4)] [] (MM RR S) (some (.int r.1), MM RR r.2) := by
  unfold j_X9_readClause_120 at h
  refine mr_iload (pc' := 122) dX9_readClause_120 rfl rfl ?_
  by_cases c9 : p4 = (0 : Int32)
  · rw [if_pos c9] at h
    refine mr_if_eq_t (t := 141) dX9_readClause_122 (by decide) c9 ?_
    exact mr_sub [(0, .ref 37), (1, .int p1), (2, .int p2), (3, .int p3)] ⟨rfl, rfl, rfl, rfl, trivial⟩ rfl (ok_j_X9_readClause_141 hR h)
  · rw [if_neg c9] at h
    refine mr_if_eq_f (t := 141) (pc' := 125) dX9_readClause_122 (by decide) rfl c9 ?_
    refine mr_aload_n (pc' := 126) dX9_readClause_125 rfl rfl ?_
    refine mr_getR (pc' := 129) (ci := 9) (j := 2) (b := 31) hR dX9_readClause_126 rfl rfl rfl (by decide) (by decide) (by decide) rfl rfl ?_
    refine mr_getI (pc' := 132) (ci := 0) (j := 5) dX9_readClause_129 rfl rfl rfl (by decide) (by decide) rfl ?_
    refine mr_bipush (pc' := 134) (v := (8 : Int32)) dX9_readClause_132 rfl (by decide) ?_
    by_cases c41 : (S.1 31 5) < (8 : Int32)
    · rw [if_pos c41] at h
      refine mr_icmp_lt_t (t := 141) dX9_readClause_134 (by decide) c41 ?_
      exact mr_sub [(0, .ref 37), (1, .int p1), (2, .int p2), (3, .int p3)] ⟨rfl, rfl, rfl, rfl, trivial⟩ rfl (ok_j_X9_readClause_141 hR h)
    · rw [if_neg c41] at h
      refine mr_icmp_lt_f (t := 141) (pc' := 137) dX9_readClause_134 (by decide) rfl c41 ?_
      exact mr_sub [(0, .ref 37), (1, .int p1), (2, .int p2), (3, .int p3)] ⟨rfl, rfl, rfl, rfl, trivial⟩ rfl (ok_j_X9_readClause_137 hR h)
def j_X9_readClause_104 (p1 : Int32) (p2 : Int32) (p3 : Int32) (p4 : Int32)  (S : fS) : Option (Int32 × fS) :=
  if p3 = (0 : Int32) then (j_X9_readClause_120 p1 p2 p3 p4  S) else
  (if (12 : Int32) ≤ (S.1 24 7) then (j_X9_readClause_137 p1 p2 p3  S) else
  (j_X9_readClause_120 p1 p2 p3 p4  S))
set_option maxHeartbeats 4000000 in
set_option maxRecDepth 100000 in
theorem ok_j_X9_readClause_104 {X : mm_C} {RR : Nat → Nat → Option Nat} (hR : RRok RR) {p1 : Int32} {p2 : Int32} {p3 : Int32} {p4 : Int32}  {S : fS} {r : Int32 × fS} (h : j_X9_readClause_104 p1 p2 p3 p4  S = some r) : mr X 5 mY_X9_readClause 104 [(0, .ref 37), (1, .int p1), (2, .int p2), (3, .int p3), (4, .int p4)] [] (MM RR S) (some (.int r.1), MM RR r.2) := by
  unfold j_X9_readClause_104 at h
  refine mr_iload_n (pc' := 105) dX9_readClause_104 rfl rfl ?_
  by_cases c8 : p3 = (0 : Int32)
  · rw [if_pos c8] at h
    refine mr_if_eq_t (t := 120) dX9_readClause_105 (by decide) c8 ?_
    exact mr_sub [(0, .ref 37), (1, .int p1), (2, .int p2), (3, .int p3), (4, .int p4)] ⟨rfl, rfl, rfl, rfl, rfl, trivial⟩ rfl (ok_j_X9_readClause_120 hR h)
  · rw [if_neg c8] at h
    refine mr_if_eq_f (t := 120) (pc' := 108) dX9_readClause_105 (by decide) rfl c8 ?_
    refine mr_aload_n (pc' := 109) dX9_readClause_108 rfl rfl ?_
    refine mr_getR (pc' := 112) (ci := 9) (j := 1) (b := 24) hR dX9_readClause_109 rfl rfl rfl (by decide) (by decide) (by decide) rfl rfl ?_
    refine mr_getI (pc' := 115) (ci := 8) (j := 7) dX9_readClause_112 rfl rfl rfl (by decide) (by decide) rfl ?_
    refine mr_bipush (pc' := 117) (v := (12 : Int32)) dX9_readClause_115 rfl (by decide) ?_
    by_cases c42 : (12 : Int32) ≤ (S.1 24 7)
    · rw [if_pos c42] at h
      refine mr_icmp_ge_t (t := 137) dX9_readClause_117 (by decide) c42 ?_
      exact mr_sub [(0, .ref 37), (1, .int p1), (2, .int p2), (3, .int p3)] ⟨rfl, rfl, rfl, rfl, trivial⟩ rfl (ok_j_X9_readClause_137 hR h)
    · rw [if_neg c42] at h
      refine mr_icmp_ge_f (t := 137) (pc' := 120) dX9_readClause_117 (by decide) rfl c42 ?_
      exact mr_sub [(0, .ref 37), (1, .int p1), (2, .int p2), (3, .int p3), (4, .int p4)] ⟨rfl, rfl, rfl, rfl, rfl, trivial⟩ rfl (ok_j_X9_readClause_120 hR h)
def j_X9_readClause_88 (p1 : Int32) (p2 : Int32) (p3 : Int32) (p4 : Int32)  (S : fS) : Option (Int32 × fS) :=
  if p2 = (0 : Int32) then (j_X9_readClause_104 p1 p2 p3 p4  S) else
  (if (10 : Int32) ≤ (S.1 24 6) then (j_X9_readClause_137 p1 p2 p3  S) else
  (j_X9_readClause_104 p1 p2 p3 p4  S))
set_option maxHeartbeats 4000000 in
set_option maxRecDepth 100000 in
theorem ok_j_X9_readClause_88 {X : mm_C} {RR : Nat → Nat → Option Nat} (hR : RRok RR) {p1 : Int32} {p2 : Int32} {p3 : Int32} {p4 : Int32}  {S : fS} {r : Int32 × fS} (h : j_X9_readClause_88 p1 p2 p3 p4  S = some r) : mr X 5 mY_X9_readClause 88 [(0, .ref 37), (1, .int p1), (2, .int p2), (3, .int p3), (4, .int p4)] [] (MM RR S) (some (.int r.1), MM RR r.2) := by
  unfold j_X9_readClause_88 at h
  refine mr_iload_n (pc' := 89) dX9_readClause_88 rfl rfl ?_
  by_cases c7 : p2 = (0 : Int32)
  · rw [if_pos c7] at h
    refine mr_if_eq_t (t := 104) dX9_readClause_89 (by decide) c7 ?_
    exact mr_sub [(0, .ref 37), (1, .int p1), (2, .int p2), (3, .int p3), (4, .int p4)] ⟨rfl, rfl, rfl, rfl, rfl, trivial⟩ rfl (ok_j_X9_readClause_104 hR h)
  · rw [if_neg c7] at h
    refine mr_if_eq_f (t := 104) (pc' := 92) dX9_readClause_89 (by decide) rfl c7 ?_
    refine mr_aload_n (pc' := 93) dX9_readClause_92 rfl rfl ?_
    refine mr_getR (pc' := 96) (ci := 9) (j := 1) (b := 24) hR dX9_readClause_93 rfl rfl rfl (by decide) (by decide) (by decide) rfl rfl ?_
    refine mr_getI (pc' := 99) (ci := 8) (j := 6) dX9_readClause_96 rfl rfl rfl (by decide) (by decide) rfl ?_
    refine mr_bipush (pc' := 101) (v := (10 : Int32)) dX9_readClause_99 rfl (by decide) ?_
    by_cases c43 : (10 : Int32) ≤ (S.1 24 6)
    · rw [if_pos c43] at h
      refine mr_icmp_ge_t (t := 137) dX9_readClause_101 (by decide) c43 ?_
      exact mr_sub [(0, .ref 37), (1, .int p1), (2, .int p2), (3, .int p3)] ⟨rfl, rfl, rfl, rfl, trivial⟩ rfl (ok_j_X9_readClause_137 hR h)
    · rw [if_neg c43] at h
      refine mr_icmp_ge_f (t := 137) (pc' := 104) dX9_readClause_101 (by decide) rfl c43 ?_
      exact mr_sub [(0, .ref 37), (1, .int p1), (2, .int p2), (3, .int p3), (4, .int p4)] ⟨rfl, rfl, rfl, rfl, rfl, trivial⟩ rfl (ok_j_X9_readClause_104 hR h)
def j_X9_readClause_57 (p1 : Int32) (p2 : Int32) (p3 : Int32) (s0 : Int32) (S : fS) : Option (Int32 × fS) :=
  if p2 = (0 : Int32) then (if p3 = (0 : Int32) then (if s0 = (0 : Int32) then ((f_X7_fail (S.1 1 2) (0 : Int32) S).bind fun q46 =>
  (bZ q46.1).bind fun z49 => some (z49, q46.2)) else
  (j_X9_readClause_88 p1 p2 p3 s0  S)) else
  (j_X9_readClause_88 p1 p2 p3 s0  S)) else
  (j_X9_readClause_88 p1 p2 p3 s0  S)
set_option maxHeartbeats 4000000 in
set_option maxRecDepth 100000 in
theorem ok_j_X9_readClause_57 {X : mm_C} {RR : Nat → Nat → Option Nat} (hR : RRok RR) {p1 : Int32} {p2 : Int32} {p3 : Int32} {s0 : Int32} {S : fS} {r : Int32 × fS} (h : j_X9_readClause_57 p1 p2 p3 s0 S = some r) : mr X 5 mY_X9_readClause 57 [(0, .ref 37), (1, .int p1), (2, .int p2), (3, .int p3)] [.int s0] (MM RR S) (some (.int r.1), MM RR r.2) := by
  unfold j_X9_readClause_57 at h
  refine mr_istore (pc' := 59) (lv' := [(4, .int s0), (0, .ref 37), (1, .int p1), (2, .int p2), (3, .int p3)]) dX9_readClause_57 rfl (by decide) rfl ?_
  refine mr_iload_n (pc' := 60) dX9_readClause_59 rfl rfl ?_
  by_cases c6 : p2 = (0 : Int32)
  · rw [if_pos c6] at h
    refine mr_if_ne_f (t := 88) (pc' := 63) dX9_readClause_60 (by decide) rfl (not_not_intro c6) ?_
    refine mr_iload_n (pc' := 64) dX9_readClause_63 rfl rfl ?_
    by_cases c44 : p3 = (0 : Int32)
    · rw [if_pos c44] at h
      refine mr_if_ne_f (t := 88) (pc' := 67) dX9_readClause_64 (by decide) rfl (not_not_intro c44) ?_
      refine mr_iload (pc' := 69) dX9_readClause_67 rfl rfl ?_
      by_cases c45 : s0 = (0 : Int32)
      · rw [if_pos c45] at h
        refine mr_if_ne_f (t := 88) (pc' := 72) dX9_readClause_69 (by decide) rfl (not_not_intro c45) ?_
        refine mr_aload_n (pc' := 73) dX9_readClause_72 rfl rfl ?_
        refine mr_getR (pc' := 76) (ci := 9) (j := 0) (b := 1) hR dX9_readClause_73 rfl rfl rfl (by decide) (by decide) (by decide) rfl rfl ?_
        refine mr_aload_n (pc' := 77) dX9_readClause_76 rfl rfl ?_
        refine mr_getR (pc' := 80) (ci := 9) (j := 0) (b := 1) hR dX9_readClause_77 rfl rfl rfl (by decide) (by decide) (by decide) rfl rfl ?_
        refine mr_getI (pc' := 83) (ci := 7) (j := 2) dX9_readClause_80 rfl rfl rfl (by decide) (by decide) rfl ?_
        refine mr_iconst (pc' := 84) (v := (0 : Int32)) dX9_readClause_83 rfl (by decide) ?_
        obtain ⟨q46, g47, h48⟩ := Option.bind_eq_some_iff.mp h
        refine mr_cv (pc' := 87) (a := 1) (d1 := 0) dX9_readClause_84 rfl rfl rfl rfl rfl rfl (by decide) rfl (by decide) (ok_X7_fail hR  g47) ?_
        show mr X _ _ 87 _ [.int q46.1] (MM RR q46.2) _
        obtain ⟨z49, g50, h51⟩ := Option.bind_eq_some_iff.mp h48
        obtain ⟨g52, e53⟩ := mm_ifs g50
        cases e53
        cases h51
        exact mr_zreturn dX9_readClause_87 rfl g52
      · rw [if_neg c45] at h
        refine mr_if_ne_t (t := 88) dX9_readClause_69 (by decide) c45 ?_
        exact mr_sub [(0, .ref 37), (1, .int p1), (2, .int p2), (3, .int p3), (4, .int s0)] ⟨rfl, rfl, rfl, rfl, rfl, trivial⟩ rfl (ok_j_X9_readClause_88 hR h)
    · rw [if_neg c44] at h
      refine mr_if_ne_t (t := 88) dX9_readClause_64 (by decide) c44 ?_
      exact mr_sub [(0, .ref 37), (1, .int p1), (2, .int p2), (3, .int p3), (4, .int s0)] ⟨rfl, rfl, rfl, rfl, rfl, trivial⟩ rfl (ok_j_X9_readClause_88 hR h)
  · rw [if_neg c6] at h
    refine mr_if_ne_t (t := 88) dX9_readClause_60 (by decide) c6 ?_
    exact mr_sub [(0, .ref 37), (1, .int p1), (2, .int p2), (3, .int p3), (4, .int s0)] ⟨rfl, rfl, rfl, rfl, rfl, trivial⟩ rfl (ok_j_X9_readClause_88 hR h)
def j_X9_readClause_56 (p1 : Int32) (p2 : Int32) (p3 : Int32)  (S : fS) : Option (Int32 × fS) :=
  j_X9_readClause_57 p1 p2 p3 (0 : Int32) S
set_option maxHeartbeats 4000000 in
set_option maxRecDepth 100000 in
theorem ok_j_X9_readClause_56 {X : mm_C} {RR : Nat → Nat → Option Nat} (hR : RRok RR) {p1 : Int32} {p2 : Int32} {p3 : Int32}  {S : fS} {r : Int32 × fS} (h : j_X9_readClause_56 p1 p2 p3  S = some r) : mr X 5 mY_X9_readClause 56 [(0, .ref 37), (1, .int p1), (2, .int p2), (3, .int p3)] [] (MM RR S) (some (.int r.1), MM RR r.2) := by
  unfold j_X9_readClause_56 at h
  refine mr_iconst (pc' := 57) (v := (0 : Int32)) dX9_readClause_56 rfl (by decide) ?_
  exact mr_sub [(0, .ref 37), (1, .int p1), (2, .int p2), (3, .int p3)] ⟨rfl, rfl, rfl, rfl, trivial⟩ rfl (ok_j_X9_readClause_57 hR h)
def j_X9_readClause_31 (p1 : Int32) (p2 : Int32) (s0 : Int32) (S : fS) : Option (Int32 × fS) :=
  if p2 = (0 : Int32) then (if s0 = (0 : Int32) then ((f_X7_takeWord 2 S).bind fun q55 =>
  if q55.1 = (0 : Int32) then (j_X9_readClause_56 p1 p2 s0  q55.2) else
  (j_X9_readClause_57 p1 p2 s0 (1 : Int32) q55.2)) else
  (j_X9_readClause_56 p1 p2 s0  S)) else
  (j_X9_readClause_56 p1 p2 s0  S)
set_option maxHeartbeats 4000000 in
set_option maxRecDepth 100000 in
theorem ok_j_X9_readClause_31 {X : mm_C} {RR : Nat → Nat → Option Nat} (hR : RRok RR) {p1 : Int32} {p2 : Int32} {s0 : Int32} {S : fS} {r : Int32 × fS} (h : j_X9_readClause_31 p1 p2 s0 S = some r) : mr X 5 mY_X9_readClause 31 [(0, .ref 37), (1, .int p1), (2, .int p2)] [.int s0] (MM RR S) (some (.int r.1), MM RR r.2) := by
  unfold j_X9_readClause_31 at h
  refine mr_istore_n (pc' := 32) (lv' := [(3, .int s0), (0, .ref 37), (1, .int p1), (2, .int p2)]) dX9_readClause_31 rfl (by decide) rfl ?_
  refine mr_iload_n (pc' := 33) dX9_readClause_32 rfl rfl ?_
  by_cases c5 : p2 = (0 : Int32)
  · rw [if_pos c5] at h
    refine mr_if_ne_f (t := 56) (pc' := 36) dX9_readClause_33 (by decide) rfl (not_not_intro c5) ?_
    refine mr_iload_n (pc' := 37) dX9_readClause_36 rfl rfl ?_
    by_cases c54 : s0 = (0 : Int32)
    · rw [if_pos c54] at h
      refine mr_if_ne_f (t := 56) (pc' := 40) dX9_readClause_37 (by decide) rfl (not_not_intro c54) ?_
      refine mr_aload_n (pc' := 41) dX9_readClause_40 rfl rfl ?_
      refine mr_getR (pc' := 44) (ci := 9) (j := 0) (b := 1) hR dX9_readClause_41 rfl rfl rfl (by decide) (by decide) (by decide) rfl rfl ?_
      refine mr_ldcS (pc' := 46) (i := 2) dX9_readClause_44 rfl rfl rfl ?_
      obtain ⟨q55, g56, h57⟩ := Option.bind_eq_some_iff.mp h
      refine mr_cv (pc' := 49) (a := 1) (d1 := 4) dX9_readClause_46 rfl rfl rfl rfl rfl rfl (by decide) rfl (by decide) (ok_X7_takeWord hR (by decide) g56) ?_
      show mr X _ _ 49 _ [.int q55.1] (MM RR q55.2) _
      by_cases c58 : q55.1 = (0 : Int32)
      · rw [if_pos c58] at h57
        refine mr_if_eq_t (t := 56) dX9_readClause_49 (by decide) c58 ?_
        exact mr_sub [(0, .ref 37), (1, .int p1), (2, .int p2), (3, .int s0)] ⟨rfl, rfl, rfl, rfl, trivial⟩ rfl (ok_j_X9_readClause_56 hR h57)
      · rw [if_neg c58] at h57
        refine mr_if_eq_f (t := 56) (pc' := 52) dX9_readClause_49 (by decide) rfl c58 ?_
        refine mr_iconst (pc' := 53) (v := (1 : Int32)) dX9_readClause_52 rfl (by decide) ?_
        refine mr_goto (t := 57) dX9_readClause_53 (by decide) ?_
        exact mr_sub [(0, .ref 37), (1, .int p1), (2, .int p2), (3, .int s0)] ⟨rfl, rfl, rfl, rfl, trivial⟩ rfl (ok_j_X9_readClause_57 hR h57)
    · rw [if_neg c54] at h
      refine mr_if_ne_t (t := 56) dX9_readClause_37 (by decide) c54 ?_
      exact mr_sub [(0, .ref 37), (1, .int p1), (2, .int p2), (3, .int s0)] ⟨rfl, rfl, rfl, rfl, trivial⟩ rfl (ok_j_X9_readClause_56 hR h)
  · rw [if_neg c5] at h
    refine mr_if_ne_t (t := 56) dX9_readClause_33 (by decide) c5 ?_
    exact mr_sub [(0, .ref 37), (1, .int p1), (2, .int p2), (3, .int s0)] ⟨rfl, rfl, rfl, rfl, trivial⟩ rfl (ok_j_X9_readClause_56 hR h)
def j_X9_readClause_30 (p1 : Int32) (p2 : Int32)  (S : fS) : Option (Int32 × fS) :=
  j_X9_readClause_31 p1 p2 (0 : Int32) S
set_option maxHeartbeats 4000000 in
set_option maxRecDepth 100000 in
theorem ok_j_X9_readClause_30 {X : mm_C} {RR : Nat → Nat → Option Nat} (hR : RRok RR) {p1 : Int32} {p2 : Int32}  {S : fS} {r : Int32 × fS} (h : j_X9_readClause_30 p1 p2  S = some r) : mr X 5 mY_X9_readClause 30 [(0, .ref 37), (1, .int p1), (2, .int p2)] [] (MM RR S) (some (.int r.1), MM RR r.2) := by
  unfold j_X9_readClause_30 at h
  refine mr_iconst (pc' := 31) (v := (0 : Int32)) dX9_readClause_30 rfl (by decide) ?_
  exact mr_sub [(0, .ref 37), (1, .int p1), (2, .int p2)] ⟨rfl, rfl, rfl, trivial⟩ rfl (ok_j_X9_readClause_31 hR h)
def f_X9_readClause (v1 : Int32) (S : fS) : Option (Int32 × fS) :=
  (f_X7_takeWord 0 S).bind fun q1 =>
  if q1.1 = (0 : Int32) then ((f_X7_takeWord 1 q1.2).bind fun q59 =>
  if q59.1 = (0 : Int32) then (j_X9_readClause_30 v1 q1.1  q59.2) else
  (j_X9_readClause_31 v1 q1.1 (1 : Int32) q59.2)) else
  (j_X9_readClause_30 v1 q1.1  q1.2)
set_option maxHeartbeats 4000000 in
set_option maxRecDepth 100000 in
theorem ok_X9_readClause {X : mm_C} {RR : Nat → Nat → Option Nat} (hR : RRok RR) {v1 : Int32}  {S : fS} {r : Int32 × fS} (h : f_X9_readClause v1 S = some r) : mr X 5 mY_X9_readClause 0 (lv_args 0 [.ref 37, .int v1]) [] (MM RR S) (some (.int r.1), MM RR r.2) := by
  unfold f_X9_readClause at h
  show mr X _ _ 0 [(0, .ref 37), (1, .int v1)] [] (MM RR S) _
  refine mr_aload_n (pc' := 1) dX9_readClause_0 rfl rfl ?_
  refine mr_getR (pc' := 4) (ci := 9) (j := 0) (b := 1) hR dX9_readClause_1 rfl rfl rfl (by decide) (by decide) (by decide) rfl rfl ?_
  refine mr_ldcS (pc' := 6) (i := 0) dX9_readClause_4 rfl rfl rfl ?_
  obtain ⟨q1, g2, h3⟩ := Option.bind_eq_some_iff.mp h
  refine mr_cv (pc' := 9) (a := 1) (d1 := 4) dX9_readClause_6 rfl rfl rfl rfl rfl rfl (by decide) rfl (by decide) (ok_X7_takeWord hR (by decide) g2) ?_
  show mr X _ _ 9 _ [.int q1.1] (MM RR q1.2) _
  refine mr_istore_n (pc' := 10) (lv' := [(2, .int q1.1), (0, .ref 37), (1, .int v1)]) dX9_readClause_9 rfl (by decide) rfl ?_
  refine mr_iload_n (pc' := 11) dX9_readClause_10 rfl rfl ?_
  by_cases c4 : q1.1 = (0 : Int32)
  · rw [if_pos c4] at h3
    refine mr_if_ne_f (t := 30) (pc' := 14) dX9_readClause_11 (by decide) rfl (not_not_intro c4) ?_
    refine mr_aload_n (pc' := 15) dX9_readClause_14 rfl rfl ?_
    refine mr_getR (pc' := 18) (ci := 9) (j := 0) (b := 1) hR dX9_readClause_15 rfl rfl rfl (by decide) (by decide) (by decide) rfl rfl ?_
    refine mr_ldcS (pc' := 20) (i := 1) dX9_readClause_18 rfl rfl rfl ?_
    obtain ⟨q59, g60, h61⟩ := Option.bind_eq_some_iff.mp h3
    refine mr_cv (pc' := 23) (a := 1) (d1 := 4) dX9_readClause_20 rfl rfl rfl rfl rfl rfl (by decide) rfl (by decide) (ok_X7_takeWord hR (by decide) g60) ?_
    show mr X _ _ 23 _ [.int q59.1] (MM RR q59.2) _
    by_cases c62 : q59.1 = (0 : Int32)
    · rw [if_pos c62] at h61
      refine mr_if_eq_t (t := 30) dX9_readClause_23 (by decide) c62 ?_
      exact mr_sub [(0, .ref 37), (1, .int v1), (2, .int q1.1)] ⟨rfl, rfl, rfl, trivial⟩ rfl (ok_j_X9_readClause_30 hR h61)
    · rw [if_neg c62] at h61
      refine mr_if_eq_f (t := 30) (pc' := 26) dX9_readClause_23 (by decide) rfl c62 ?_
      refine mr_iconst (pc' := 27) (v := (1 : Int32)) dX9_readClause_26 rfl (by decide) ?_
      refine mr_goto (t := 31) dX9_readClause_27 (by decide) ?_
      exact mr_sub [(0, .ref 37), (1, .int v1), (2, .int q1.1)] ⟨rfl, rfl, rfl, trivial⟩ rfl (ok_j_X9_readClause_31 hR h61)
  · rw [if_neg c4] at h3
    refine mr_if_ne_t (t := 30) dX9_readClause_11 (by decide) c4 ?_
    exact mr_sub [(0, .ref 37), (1, .int v1), (2, .int q1.1)] ⟨rfl, rfl, rfl, trivial⟩ rfl (ok_j_X9_readClause_30 hR h3)
def f_X7_isAtEnd  (S : fS) : Option (Int32 × fS) :=
  (f_X7_skipBlanks  S).bind fun q1 =>
  if (q1.1 1 2) < (q1.1 1 1) then (some ((0 : Int32), q1)) else
  (some ((1 : Int32), q1))
set_option maxHeartbeats 4000000 in
set_option maxRecDepth 100000 in
theorem ok_X7_isAtEnd {X : mm_C} {RR : Nat → Nat → Option Nat} (hR : RRok RR)   {S : fS} {r : Int32 × fS} (h : f_X7_isAtEnd  S = some r) : mr X 1 mY_X7_isAtEnd 0 (lv_args 0 [.ref 1]) [] (MM RR S) (some (.int r.1), MM RR r.2) := by
  unfold f_X7_isAtEnd at h
  show mr X _ _ 0 [(0, .ref 1)] [] (MM RR S) _
  refine mr_aload_n (pc' := 1) dX7_isAtEnd_0 rfl rfl ?_
  obtain ⟨q1, g2, h3⟩ := Option.bind_eq_some_iff.mp h
  refine mr_cv (pc' := 4) (a := 1) (d1 := 0) dX7_isAtEnd_1 rfl rfl rfl rfl rfl rfl (by decide) rfl (by decide) (ok_X7_skipBlanks hR  g2) ?_
  show mr X _ _ 4 _ [] (MM RR q1) _
  refine mr_aload_n (pc' := 5) dX7_isAtEnd_4 rfl rfl ?_
  refine mr_getI (pc' := 8) (ci := 7) (j := 2) dX7_isAtEnd_5 rfl rfl rfl (by decide) (by decide) rfl ?_
  refine mr_aload_n (pc' := 9) dX7_isAtEnd_8 rfl rfl ?_
  refine mr_getI (pc' := 12) (ci := 7) (j := 1) dX7_isAtEnd_9 rfl rfl rfl (by decide) (by decide) rfl ?_
  by_cases c4 : (q1.1 1 2) < (q1.1 1 1)
  · rw [if_pos c4] at h3
    refine mr_icmp_lt_t (t := 19) dX7_isAtEnd_12 (by decide) c4 ?_
    refine mr_iconst (pc' := 20) (v := (0 : Int32)) dX7_isAtEnd_19 rfl (by decide) ?_
    obtain rfl := Option.some.inj h3
    exact mr_zreturn dX7_isAtEnd_20 rfl (by decide)
  · rw [if_neg c4] at h3
    refine mr_icmp_lt_f (t := 19) (pc' := 15) dX7_isAtEnd_12 (by decide) rfl c4 ?_
    refine mr_iconst (pc' := 16) (v := (1 : Int32)) dX7_isAtEnd_15 rfl (by decide) ?_
    refine mr_goto (t := 20) dX7_isAtEnd_16 (by decide) ?_
    obtain rfl := Option.some.inj h3
    exact mr_zreturn dX7_isAtEnd_20 rfl (by decide)
def f_X8_hoursBetween (v0 : Nat) (v1 : Int32) (v2 : Int32) (S : fS) : Option (Int32) :=
  (gI S (v0 + 6) 100 ((v1 * (10 : Int32)) + v2)).bind fun a1 =>
  some a1
set_option maxHeartbeats 4000000 in
set_option maxRecDepth 100000 in
theorem ok_X8_hoursBetween {X : mm_C} {RR : Nat → Nat → Option Nat} (hR : RRok RR) {v0 : Nat} {v1 : Int32} {v2 : Int32} (t0 : tg v0 = 8) {S : fS} {r : Int32} (h : f_X8_hoursBetween v0 v1 v2 S = some r) : mr X 0 mY_X8_hoursBetween 0 (lv_args 0 [.ref v0, .int v1, .int v2]) [] (MM RR S) (some (.int r), MM RR S) := by
  unfold f_X8_hoursBetween at h
  show mr X _ _ 0 [(0, .ref v0), (1, .int v1), (2, .int v2)] [] (MM RR S) _
  refine mr_aload_n (pc' := 1) dX8_hoursBetween_0 rfl rfl ?_
  refine mr_getR (pc' := 4) (ci := 8) (j := 5) (b := (v0 + 6)) hR dX8_hoursBetween_1 rfl rfl t0 (by decide) (by decide) (by decide) rfl (ly8_5 t0).1 ?_
  refine mr_iload_n (pc' := 5) dX8_hoursBetween_4 rfl rfl ?_
  refine mr_bipush (pc' := 7) (v := (10 : Int32)) dX8_hoursBetween_5 rfl (by decide) ?_
  refine mr_imul (pc' := 8) dX8_hoursBetween_7 rfl ?_
  refine mr_iload_n (pc' := 9) dX8_hoursBetween_8 rfl rfl ?_
  refine mr_iadd (pc' := 10) dX8_hoursBetween_9 rfl ?_
  obtain ⟨a1, g2, h3⟩ := Option.bind_eq_some_iff.mp h
  refine mr_iald (pc' := 11) dX8_hoursBetween_10 rfl (ly8_5 t0).2.1 (ly8_5 t0).2.2 g2 ?_
  obtain rfl := Option.some.inj h3
  exact mr_ireturn dX8_hoursBetween_11 rfl
def f_X8_shorten (v0 : Nat) (v1 : Int32) (v2 : Int32) (v3 : Int32) (S : fS) : Option (fS) :=
  (f_X8_hoursBetween v0 v1 v2 S).bind fun q1 =>
  if q1 < (0 : Int32) then ((sI S (v0 + 6) 100 ((v1 * (10 : Int32)) + v2) v3).bind fun S5 =>
  some S5) else
  (if q1 ≤ v3 then (some S) else
  ((sI S (v0 + 6) 100 ((v1 * (10 : Int32)) + v2) v3).bind fun S9 =>
  some S9))
set_option maxHeartbeats 4000000 in
set_option maxRecDepth 100000 in
theorem ok_X8_shorten {X : mm_C} {RR : Nat → Nat → Option Nat} (hR : RRok RR) {v0 : Nat} {v1 : Int32} {v2 : Int32} {v3 : Int32} (t0 : tg v0 = 8) {S : fS} {r : fS} (h : f_X8_shorten v0 v1 v2 v3 S = some r) : mr X 1 mY_X8_shorten 0 (lv_args 0 [.ref v0, .int v1, .int v2, .int v3]) [] (MM RR S) (none, MM RR r) := by
  unfold f_X8_shorten at h
  show mr X _ _ 0 [(0, .ref v0), (1, .int v1), (2, .int v2), (3, .int v3)] [] (MM RR S) _
  refine mr_aload_n (pc' := 1) dX8_shorten_0 rfl rfl ?_
  refine mr_iload_n (pc' := 2) dX8_shorten_1 rfl rfl ?_
  refine mr_iload_n (pc' := 3) dX8_shorten_2 rfl rfl ?_
  obtain ⟨q1, g2, h3⟩ := Option.bind_eq_some_iff.mp h
  refine mr_cv (pc' := 6) (a := v0) (d1 := 0) dX8_shorten_3 rfl rfl rfl rfl rfl t0 (by decide) rfl (by decide) (ok_X8_hoursBetween hR t0 g2) ?_
  show mr X _ _ 6 _ [.int q1] (MM RR S) _
  refine mr_istore (pc' := 8) (lv' := [(4, .int q1), (0, .ref v0), (1, .int v1), (2, .int v2), (3, .int v3)]) dX8_shorten_6 rfl (by decide) rfl ?_
  refine mr_iload (pc' := 10) dX8_shorten_8 rfl rfl ?_
  by_cases c4 : q1 < (0 : Int32)
  · rw [if_pos c4] at h3
    refine mr_if_lt_t (t := 19) dX8_shorten_10 (by decide) c4 ?_
    refine mr_aload_n (pc' := 20) dX8_shorten_19 rfl rfl ?_
    refine mr_getR (pc' := 23) (ci := 8) (j := 5) (b := (v0 + 6)) hR dX8_shorten_20 rfl rfl t0 (by decide) (by decide) (by decide) rfl (ly8_5 t0).1 ?_
    refine mr_iload_n (pc' := 24) dX8_shorten_23 rfl rfl ?_
    refine mr_bipush (pc' := 26) (v := (10 : Int32)) dX8_shorten_24 rfl (by decide) ?_
    refine mr_imul (pc' := 27) dX8_shorten_26 rfl ?_
    refine mr_iload_n (pc' := 28) dX8_shorten_27 rfl rfl ?_
    refine mr_iadd (pc' := 29) dX8_shorten_28 rfl ?_
    refine mr_iload_n (pc' := 30) dX8_shorten_29 rfl rfl ?_
    obtain ⟨S5, g6, h7⟩ := Option.bind_eq_some_iff.mp h3
    refine mr_iast (pc' := 31) dX8_shorten_30 rfl (ly8_5 t0).2.1 (ly8_5 t0).2.2 g6 ?_
    obtain rfl := Option.some.inj h7
    exact mr_return dX8_shorten_31 rfl
  · rw [if_neg c4] at h3
    refine mr_if_lt_f (t := 19) (pc' := 13) dX8_shorten_10 (by decide) rfl c4 ?_
    refine mr_iload_n (pc' := 14) dX8_shorten_13 rfl rfl ?_
    refine mr_iload (pc' := 16) dX8_shorten_14 rfl rfl ?_
    by_cases c8 : q1 ≤ v3
    · rw [if_pos c8] at h3
      refine mr_icmp_ge_t (t := 31) dX8_shorten_16 (by decide) c8 ?_
      obtain rfl := Option.some.inj h3
      exact mr_return dX8_shorten_31 rfl
    · rw [if_neg c8] at h3
      refine mr_icmp_ge_f (t := 31) (pc' := 19) dX8_shorten_16 (by decide) rfl c8 ?_
      refine mr_aload_n (pc' := 20) dX8_shorten_19 rfl rfl ?_
      refine mr_getR (pc' := 23) (ci := 8) (j := 5) (b := (v0 + 6)) hR dX8_shorten_20 rfl rfl t0 (by decide) (by decide) (by decide) rfl (ly8_5 t0).1 ?_
      refine mr_iload_n (pc' := 24) dX8_shorten_23 rfl rfl ?_
      refine mr_bipush (pc' := 26) (v := (10 : Int32)) dX8_shorten_24 rfl (by decide) ?_
      refine mr_imul (pc' := 27) dX8_shorten_26 rfl ?_
      refine mr_iload_n (pc' := 28) dX8_shorten_27 rfl rfl ?_
      refine mr_iadd (pc' := 29) dX8_shorten_28 rfl ?_
      refine mr_iload_n (pc' := 30) dX8_shorten_29 rfl rfl ?_
      obtain ⟨S9, g10, h11⟩ := Option.bind_eq_some_iff.mp h3
      refine mr_iast (pc' := 31) dX8_shorten_30 rfl (ly8_5 t0).2.1 (ly8_5 t0).2.2 g10 ?_
      obtain rfl := Option.some.inj h11
      exact mr_return dX8_shorten_31 rfl
def lp_X8_measureWays_2 (p0 : Nat) (K : fS → Option (fS)) : Nat → Int32 → fS → Option (fS)
  | 0, _, _ => none
  | n + 1, p1, S0 =>
    if (100 : Int32) ≤ p1 then (K S0) else
    ((dI p1 (10 : Int32)).bind fun a2 =>
    (rI p1 (10 : Int32)).bind fun a5 =>
    if a2 = a5 then ((sI S0 (p0 + 6) 100 p1 (0 : Int32)).bind fun S12 =>
    lp_X8_measureWays_2 p0 K n (p1 + (1 : Int32)) S12) else
    ((sI S0 (p0 + 6) 100 p1 (-1 : Int32)).bind fun S9 =>
    lp_X8_measureWays_2 p0 K n (p1 + (1 : Int32)) S9))
set_option maxHeartbeats 4000000 in
set_option maxRecDepth 100000 in
theorem ok_lp_X8_measureWays_2 {X : mm_C} {RR : Nat → Nat → Option Nat} (hR : RRok RR) {p0 : Nat} (t0 : tg p0 = 8) {K : fS → Option (fS)} {r : fS} (hK : ∀ (Sk : fS), K Sk = some r → mr X 2 mY_X8_measureWays 36 [(0, .ref p0)] [] (MM RR Sk) (none, MM RR r)) : ∀ (n : Nat) (p1 : Int32) (S0 : fS), lp_X8_measureWays_2 p0 K n p1 S0 = some r → mr X 2 mY_X8_measureWays 2 [(0, .ref p0), (1, .int p1)] [] (MM RR S0) (none, MM RR r) := by
  intro n
  induction n with
  | zero => intro p1 S0 h; exact mm_no h
  | succ n ih =>
    intro p1 S0 h
    unfold lp_X8_measureWays_2 at h
    refine mr_iload_n (pc' := 3) dX8_measureWays_2 rfl rfl ?_
    refine mr_bipush (pc' := 5) (v := (100 : Int32)) dX8_measureWays_3 rfl (by decide) ?_
    by_cases c1 : (100 : Int32) ≤ p1
    · rw [if_pos c1] at h
      refine mr_icmp_ge_t (t := 36) dX8_measureWays_5 (by decide) c1 ?_
      exact mr_sub [(0, .ref p0)] ⟨rfl, trivial⟩ rfl (hK _  h)
    · rw [if_neg c1] at h
      refine mr_icmp_ge_f (t := 36) (pc' := 8) dX8_measureWays_5 (by decide) rfl c1 ?_
      refine mr_aload_n (pc' := 9) dX8_measureWays_8 rfl rfl ?_
      refine mr_getR (pc' := 12) (ci := 8) (j := 5) (b := (p0 + 6)) hR dX8_measureWays_9 rfl rfl t0 (by decide) (by decide) (by decide) rfl (ly8_5 t0).1 ?_
      refine mr_iload_n (pc' := 13) dX8_measureWays_12 rfl rfl ?_
      refine mr_iload_n (pc' := 14) dX8_measureWays_13 rfl rfl ?_
      refine mr_bipush (pc' := 16) (v := (10 : Int32)) dX8_measureWays_14 rfl (by decide) ?_
      obtain ⟨a2, g3, h4⟩ := Option.bind_eq_some_iff.mp h
      refine mr_idiv (pc' := 17) dX8_measureWays_16 rfl g3 ?_
      refine mr_iload_n (pc' := 18) dX8_measureWays_17 rfl rfl ?_
      refine mr_bipush (pc' := 20) (v := (10 : Int32)) dX8_measureWays_18 rfl (by decide) ?_
      obtain ⟨a5, g6, h7⟩ := Option.bind_eq_some_iff.mp h4
      refine mr_irem (pc' := 21) dX8_measureWays_20 rfl g6 ?_
      by_cases c8 : a2 = a5
      · rw [if_pos c8] at h7
        refine mr_icmp_ne_f (t := 28) (pc' := 24) dX8_measureWays_21 (by decide) rfl (not_not_intro c8) ?_
        refine mr_iconst (pc' := 25) (v := (0 : Int32)) dX8_measureWays_24 rfl (by decide) ?_
        refine mr_goto (t := 29) dX8_measureWays_25 (by decide) ?_
        obtain ⟨S12, g13, h14⟩ := Option.bind_eq_some_iff.mp h7
        refine mr_iast (pc' := 30) dX8_measureWays_29 rfl (ly8_5 t0).2.1 (ly8_5 t0).2.2 g13 ?_
        refine mr_iinc (pc' := 33) (x' := (p1 + (1 : Int32))) (lv' := [(1, .int (p1 + (1 : Int32))), (0, .ref p0)]) dX8_measureWays_30 rfl (by decide) rfl rfl rfl ?_
        refine mr_goto (t := 2) dX8_measureWays_33 (by decide) ?_
        exact mr_sub [(0, .ref p0), (1, .int (p1 + (1 : Int32)))] ⟨rfl, rfl, trivial⟩ rfl (ih _ _  h14)
      · rw [if_neg c8] at h7
        refine mr_icmp_ne_t (t := 28) dX8_measureWays_21 (by decide) c8 ?_
        refine mr_iconst (pc' := 29) (v := (-1 : Int32)) dX8_measureWays_28 rfl (by decide) ?_
        obtain ⟨S9, g10, h11⟩ := Option.bind_eq_some_iff.mp h7
        refine mr_iast (pc' := 30) dX8_measureWays_29 rfl (ly8_5 t0).2.1 (ly8_5 t0).2.2 g10 ?_
        refine mr_iinc (pc' := 33) (x' := (p1 + (1 : Int32))) (lv' := [(1, .int (p1 + (1 : Int32))), (0, .ref p0)]) dX8_measureWays_30 rfl (by decide) rfl rfl rfl ?_
        refine mr_goto (t := 2) dX8_measureWays_33 (by decide) ?_
        exact mr_sub [(0, .ref p0), (1, .int (p1 + (1 : Int32)))] ⟨rfl, rfl, trivial⟩ rfl (ih _ _  h11)
def lp_X8_measureWays_38 (p0 : Nat) (K : fS → Option (fS)) : Nat → Int32 → fS → Option (fS)
  | 0, _, _ => none
  | n + 1, p1, S0 =>
    if (S0.1 p0 7) ≤ p1 then (K S0) else
    ((gI S0 (p0 + 2) 12 p1).bind fun a18 =>
    (gI S0 (p0 + 3) 12 p1).bind fun a21 =>
    (gI S0 (p0 + 4) 12 p1).bind fun a24 =>
    (f_X8_shorten p0 a18 a21 a24 S0).bind fun q27 =>
    (gI q27 (p0 + 3) 12 p1).bind fun a30 =>
    (gI q27 (p0 + 2) 12 p1).bind fun a33 =>
    (gI q27 (p0 + 4) 12 p1).bind fun a36 =>
    (f_X8_shorten p0 a30 a33 a36 q27).bind fun q39 =>
    lp_X8_measureWays_38 p0 K n (p1 + (1 : Int32)) q39)
set_option maxHeartbeats 4000000 in
set_option maxRecDepth 100000 in
theorem ok_lp_X8_measureWays_38 {X : mm_C} {RR : Nat → Nat → Option Nat} (hR : RRok RR) {p0 : Nat} (t0 : tg p0 = 8) {K : fS → Option (fS)} {r : fS} (hK : ∀ (Sk : fS), K Sk = some r → mr X 2 mY_X8_measureWays 96 [(0, .ref p0)] [] (MM RR Sk) (none, MM RR r)) : ∀ (n : Nat) (p1 : Int32) (S0 : fS), lp_X8_measureWays_38 p0 K n p1 S0 = some r → mr X 2 mY_X8_measureWays 38 [(0, .ref p0), (1, .int p1)] [] (MM RR S0) (none, MM RR r) := by
  intro n
  induction n with
  | zero => intro p1 S0 h; exact mm_no h
  | succ n ih =>
    intro p1 S0 h
    unfold lp_X8_measureWays_38 at h
    refine mr_iload_n (pc' := 39) dX8_measureWays_38 rfl rfl ?_
    refine mr_aload_n (pc' := 40) dX8_measureWays_39 rfl rfl ?_
    refine mr_getI (pc' := 43) (ci := 8) (j := 7) dX8_measureWays_40 rfl rfl t0 (by decide) (by decide) rfl ?_
    by_cases c17 : (S0.1 p0 7) ≤ p1
    · rw [if_pos c17] at h
      refine mr_icmp_ge_t (t := 96) dX8_measureWays_43 (by decide) c17 ?_
      exact mr_sub [(0, .ref p0)] ⟨rfl, trivial⟩ rfl (hK _  h)
    · rw [if_neg c17] at h
      refine mr_icmp_ge_f (t := 96) (pc' := 46) dX8_measureWays_43 (by decide) rfl c17 ?_
      refine mr_aload_n (pc' := 47) dX8_measureWays_46 rfl rfl ?_
      refine mr_aload_n (pc' := 48) dX8_measureWays_47 rfl rfl ?_
      refine mr_getR (pc' := 51) (ci := 8) (j := 1) (b := (p0 + 2)) hR dX8_measureWays_48 rfl rfl t0 (by decide) (by decide) (by decide) rfl (ly8_1 t0).1 ?_
      refine mr_iload_n (pc' := 52) dX8_measureWays_51 rfl rfl ?_
      obtain ⟨a18, g19, h20⟩ := Option.bind_eq_some_iff.mp h
      refine mr_iald (pc' := 53) dX8_measureWays_52 rfl (ly8_1 t0).2.1 (ly8_1 t0).2.2 g19 ?_
      refine mr_aload_n (pc' := 54) dX8_measureWays_53 rfl rfl ?_
      refine mr_getR (pc' := 57) (ci := 8) (j := 2) (b := (p0 + 3)) hR dX8_measureWays_54 rfl rfl t0 (by decide) (by decide) (by decide) rfl (ly8_2 t0).1 ?_
      refine mr_iload_n (pc' := 58) dX8_measureWays_57 rfl rfl ?_
      obtain ⟨a21, g22, h23⟩ := Option.bind_eq_some_iff.mp h20
      refine mr_iald (pc' := 59) dX8_measureWays_58 rfl (ly8_2 t0).2.1 (ly8_2 t0).2.2 g22 ?_
      refine mr_aload_n (pc' := 60) dX8_measureWays_59 rfl rfl ?_
      refine mr_getR (pc' := 63) (ci := 8) (j := 3) (b := (p0 + 4)) hR dX8_measureWays_60 rfl rfl t0 (by decide) (by decide) (by decide) rfl (ly8_3 t0).1 ?_
      refine mr_iload_n (pc' := 64) dX8_measureWays_63 rfl rfl ?_
      obtain ⟨a24, g25, h26⟩ := Option.bind_eq_some_iff.mp h23
      refine mr_iald (pc' := 65) dX8_measureWays_64 rfl (ly8_3 t0).2.1 (ly8_3 t0).2.2 g25 ?_
      obtain ⟨q27, g28, h29⟩ := Option.bind_eq_some_iff.mp h26
      refine mr_cv (pc' := 68) (a := p0) (d1 := 1) dX8_measureWays_65 rfl rfl rfl rfl rfl t0 (by decide) rfl (by decide) (ok_X8_shorten hR t0 g28) ?_
      show mr X _ _ 68 _ [] (MM RR q27) _
      refine mr_aload_n (pc' := 69) dX8_measureWays_68 rfl rfl ?_
      refine mr_aload_n (pc' := 70) dX8_measureWays_69 rfl rfl ?_
      refine mr_getR (pc' := 73) (ci := 8) (j := 2) (b := (p0 + 3)) hR dX8_measureWays_70 rfl rfl t0 (by decide) (by decide) (by decide) rfl (ly8_2 t0).1 ?_
      refine mr_iload_n (pc' := 74) dX8_measureWays_73 rfl rfl ?_
      obtain ⟨a30, g31, h32⟩ := Option.bind_eq_some_iff.mp h29
      refine mr_iald (pc' := 75) dX8_measureWays_74 rfl (ly8_2 t0).2.1 (ly8_2 t0).2.2 g31 ?_
      refine mr_aload_n (pc' := 76) dX8_measureWays_75 rfl rfl ?_
      refine mr_getR (pc' := 79) (ci := 8) (j := 1) (b := (p0 + 2)) hR dX8_measureWays_76 rfl rfl t0 (by decide) (by decide) (by decide) rfl (ly8_1 t0).1 ?_
      refine mr_iload_n (pc' := 80) dX8_measureWays_79 rfl rfl ?_
      obtain ⟨a33, g34, h35⟩ := Option.bind_eq_some_iff.mp h32
      refine mr_iald (pc' := 81) dX8_measureWays_80 rfl (ly8_1 t0).2.1 (ly8_1 t0).2.2 g34 ?_
      refine mr_aload_n (pc' := 82) dX8_measureWays_81 rfl rfl ?_
      refine mr_getR (pc' := 85) (ci := 8) (j := 3) (b := (p0 + 4)) hR dX8_measureWays_82 rfl rfl t0 (by decide) (by decide) (by decide) rfl (ly8_3 t0).1 ?_
      refine mr_iload_n (pc' := 86) dX8_measureWays_85 rfl rfl ?_
      obtain ⟨a36, g37, h38⟩ := Option.bind_eq_some_iff.mp h35
      refine mr_iald (pc' := 87) dX8_measureWays_86 rfl (ly8_3 t0).2.1 (ly8_3 t0).2.2 g37 ?_
      obtain ⟨q39, g40, h41⟩ := Option.bind_eq_some_iff.mp h38
      refine mr_cv (pc' := 90) (a := p0) (d1 := 1) dX8_measureWays_87 rfl rfl rfl rfl rfl t0 (by decide) rfl (by decide) (ok_X8_shorten hR t0 g40) ?_
      show mr X _ _ 90 _ [] (MM RR q39) _
      refine mr_iinc (pc' := 93) (x' := (p1 + (1 : Int32))) (lv' := [(1, .int (p1 + (1 : Int32))), (0, .ref p0)]) dX8_measureWays_90 rfl (by decide) rfl rfl rfl ?_
      refine mr_goto (t := 38) dX8_measureWays_93 (by decide) ?_
      exact mr_sub [(0, .ref p0), (1, .int (p1 + (1 : Int32)))] ⟨rfl, rfl, trivial⟩ rfl (ih _ _  h41)
def lp_X8_measureWays_118 (p0 : Nat) (p1 : Int32) (p2 : Int32) (K : fS → Option (fS)) : Nat → Int32 → fS → Option (fS)
  | 0, _, _ => none
  | n + 1, p3, S0 =>
    if (S0.1 p0 6) ≤ p3 then (K S0) else
    ((f_X8_hoursBetween p0 p2 p1 S0).bind fun q47 =>
    (f_X8_hoursBetween p0 p1 p3 S0).bind fun q50 =>
    if q47 < (0 : Int32) then (lp_X8_measureWays_118 p0 p1 p2 K n (p3 + (1 : Int32)) S0) else
    (if q50 < (0 : Int32) then (lp_X8_measureWays_118 p0 p1 p2 K n (p3 + (1 : Int32)) S0) else
    ((f_X8_shorten p0 p2 p3 (q47 + q50) S0).bind fun q55 =>
    lp_X8_measureWays_118 p0 p1 p2 K n (p3 + (1 : Int32)) q55)))
set_option maxHeartbeats 4000000 in
set_option maxRecDepth 100000 in
theorem ok_lp_X8_measureWays_118 {X : mm_C} {RR : Nat → Nat → Option Nat} (hR : RRok RR) {p0 : Nat} {p1 : Int32} {p2 : Int32} (t0 : tg p0 = 8) {K : fS → Option (fS)} {r : fS} (hK : ∀ (Sk : fS), K Sk = some r → mr X 2 mY_X8_measureWays 169 [(0, .ref p0), (1, .int p1), (2, .int p2)] [] (MM RR Sk) (none, MM RR r)) : ∀ (n : Nat) (p3 : Int32) (S0 : fS), lp_X8_measureWays_118 p0 p1 p2 K n p3 S0 = some r → mr X 2 mY_X8_measureWays 118 [(0, .ref p0), (1, .int p1), (2, .int p2), (3, .int p3)] [] (MM RR S0) (none, MM RR r) := by
  intro n
  induction n with
  | zero => intro p3 S0 h; exact mm_no h
  | succ n ih =>
    intro p3 S0 h
    unfold lp_X8_measureWays_118 at h
    refine mr_iload_n (pc' := 119) dX8_measureWays_118 rfl rfl ?_
    refine mr_aload_n (pc' := 120) dX8_measureWays_119 rfl rfl ?_
    refine mr_getI (pc' := 123) (ci := 8) (j := 6) dX8_measureWays_120 rfl rfl t0 (by decide) (by decide) rfl ?_
    by_cases c46 : (S0.1 p0 6) ≤ p3
    · rw [if_pos c46] at h
      refine mr_icmp_ge_t (t := 169) dX8_measureWays_123 (by decide) c46 ?_
      exact mr_sub [(0, .ref p0), (1, .int p1), (2, .int p2)] ⟨rfl, rfl, rfl, trivial⟩ rfl (hK _  h)
    · rw [if_neg c46] at h
      refine mr_icmp_ge_f (t := 169) (pc' := 126) dX8_measureWays_123 (by decide) rfl c46 ?_
      refine mr_aload_n (pc' := 127) dX8_measureWays_126 rfl rfl ?_
      refine mr_iload_n (pc' := 128) dX8_measureWays_127 rfl rfl ?_
      refine mr_iload_n (pc' := 129) dX8_measureWays_128 rfl rfl ?_
      obtain ⟨q47, g48, h49⟩ := Option.bind_eq_some_iff.mp h
      refine mr_cv (pc' := 132) (a := p0) (d1 := 0) dX8_measureWays_129 rfl rfl rfl rfl rfl t0 (by decide) rfl (by decide) (ok_X8_hoursBetween hR t0 g48) ?_
      show mr X _ _ 132 _ [.int q47] (MM RR S0) _
      refine mr_istore (pc' := 134) (lv' := [(4, .int q47), (0, .ref p0), (1, .int p1), (2, .int p2), (3, .int p3)]) dX8_measureWays_132 rfl (by decide) rfl ?_
      refine mr_aload_n (pc' := 135) dX8_measureWays_134 rfl rfl ?_
      refine mr_iload_n (pc' := 136) dX8_measureWays_135 rfl rfl ?_
      refine mr_iload_n (pc' := 137) dX8_measureWays_136 rfl rfl ?_
      obtain ⟨q50, g51, h52⟩ := Option.bind_eq_some_iff.mp h49
      refine mr_cv (pc' := 140) (a := p0) (d1 := 0) dX8_measureWays_137 rfl rfl rfl rfl rfl t0 (by decide) rfl (by decide) (ok_X8_hoursBetween hR t0 g51) ?_
      show mr X _ _ 140 _ [.int q50] (MM RR S0) _
      refine mr_istore (pc' := 142) (lv' := [(5, .int q50), (4, .int q47), (0, .ref p0), (1, .int p1), (2, .int p2), (3, .int p3)]) dX8_measureWays_140 rfl (by decide) rfl ?_
      refine mr_iload (pc' := 144) dX8_measureWays_142 rfl rfl ?_
      by_cases c53 : q47 < (0 : Int32)
      · rw [if_pos c53] at h52
        refine mr_if_lt_t (t := 163) dX8_measureWays_144 (by decide) c53 ?_
        refine mr_iinc (pc' := 166) (x' := (p3 + (1 : Int32))) (lv' := [(3, .int (p3 + (1 : Int32))), (5, .int q50), (4, .int q47), (0, .ref p0), (1, .int p1), (2, .int p2)]) dX8_measureWays_163 rfl (by decide) rfl rfl rfl ?_
        refine mr_goto (t := 118) dX8_measureWays_166 (by decide) ?_
        exact mr_sub [(0, .ref p0), (1, .int p1), (2, .int p2), (3, .int (p3 + (1 : Int32)))] ⟨rfl, rfl, rfl, rfl, trivial⟩ rfl (ih _ _  h52)
      · rw [if_neg c53] at h52
        refine mr_if_lt_f (t := 163) (pc' := 147) dX8_measureWays_144 (by decide) rfl c53 ?_
        refine mr_iload (pc' := 149) dX8_measureWays_147 rfl rfl ?_
        by_cases c54 : q50 < (0 : Int32)
        · rw [if_pos c54] at h52
          refine mr_if_lt_t (t := 163) dX8_measureWays_149 (by decide) c54 ?_
          refine mr_iinc (pc' := 166) (x' := (p3 + (1 : Int32))) (lv' := [(3, .int (p3 + (1 : Int32))), (5, .int q50), (4, .int q47), (0, .ref p0), (1, .int p1), (2, .int p2)]) dX8_measureWays_163 rfl (by decide) rfl rfl rfl ?_
          refine mr_goto (t := 118) dX8_measureWays_166 (by decide) ?_
          exact mr_sub [(0, .ref p0), (1, .int p1), (2, .int p2), (3, .int (p3 + (1 : Int32)))] ⟨rfl, rfl, rfl, rfl, trivial⟩ rfl (ih _ _  h52)
        · rw [if_neg c54] at h52
          refine mr_if_lt_f (t := 163) (pc' := 152) dX8_measureWays_149 (by decide) rfl c54 ?_
          refine mr_aload_n (pc' := 153) dX8_measureWays_152 rfl rfl ?_
          refine mr_iload_n (pc' := 154) dX8_measureWays_153 rfl rfl ?_
          refine mr_iload_n (pc' := 155) dX8_measureWays_154 rfl rfl ?_
          refine mr_iload (pc' := 157) dX8_measureWays_155 rfl rfl ?_
          refine mr_iload (pc' := 159) dX8_measureWays_157 rfl rfl ?_
          refine mr_iadd (pc' := 160) dX8_measureWays_159 rfl ?_
          obtain ⟨q55, g56, h57⟩ := Option.bind_eq_some_iff.mp h52
          refine mr_cv (pc' := 163) (a := p0) (d1 := 1) dX8_measureWays_160 rfl rfl rfl rfl rfl t0 (by decide) rfl (by decide) (ok_X8_shorten hR t0 g56) ?_
          show mr X _ _ 163 _ [] (MM RR q55) _
          refine mr_iinc (pc' := 166) (x' := (p3 + (1 : Int32))) (lv' := [(3, .int (p3 + (1 : Int32))), (5, .int q50), (4, .int q47), (0, .ref p0), (1, .int p1), (2, .int p2)]) dX8_measureWays_163 rfl (by decide) rfl rfl rfl ?_
          refine mr_goto (t := 118) dX8_measureWays_166 (by decide) ?_
          exact mr_sub [(0, .ref p0), (1, .int p1), (2, .int p2), (3, .int (p3 + (1 : Int32)))] ⟨rfl, rfl, rfl, rfl, trivial⟩ rfl (ih _ _  h57)
def lp_X8_measureWays_108 (p0 : Nat) (p1 : Int32) (K : fS → Option (fS)) : Nat → Int32 → fS → Option (fS)
  | 0, _, _ => none
  | n + 1, p2, S0 =>
    if (S0.1 p0 6) ≤ p2 then (K S0) else
    (lp_X8_measureWays_118 p0 p1 p2 (fun S58 => lp_X8_measureWays_108 p0 p1 K n (p2 + (1 : Int32)) S58) FU (0 : Int32) S0)
set_option maxHeartbeats 4000000 in
set_option maxRecDepth 100000 in
theorem ok_lp_X8_measureWays_108 {X : mm_C} {RR : Nat → Nat → Option Nat} (hR : RRok RR) {p0 : Nat} {p1 : Int32} (t0 : tg p0 = 8) {K : fS → Option (fS)} {r : fS} (hK : ∀ (Sk : fS), K Sk = some r → mr X 2 mY_X8_measureWays 175 [(0, .ref p0), (1, .int p1)] [] (MM RR Sk) (none, MM RR r)) : ∀ (n : Nat) (p2 : Int32) (S0 : fS), lp_X8_measureWays_108 p0 p1 K n p2 S0 = some r → mr X 2 mY_X8_measureWays 108 [(0, .ref p0), (1, .int p1), (2, .int p2)] [] (MM RR S0) (none, MM RR r) := by
  intro n
  induction n with
  | zero => intro p2 S0 h; exact mm_no h
  | succ n ih =>
    intro p2 S0 h
    unfold lp_X8_measureWays_108 at h
    refine mr_iload_n (pc' := 109) dX8_measureWays_108 rfl rfl ?_
    refine mr_aload_n (pc' := 110) dX8_measureWays_109 rfl rfl ?_
    refine mr_getI (pc' := 113) (ci := 8) (j := 6) dX8_measureWays_110 rfl rfl t0 (by decide) (by decide) rfl ?_
    by_cases c45 : (S0.1 p0 6) ≤ p2
    · rw [if_pos c45] at h
      refine mr_icmp_ge_t (t := 175) dX8_measureWays_113 (by decide) c45 ?_
      exact mr_sub [(0, .ref p0), (1, .int p1)] ⟨rfl, rfl, trivial⟩ rfl (hK _  h)
    · rw [if_neg c45] at h
      refine mr_icmp_ge_f (t := 175) (pc' := 116) dX8_measureWays_113 (by decide) rfl c45 ?_
      refine mr_iconst (pc' := 117) (v := (0 : Int32)) dX8_measureWays_116 rfl (by decide) ?_
      refine mr_istore_n (pc' := 118) (lv' := [(3, .int (0 : Int32)), (0, .ref p0), (1, .int p1), (2, .int p2)]) dX8_measureWays_117 rfl (by decide) rfl ?_
      refine mr_sub [(0, .ref p0), (1, .int p1), (2, .int p2), (3, .int (0 : Int32))] ⟨rfl, rfl, rfl, rfl, trivial⟩ rfl ?_
      refine ok_lp_X8_measureWays_118 hR t0 (fun S58 h59 => ?_) FU _ _  h
      refine mr_iinc (pc' := 172) (x' := (p2 + (1 : Int32))) (lv' := [(2, .int (p2 + (1 : Int32))), (0, .ref p0), (1, .int p1)]) dX8_measureWays_169 rfl (by decide) rfl rfl rfl ?_
      refine mr_goto (t := 108) dX8_measureWays_172 (by decide) ?_
      exact mr_sub [(0, .ref p0), (1, .int p1), (2, .int (p2 + (1 : Int32)))] ⟨rfl, rfl, rfl, trivial⟩ rfl (ih _ _  h59)
def lp_X8_measureWays_98 (p0 : Nat) (K : fS → Option (fS)) : Nat → Int32 → fS → Option (fS)
  | 0, _, _ => none
  | n + 1, p1, S0 =>
    if (S0.1 p0 6) ≤ p1 then (K S0) else
    (lp_X8_measureWays_108 p0 p1 (fun S60 => lp_X8_measureWays_98 p0 K n (p1 + (1 : Int32)) S60) FU (0 : Int32) S0)
set_option maxHeartbeats 4000000 in
set_option maxRecDepth 100000 in
theorem ok_lp_X8_measureWays_98 {X : mm_C} {RR : Nat → Nat → Option Nat} (hR : RRok RR) {p0 : Nat} (t0 : tg p0 = 8) {K : fS → Option (fS)} {r : fS} (hK : ∀ (Sk : fS), K Sk = some r → mr X 2 mY_X8_measureWays 181 [] [] (MM RR Sk) (none, MM RR r)) : ∀ (n : Nat) (p1 : Int32) (S0 : fS), lp_X8_measureWays_98 p0 K n p1 S0 = some r → mr X 2 mY_X8_measureWays 98 [(0, .ref p0), (1, .int p1)] [] (MM RR S0) (none, MM RR r) := by
  intro n
  induction n with
  | zero => intro p1 S0 h; exact mm_no h
  | succ n ih =>
    intro p1 S0 h
    unfold lp_X8_measureWays_98 at h
    refine mr_iload_n (pc' := 99) dX8_measureWays_98 rfl rfl ?_
    refine mr_aload_n (pc' := 100) dX8_measureWays_99 rfl rfl ?_
    refine mr_getI (pc' := 103) (ci := 8) (j := 6) dX8_measureWays_100 rfl rfl t0 (by decide) (by decide) rfl ?_
    by_cases c44 : (S0.1 p0 6) ≤ p1
    · rw [if_pos c44] at h
      refine mr_icmp_ge_t (t := 181) dX8_measureWays_103 (by decide) c44 ?_
      exact mr_sub [] trivial rfl (hK _  h)
    · rw [if_neg c44] at h
      refine mr_icmp_ge_f (t := 181) (pc' := 106) dX8_measureWays_103 (by decide) rfl c44 ?_
      refine mr_iconst (pc' := 107) (v := (0 : Int32)) dX8_measureWays_106 rfl (by decide) ?_
      refine mr_istore_n (pc' := 108) (lv' := [(2, .int (0 : Int32)), (0, .ref p0), (1, .int p1)]) dX8_measureWays_107 rfl (by decide) rfl ?_
      refine mr_sub [(0, .ref p0), (1, .int p1), (2, .int (0 : Int32))] ⟨rfl, rfl, rfl, trivial⟩ rfl ?_
      refine ok_lp_X8_measureWays_108 hR t0 (fun S60 h61 => ?_) FU _ _  h
      refine mr_iinc (pc' := 178) (x' := (p1 + (1 : Int32))) (lv' := [(1, .int (p1 + (1 : Int32))), (0, .ref p0)]) dX8_measureWays_175 rfl (by decide) rfl rfl rfl ?_
      refine mr_goto (t := 98) dX8_measureWays_178 (by decide) ?_
      exact mr_sub [(0, .ref p0), (1, .int (p1 + (1 : Int32)))] ⟨rfl, rfl, trivial⟩ rfl (ih _ _  h61)
def f_X8_measureWays (v0 : Nat) (S : fS) : Option (fS) :=
  lp_X8_measureWays_2 v0 (fun S15 => lp_X8_measureWays_38 v0 (fun S42 => lp_X8_measureWays_98 v0 (fun S62 => some S62) FU (0 : Int32) S42) FU (0 : Int32) S15) FU (0 : Int32) S
set_option maxHeartbeats 4000000 in
set_option maxRecDepth 100000 in
theorem ok_X8_measureWays {X : mm_C} {RR : Nat → Nat → Option Nat} (hR : RRok RR) {v0 : Nat} (t0 : tg v0 = 8) {S : fS} {r : fS} (h : f_X8_measureWays v0 S = some r) : mr X 2 mY_X8_measureWays 0 (lv_args 0 [.ref v0]) [] (MM RR S) (none, MM RR r) := by
  unfold f_X8_measureWays at h
  show mr X _ _ 0 [(0, .ref v0)] [] (MM RR S) _
  refine mr_iconst (pc' := 1) (v := (0 : Int32)) dX8_measureWays_0 rfl (by decide) ?_
  refine mr_istore_n (pc' := 2) (lv' := [(1, .int (0 : Int32)), (0, .ref v0)]) dX8_measureWays_1 rfl (by decide) rfl ?_
  refine mr_sub [(0, .ref v0), (1, .int (0 : Int32))] ⟨rfl, rfl, trivial⟩ rfl ?_
  refine ok_lp_X8_measureWays_2 hR t0 (fun S15 h16 => ?_) FU _ _  h
  refine mr_iconst (pc' := 37) (v := (0 : Int32)) dX8_measureWays_36 rfl (by decide) ?_
  refine mr_istore_n (pc' := 38) (lv' := [(1, .int (0 : Int32)), (0, .ref v0)]) dX8_measureWays_37 rfl (by decide) rfl ?_
  refine mr_sub [(0, .ref v0), (1, .int (0 : Int32))] ⟨rfl, rfl, trivial⟩ rfl ?_
  refine ok_lp_X8_measureWays_38 hR t0 (fun S42 h43 => ?_) FU _ _  h16
  refine mr_iconst (pc' := 97) (v := (0 : Int32)) dX8_measureWays_96 rfl (by decide) ?_
  refine mr_istore_n (pc' := 98) (lv' := [(1, .int (0 : Int32)), (0, .ref v0)]) dX8_measureWays_97 rfl (by decide) rfl ?_
  refine mr_sub [(0, .ref v0), (1, .int (0 : Int32))] ⟨rfl, rfl, trivial⟩ rfl ?_
  refine ok_lp_X8_measureWays_98 hR t0 (fun S62 h63 => ?_) FU _ _  h43
  obtain rfl := Option.some.inj h63
  exact mr_return dX8_measureWays_181 rfl
def f_X7_takeSign (v1 : Int32) (S : fS) : Option (Int32 × fS) :=
  (f_X7_skipBlanks  S).bind fun q1 =>
  (f_X7_byteAt (q1.1 1 2) q1).bind fun q4 =>
  if q4 = v1 then ((some (pI q1 1 3 (q1.1 1 2))).bind fun S8 =>
  (some (pI S8 1 2 ((S8.1 1 2) + (1 : Int32)))).bind fun S11 =>
  some ((1 : Int32), S11)) else
  (some ((0 : Int32), q1))
set_option maxHeartbeats 4000000 in
set_option maxRecDepth 100000 in
theorem ok_X7_takeSign {X : mm_C} {RR : Nat → Nat → Option Nat} (hR : RRok RR) {v1 : Int32}  {S : fS} {r : Int32 × fS} (h : f_X7_takeSign v1 S = some r) : mr X 1 mY_X7_takeSign 0 (lv_args 0 [.ref 1, .int v1]) [] (MM RR S) (some (.int r.1), MM RR r.2) := by
  unfold f_X7_takeSign at h
  show mr X _ _ 0 [(0, .ref 1), (1, .int v1)] [] (MM RR S) _
  refine mr_aload_n (pc' := 1) dX7_takeSign_0 rfl rfl ?_
  obtain ⟨q1, g2, h3⟩ := Option.bind_eq_some_iff.mp h
  refine mr_cv (pc' := 4) (a := 1) (d1 := 0) dX7_takeSign_1 rfl rfl rfl rfl rfl rfl (by decide) rfl (by decide) (ok_X7_skipBlanks hR  g2) ?_
  show mr X _ _ 4 _ [] (MM RR q1) _
  refine mr_aload_n (pc' := 5) dX7_takeSign_4 rfl rfl ?_
  refine mr_aload_n (pc' := 6) dX7_takeSign_5 rfl rfl ?_
  refine mr_getI (pc' := 9) (ci := 7) (j := 2) dX7_takeSign_6 rfl rfl rfl (by decide) (by decide) rfl ?_
  obtain ⟨q4, g5, h6⟩ := Option.bind_eq_some_iff.mp h3
  refine mr_cv (pc' := 12) (a := 1) (d1 := 0) dX7_takeSign_9 rfl rfl rfl rfl rfl rfl (by decide) rfl (by decide) (ok_X7_byteAt hR  g5) ?_
  show mr X _ _ 12 _ [.int q4] (MM RR q1) _
  refine mr_iload_n (pc' := 13) dX7_takeSign_12 rfl rfl ?_
  by_cases c7 : q4 = v1
  · rw [if_pos c7] at h6
    refine mr_icmp_eq_t (t := 18) dX7_takeSign_13 (by decide) c7 ?_
    refine mr_aload_n (pc' := 19) dX7_takeSign_18 rfl rfl ?_
    refine mr_aload_n (pc' := 20) dX7_takeSign_19 rfl rfl ?_
    refine mr_getI (pc' := 23) (ci := 7) (j := 2) dX7_takeSign_20 rfl rfl rfl (by decide) (by decide) rfl ?_
    obtain ⟨S8, g9, h10⟩ := Option.bind_eq_some_iff.mp h6
    refine mr_putI (pc' := 26) (ci := 7) (j := 3) dX7_takeSign_23 rfl rfl rfl (by decide) (by decide) rfl rfl ?_
    rw [Option.some.inj g9]
    refine mr_aload_n (pc' := 27) dX7_takeSign_26 rfl rfl ?_
    refine mr_dup_ref (pc' := 28) dX7_takeSign_27 rfl ?_
    refine mr_getI (pc' := 31) (ci := 7) (j := 2) dX7_takeSign_28 rfl rfl rfl (by decide) (by decide) rfl ?_
    refine mr_iconst (pc' := 32) (v := (1 : Int32)) dX7_takeSign_31 rfl (by decide) ?_
    refine mr_iadd (pc' := 33) dX7_takeSign_32 rfl ?_
    obtain ⟨S11, g12, h13⟩ := Option.bind_eq_some_iff.mp h10
    refine mr_putI (pc' := 36) (ci := 7) (j := 2) dX7_takeSign_33 rfl rfl rfl (by decide) (by decide) rfl rfl ?_
    rw [Option.some.inj g12]
    refine mr_iconst (pc' := 37) (v := (1 : Int32)) dX7_takeSign_36 rfl (by decide) ?_
    obtain rfl := Option.some.inj h13
    exact mr_zreturn dX7_takeSign_37 rfl (by decide)
  · rw [if_neg c7] at h6
    refine mr_icmp_eq_f (t := 18) (pc' := 16) dX7_takeSign_13 (by decide) rfl c7 ?_
    refine mr_iconst (pc' := 17) (v := (0 : Int32)) dX7_takeSign_16 rfl (by decide) ?_
    obtain rfl := Option.some.inj h6
    exact mr_zreturn dX7_takeSign_17 rfl (by decide)
def lp_X9_read_41  (K : fS → Option (Int32 × fS)) : Nat → Int32 → fS → Option (Int32 × fS)
  | 0, _, _ => none
  | n + 1, p1, S0 =>
    if (24 : Int32) < p1 then (K S0) else
    ((f_X9_readClause p1 S0).bind fun q17 =>
    if q17.1 = (0 : Int32) then (some ((0 : Int32), q17.2)) else
    ((f_X7_isAtEnd  q17.2).bind fun q21 =>
    if q21.1 = (0 : Int32) then ((f_X7_takeSign (59 : Int32) q21.2).bind fun q25 =>
    if q25.1 = (0 : Int32) then ((f_X7_fail (q25.2.1 1 2) (0 : Int32) q25.2).bind fun q29 =>
    (bZ q29.1).bind fun z32 => some (z32, q29.2)) else
    (lp_X9_read_41  K n (p1 + (1 : Int32)) q25.2)) else
    ((f_X8_measureWays 24 q21.2).bind fun q37 =>
    some ((1 : Int32), q37))))
set_option maxHeartbeats 4000000 in
set_option maxRecDepth 100000 in
theorem ok_lp_X9_read_41 {X : mm_C} {RR : Nat → Nat → Option Nat} (hR : RRok RR)   {K : fS → Option (Int32 × fS)} {r : Int32 × fS} (hK : ∀ (Sk : fS), K Sk = some r → mr X 6 mY_X9_read 110 [] [] (MM RR Sk) (some (.int r.1), MM RR r.2)) : ∀ (n : Nat) (p1 : Int32) (S0 : fS), lp_X9_read_41  K n p1 S0 = some r → mr X 6 mY_X9_read 41 [(0, .ref 37), (1, .int p1)] [] (MM RR S0) (some (.int r.1), MM RR r.2) := by
  intro n
  induction n with
  | zero => intro p1 S0 h; exact mm_no h
  | succ n ih =>
    intro p1 S0 h
    unfold lp_X9_read_41 at h
    refine mr_iload_n (pc' := 42) dX9_read_41 rfl rfl ?_
    refine mr_bipush (pc' := 44) (v := (24 : Int32)) dX9_read_42 rfl (by decide) ?_
    by_cases c16 : (24 : Int32) < p1
    · rw [if_pos c16] at h
      refine mr_icmp_gt_t (t := 110) dX9_read_44 (by decide) c16 ?_
      exact mr_sub [] trivial rfl (hK _  h)
    · rw [if_neg c16] at h
      refine mr_icmp_gt_f (t := 110) (pc' := 47) dX9_read_44 (by decide) rfl c16 ?_
      refine mr_aload_n (pc' := 48) dX9_read_47 rfl rfl ?_
      refine mr_iload_n (pc' := 49) dX9_read_48 rfl rfl ?_
      obtain ⟨q17, g18, h19⟩ := Option.bind_eq_some_iff.mp h
      refine mr_cv (pc' := 52) (a := 37) (d1 := 5) dX9_read_49 rfl rfl rfl rfl rfl rfl (by decide) rfl (by decide) (ok_X9_readClause hR  g18) ?_
      show mr X _ _ 52 _ [.int q17.1] (MM RR q17.2) _
      by_cases c20 : q17.1 = (0 : Int32)
      · rw [if_pos c20] at h19
        refine mr_if_ne_f (t := 57) (pc' := 55) dX9_read_52 (by decide) rfl (not_not_intro c20) ?_
        refine mr_iconst (pc' := 56) (v := (0 : Int32)) dX9_read_55 rfl (by decide) ?_
        obtain rfl := Option.some.inj h19
        exact mr_zreturn dX9_read_56 rfl (by decide)
      · rw [if_neg c20] at h19
        refine mr_if_ne_t (t := 57) dX9_read_52 (by decide) c20 ?_
        refine mr_aload_n (pc' := 58) dX9_read_57 rfl rfl ?_
        refine mr_getR (pc' := 61) (ci := 9) (j := 0) (b := 1) hR dX9_read_58 rfl rfl rfl (by decide) (by decide) (by decide) rfl rfl ?_
        obtain ⟨q21, g22, h23⟩ := Option.bind_eq_some_iff.mp h19
        refine mr_cv (pc' := 64) (a := 1) (d1 := 1) dX9_read_61 rfl rfl rfl rfl rfl rfl (by decide) rfl (by decide) (ok_X7_isAtEnd hR  g22) ?_
        show mr X _ _ 64 _ [.int q21.1] (MM RR q21.2) _
        by_cases c24 : q21.1 = (0 : Int32)
        · rw [if_pos c24] at h23
          refine mr_if_eq_t (t := 76) dX9_read_64 (by decide) c24 ?_
          refine mr_aload_n (pc' := 77) dX9_read_76 rfl rfl ?_
          refine mr_getR (pc' := 80) (ci := 9) (j := 0) (b := 1) hR dX9_read_77 rfl rfl rfl (by decide) (by decide) (by decide) rfl rfl ?_
          refine mr_bipush (pc' := 82) (v := (59 : Int32)) dX9_read_80 rfl (by decide) ?_
          obtain ⟨q25, g26, h27⟩ := Option.bind_eq_some_iff.mp h23
          refine mr_cv (pc' := 85) (a := 1) (d1 := 1) dX9_read_82 rfl rfl rfl rfl rfl rfl (by decide) rfl (by decide) (ok_X7_takeSign hR  g26) ?_
          show mr X _ _ 85 _ [.int q25.1] (MM RR q25.2) _
          by_cases c28 : q25.1 = (0 : Int32)
          · rw [if_pos c28] at h27
            refine mr_if_ne_f (t := 104) (pc' := 88) dX9_read_85 (by decide) rfl (not_not_intro c28) ?_
            refine mr_aload_n (pc' := 89) dX9_read_88 rfl rfl ?_
            refine mr_getR (pc' := 92) (ci := 9) (j := 0) (b := 1) hR dX9_read_89 rfl rfl rfl (by decide) (by decide) (by decide) rfl rfl ?_
            refine mr_aload_n (pc' := 93) dX9_read_92 rfl rfl ?_
            refine mr_getR (pc' := 96) (ci := 9) (j := 0) (b := 1) hR dX9_read_93 rfl rfl rfl (by decide) (by decide) (by decide) rfl rfl ?_
            refine mr_getI (pc' := 99) (ci := 7) (j := 2) dX9_read_96 rfl rfl rfl (by decide) (by decide) rfl ?_
            refine mr_iconst (pc' := 100) (v := (0 : Int32)) dX9_read_99 rfl (by decide) ?_
            obtain ⟨q29, g30, h31⟩ := Option.bind_eq_some_iff.mp h27
            refine mr_cv (pc' := 103) (a := 1) (d1 := 0) dX9_read_100 rfl rfl rfl rfl rfl rfl (by decide) rfl (by decide) (ok_X7_fail hR  g30) ?_
            show mr X _ _ 103 _ [.int q29.1] (MM RR q29.2) _
            obtain ⟨z32, g33, h34⟩ := Option.bind_eq_some_iff.mp h31
            obtain ⟨g35, e36⟩ := mm_ifs g33
            cases e36
            cases h34
            exact mr_zreturn dX9_read_103 rfl g35
          · rw [if_neg c28] at h27
            refine mr_if_ne_t (t := 104) dX9_read_85 (by decide) c28 ?_
            refine mr_iinc (pc' := 107) (x' := (p1 + (1 : Int32))) (lv' := [(1, .int (p1 + (1 : Int32))), (0, .ref 37)]) dX9_read_104 rfl (by decide) rfl rfl rfl ?_
            refine mr_goto (t := 41) dX9_read_107 (by decide) ?_
            exact mr_sub [(0, .ref 37), (1, .int (p1 + (1 : Int32)))] ⟨rfl, rfl, trivial⟩ rfl (ih _ _  h27)
        · rw [if_neg c24] at h23
          refine mr_if_eq_f (t := 76) (pc' := 67) dX9_read_64 (by decide) rfl c24 ?_
          refine mr_aload_n (pc' := 68) dX9_read_67 rfl rfl ?_
          refine mr_getR (pc' := 71) (ci := 9) (j := 1) (b := 24) hR dX9_read_68 rfl rfl rfl (by decide) (by decide) (by decide) rfl rfl ?_
          obtain ⟨q37, g38, h39⟩ := Option.bind_eq_some_iff.mp h23
          refine mr_cv (pc' := 74) (a := 24) (d1 := 2) dX9_read_71 rfl rfl rfl rfl rfl rfl (by decide) rfl (by decide) (ok_X8_measureWays hR rfl g38) ?_
          show mr X _ _ 74 _ [] (MM RR q37) _
          refine mr_iconst (pc' := 75) (v := (1 : Int32)) dX9_read_74 rfl (by decide) ?_
          obtain rfl := Option.some.inj h39
          exact mr_zreturn dX9_read_75 rfl (by decide)
def f_X9_read  (S : fS) : Option (Int32 × fS) :=
  (some (pI S 24 6 (0 : Int32))).bind fun S1 =>
  (some (pI S1 24 7 (0 : Int32))).bind fun S4 =>
  (some (pI S4 31 5 (0 : Int32))).bind fun S7 =>
  (some (pI S7 31 6 (0 : Int32))).bind fun S10 =>
  (f_X7_rewind  S10).bind fun q13 =>
  lp_X9_read_41  (fun S40 => some ((0 : Int32), S40)) FU (0 : Int32) q13
set_option maxHeartbeats 4000000 in
set_option maxRecDepth 100000 in
theorem ok_X9_read {X : mm_C} {RR : Nat → Nat → Option Nat} (hR : RRok RR)   {S : fS} {r : Int32 × fS} (h : f_X9_read  S = some r) : mr X 6 mY_X9_read 0 (lv_args 0 [.ref 37]) [] (MM RR S) (some (.int r.1), MM RR r.2) := by
  unfold f_X9_read at h
  show mr X _ _ 0 [(0, .ref 37)] [] (MM RR S) _
  refine mr_aload_n (pc' := 1) dX9_read_0 rfl rfl ?_
  refine mr_getR (pc' := 4) (ci := 9) (j := 1) (b := 24) hR dX9_read_1 rfl rfl rfl (by decide) (by decide) (by decide) rfl rfl ?_
  refine mr_iconst (pc' := 5) (v := (0 : Int32)) dX9_read_4 rfl (by decide) ?_
  obtain ⟨S1, g2, h3⟩ := Option.bind_eq_some_iff.mp h
  refine mr_putI (pc' := 8) (ci := 8) (j := 6) dX9_read_5 rfl rfl rfl (by decide) (by decide) rfl rfl ?_
  rw [Option.some.inj g2]
  refine mr_aload_n (pc' := 9) dX9_read_8 rfl rfl ?_
  refine mr_getR (pc' := 12) (ci := 9) (j := 1) (b := 24) hR dX9_read_9 rfl rfl rfl (by decide) (by decide) (by decide) rfl rfl ?_
  refine mr_iconst (pc' := 13) (v := (0 : Int32)) dX9_read_12 rfl (by decide) ?_
  obtain ⟨S4, g5, h6⟩ := Option.bind_eq_some_iff.mp h3
  refine mr_putI (pc' := 16) (ci := 8) (j := 7) dX9_read_13 rfl rfl rfl (by decide) (by decide) rfl rfl ?_
  rw [Option.some.inj g5]
  refine mr_aload_n (pc' := 17) dX9_read_16 rfl rfl ?_
  refine mr_getR (pc' := 20) (ci := 9) (j := 2) (b := 31) hR dX9_read_17 rfl rfl rfl (by decide) (by decide) (by decide) rfl rfl ?_
  refine mr_iconst (pc' := 21) (v := (0 : Int32)) dX9_read_20 rfl (by decide) ?_
  obtain ⟨S7, g8, h9⟩ := Option.bind_eq_some_iff.mp h6
  refine mr_putI (pc' := 24) (ci := 0) (j := 5) dX9_read_21 rfl rfl rfl (by decide) (by decide) rfl rfl ?_
  rw [Option.some.inj g8]
  refine mr_aload_n (pc' := 25) dX9_read_24 rfl rfl ?_
  refine mr_getR (pc' := 28) (ci := 9) (j := 2) (b := 31) hR dX9_read_25 rfl rfl rfl (by decide) (by decide) (by decide) rfl rfl ?_
  refine mr_iconst (pc' := 29) (v := (0 : Int32)) dX9_read_28 rfl (by decide) ?_
  obtain ⟨S10, g11, h12⟩ := Option.bind_eq_some_iff.mp h9
  refine mr_putI (pc' := 32) (ci := 0) (j := 6) dX9_read_29 rfl rfl rfl (by decide) (by decide) rfl rfl ?_
  rw [Option.some.inj g11]
  refine mr_aload_n (pc' := 33) dX9_read_32 rfl rfl ?_
  refine mr_getR (pc' := 36) (ci := 9) (j := 0) (b := 1) hR dX9_read_33 rfl rfl rfl (by decide) (by decide) (by decide) rfl rfl ?_
  obtain ⟨q13, g14, h15⟩ := Option.bind_eq_some_iff.mp h12
  refine mr_cv (pc' := 39) (a := 1) (d1 := 0) dX9_read_36 rfl rfl rfl rfl rfl rfl (by decide) rfl (by decide) (ok_X7_rewind hR  g14) ?_
  show mr X _ _ 39 _ [] (MM RR q13) _
  refine mr_iconst (pc' := 40) (v := (0 : Int32)) dX9_read_39 rfl (by decide) ?_
  refine mr_istore_n (pc' := 41) (lv' := [(1, .int (0 : Int32)), (0, .ref 37)]) dX9_read_40 rfl (by decide) rfl ?_
  refine mr_sub [(0, .ref 37), (1, .int (0 : Int32))] ⟨rfl, rfl, trivial⟩ rfl ?_
  refine ok_lp_X9_read_41 hR  (fun S40 h41 => ?_) FU _ _  h15
  refine mr_iconst (pc' := 111) (v := (0 : Int32)) dX9_read_110 rfl (by decide) ?_
  obtain rfl := Option.some.inj h41
  exact mr_zreturn dX9_read_111 rfl (by decide)
def f_X8_copyFrom (v0 : Nat) (v1 : Nat) (S : fS) : Option (fS) :=
  (some (cL S (v1 + 1) (v0 + 1) 10)).bind fun S1 =>
  (some (cI S1 (v1 + 2) (v0 + 2) 12)).bind fun S4 =>
  (some (cI S4 (v1 + 3) (v0 + 3) 12)).bind fun S7 =>
  (some (cI S7 (v1 + 4) (v0 + 4) 12)).bind fun S10 =>
  (some (cL S10 (v1 + 5) (v0 + 5) 12)).bind fun S13 =>
  (some (cI S13 (v1 + 6) (v0 + 6) 100)).bind fun S16 =>
  (some (pI S16 v0 6 (S16.1 v1 6))).bind fun S19 =>
  (some (pI S19 v0 7 (S19.1 v1 7))).bind fun S22 =>
  some S22
set_option maxHeartbeats 4000000 in
set_option maxRecDepth 100000 in
theorem ok_X8_copyFrom {X : mm_C} {RR : Nat → Nat → Option Nat} (hR : RRok RR) {v0 : Nat} {v1 : Nat} (t0 : tg v0 = 8) (t1 : tg v1 = 8) {S : fS} {r : fS} (h : f_X8_copyFrom v0 v1 S = some r) : mr X 0 mY_X8_copyFrom 0 (lv_args 0 [.ref v0, .ref v1]) [] (MM RR S) (none, MM RR r) := by
  unfold f_X8_copyFrom at h
  show mr X _ _ 0 [(0, .ref v0), (1, .ref v1)] [] (MM RR S) _
  refine mr_aload_n (pc' := 1) dX8_copyFrom_0 rfl rfl ?_
  refine mr_getR (pc' := 4) (ci := 8) (j := 0) (b := (v1 + 1)) hR dX8_copyFrom_1 rfl rfl t1 (by decide) (by decide) (by decide) rfl (ly8_0 t1).1 ?_
  refine mr_iconst (pc' := 5) (v := (0 : Int32)) dX8_copyFrom_4 rfl (by decide) ?_
  refine mr_aload_n (pc' := 6) dX8_copyFrom_5 rfl rfl ?_
  refine mr_getR (pc' := 9) (ci := 8) (j := 0) (b := (v0 + 1)) hR dX8_copyFrom_6 rfl rfl t0 (by decide) (by decide) (by decide) rfl (ly8_0 t0).1 ?_
  refine mr_iconst (pc' := 10) (v := (0 : Int32)) dX8_copyFrom_9 rfl (by decide) ?_
  refine mr_bipush (pc' := 12) (v := (10 : Int32)) dX8_copyFrom_10 rfl (by decide) ?_
  obtain ⟨S1, g2, h3⟩ := Option.bind_eq_some_iff.mp h
  refine mr_cpyL (pc' := 15) (n := 10) dX8_copyFrom_12 rfl rfl (by decide) ⟨(ly8_0 t1).2.1, Nat.le_of_eq (ly8_0 t1).2.2.symm⟩ ⟨(ly8_0 t0).2.1, Nat.le_of_eq (ly8_0 t0).2.2.symm⟩ (by decide) (by decide) ?_
  rw [Option.some.inj g2]
  refine mr_aload_n (pc' := 16) dX8_copyFrom_15 rfl rfl ?_
  refine mr_getR (pc' := 19) (ci := 8) (j := 1) (b := (v1 + 2)) hR dX8_copyFrom_16 rfl rfl t1 (by decide) (by decide) (by decide) rfl (ly8_1 t1).1 ?_
  refine mr_iconst (pc' := 20) (v := (0 : Int32)) dX8_copyFrom_19 rfl (by decide) ?_
  refine mr_aload_n (pc' := 21) dX8_copyFrom_20 rfl rfl ?_
  refine mr_getR (pc' := 24) (ci := 8) (j := 1) (b := (v0 + 2)) hR dX8_copyFrom_21 rfl rfl t0 (by decide) (by decide) (by decide) rfl (ly8_1 t0).1 ?_
  refine mr_iconst (pc' := 25) (v := (0 : Int32)) dX8_copyFrom_24 rfl (by decide) ?_
  refine mr_bipush (pc' := 27) (v := (12 : Int32)) dX8_copyFrom_25 rfl (by decide) ?_
  obtain ⟨S4, g5, h6⟩ := Option.bind_eq_some_iff.mp h3
  refine mr_cpyI (pc' := 30) (n := 12) dX8_copyFrom_27 rfl rfl (by decide) ⟨(ly8_1 t1).2.1, Nat.le_of_eq (ly8_1 t1).2.2.symm⟩ ⟨(ly8_1 t0).2.1, Nat.le_of_eq (ly8_1 t0).2.2.symm⟩ (by decide) (by decide) ?_
  rw [Option.some.inj g5]
  refine mr_aload_n (pc' := 31) dX8_copyFrom_30 rfl rfl ?_
  refine mr_getR (pc' := 34) (ci := 8) (j := 2) (b := (v1 + 3)) hR dX8_copyFrom_31 rfl rfl t1 (by decide) (by decide) (by decide) rfl (ly8_2 t1).1 ?_
  refine mr_iconst (pc' := 35) (v := (0 : Int32)) dX8_copyFrom_34 rfl (by decide) ?_
  refine mr_aload_n (pc' := 36) dX8_copyFrom_35 rfl rfl ?_
  refine mr_getR (pc' := 39) (ci := 8) (j := 2) (b := (v0 + 3)) hR dX8_copyFrom_36 rfl rfl t0 (by decide) (by decide) (by decide) rfl (ly8_2 t0).1 ?_
  refine mr_iconst (pc' := 40) (v := (0 : Int32)) dX8_copyFrom_39 rfl (by decide) ?_
  refine mr_bipush (pc' := 42) (v := (12 : Int32)) dX8_copyFrom_40 rfl (by decide) ?_
  obtain ⟨S7, g8, h9⟩ := Option.bind_eq_some_iff.mp h6
  refine mr_cpyI (pc' := 45) (n := 12) dX8_copyFrom_42 rfl rfl (by decide) ⟨(ly8_2 t1).2.1, Nat.le_of_eq (ly8_2 t1).2.2.symm⟩ ⟨(ly8_2 t0).2.1, Nat.le_of_eq (ly8_2 t0).2.2.symm⟩ (by decide) (by decide) ?_
  rw [Option.some.inj g8]
  refine mr_aload_n (pc' := 46) dX8_copyFrom_45 rfl rfl ?_
  refine mr_getR (pc' := 49) (ci := 8) (j := 3) (b := (v1 + 4)) hR dX8_copyFrom_46 rfl rfl t1 (by decide) (by decide) (by decide) rfl (ly8_3 t1).1 ?_
  refine mr_iconst (pc' := 50) (v := (0 : Int32)) dX8_copyFrom_49 rfl (by decide) ?_
  refine mr_aload_n (pc' := 51) dX8_copyFrom_50 rfl rfl ?_
  refine mr_getR (pc' := 54) (ci := 8) (j := 3) (b := (v0 + 4)) hR dX8_copyFrom_51 rfl rfl t0 (by decide) (by decide) (by decide) rfl (ly8_3 t0).1 ?_
  refine mr_iconst (pc' := 55) (v := (0 : Int32)) dX8_copyFrom_54 rfl (by decide) ?_
  refine mr_bipush (pc' := 57) (v := (12 : Int32)) dX8_copyFrom_55 rfl (by decide) ?_
  obtain ⟨S10, g11, h12⟩ := Option.bind_eq_some_iff.mp h9
  refine mr_cpyI (pc' := 60) (n := 12) dX8_copyFrom_57 rfl rfl (by decide) ⟨(ly8_3 t1).2.1, Nat.le_of_eq (ly8_3 t1).2.2.symm⟩ ⟨(ly8_3 t0).2.1, Nat.le_of_eq (ly8_3 t0).2.2.symm⟩ (by decide) (by decide) ?_
  rw [Option.some.inj g11]
  refine mr_aload_n (pc' := 61) dX8_copyFrom_60 rfl rfl ?_
  refine mr_getR (pc' := 64) (ci := 8) (j := 4) (b := (v1 + 5)) hR dX8_copyFrom_61 rfl rfl t1 (by decide) (by decide) (by decide) rfl (ly8_4 t1).1 ?_
  refine mr_iconst (pc' := 65) (v := (0 : Int32)) dX8_copyFrom_64 rfl (by decide) ?_
  refine mr_aload_n (pc' := 66) dX8_copyFrom_65 rfl rfl ?_
  refine mr_getR (pc' := 69) (ci := 8) (j := 4) (b := (v0 + 5)) hR dX8_copyFrom_66 rfl rfl t0 (by decide) (by decide) (by decide) rfl (ly8_4 t0).1 ?_
  refine mr_iconst (pc' := 70) (v := (0 : Int32)) dX8_copyFrom_69 rfl (by decide) ?_
  refine mr_bipush (pc' := 72) (v := (12 : Int32)) dX8_copyFrom_70 rfl (by decide) ?_
  obtain ⟨S13, g14, h15⟩ := Option.bind_eq_some_iff.mp h12
  refine mr_cpyL (pc' := 75) (n := 12) dX8_copyFrom_72 rfl rfl (by decide) ⟨(ly8_4 t1).2.1, Nat.le_of_eq (ly8_4 t1).2.2.symm⟩ ⟨(ly8_4 t0).2.1, Nat.le_of_eq (ly8_4 t0).2.2.symm⟩ (by decide) (by decide) ?_
  rw [Option.some.inj g14]
  refine mr_aload_n (pc' := 76) dX8_copyFrom_75 rfl rfl ?_
  refine mr_getR (pc' := 79) (ci := 8) (j := 5) (b := (v1 + 6)) hR dX8_copyFrom_76 rfl rfl t1 (by decide) (by decide) (by decide) rfl (ly8_5 t1).1 ?_
  refine mr_iconst (pc' := 80) (v := (0 : Int32)) dX8_copyFrom_79 rfl (by decide) ?_
  refine mr_aload_n (pc' := 81) dX8_copyFrom_80 rfl rfl ?_
  refine mr_getR (pc' := 84) (ci := 8) (j := 5) (b := (v0 + 6)) hR dX8_copyFrom_81 rfl rfl t0 (by decide) (by decide) (by decide) rfl (ly8_5 t0).1 ?_
  refine mr_iconst (pc' := 85) (v := (0 : Int32)) dX8_copyFrom_84 rfl (by decide) ?_
  refine mr_bipush (pc' := 87) (v := (100 : Int32)) dX8_copyFrom_85 rfl (by decide) ?_
  obtain ⟨S16, g17, h18⟩ := Option.bind_eq_some_iff.mp h15
  refine mr_cpyI (pc' := 90) (n := 100) dX8_copyFrom_87 rfl rfl (by decide) ⟨(ly8_5 t1).2.1, Nat.le_of_eq (ly8_5 t1).2.2.symm⟩ ⟨(ly8_5 t0).2.1, Nat.le_of_eq (ly8_5 t0).2.2.symm⟩ (by decide) (by decide) ?_
  rw [Option.some.inj g17]
  refine mr_aload_n (pc' := 91) dX8_copyFrom_90 rfl rfl ?_
  refine mr_aload_n (pc' := 92) dX8_copyFrom_91 rfl rfl ?_
  refine mr_getI (pc' := 95) (ci := 8) (j := 6) dX8_copyFrom_92 rfl rfl t1 (by decide) (by decide) rfl ?_
  obtain ⟨S19, g20, h21⟩ := Option.bind_eq_some_iff.mp h18
  refine mr_putI (pc' := 98) (ci := 8) (j := 6) dX8_copyFrom_95 rfl rfl t0 (by decide) (by decide) rfl rfl ?_
  rw [Option.some.inj g20]
  refine mr_aload_n (pc' := 99) dX8_copyFrom_98 rfl rfl ?_
  refine mr_aload_n (pc' := 100) dX8_copyFrom_99 rfl rfl ?_
  refine mr_getI (pc' := 103) (ci := 8) (j := 7) dX8_copyFrom_100 rfl rfl t1 (by decide) (by decide) rfl ?_
  obtain ⟨S22, g23, h24⟩ := Option.bind_eq_some_iff.mp h21
  refine mr_putI (pc' := 106) (ci := 8) (j := 7) dX8_copyFrom_103 rfl rfl t0 (by decide) (by decide) rfl rfl ?_
  rw [Option.some.inj g23]
  obtain rfl := Option.some.inj h24
  exact mr_return dX8_copyFrom_106 rfl
def f_X0_copyFrom (v0 : Nat) (v1 : Nat) (S : fS) : Option (fS) :=
  (some (cI S (v1 + 1) (v0 + 1) 8)).bind fun S1 =>
  (some (cI S1 (v1 + 2) (v0 + 2) 8)).bind fun S4 =>
  (some (cI S4 (v1 + 3) (v0 + 3) 8)).bind fun S7 =>
  (some (cI S7 (v1 + 4) (v0 + 4) 8)).bind fun S10 =>
  (some (cL S10 (v1 + 5) (v0 + 5) 8)).bind fun S13 =>
  (some (pI S13 v0 5 (S13.1 v1 5))).bind fun S16 =>
  (some (pI S16 v0 6 (S16.1 v1 6))).bind fun S19 =>
  some S19
set_option maxHeartbeats 4000000 in
set_option maxRecDepth 100000 in
theorem ok_X0_copyFrom {X : mm_C} {RR : Nat → Nat → Option Nat} (hR : RRok RR) {v0 : Nat} {v1 : Nat} (t0 : tg v0 = 0) (t1 : tg v1 = 0) {S : fS} {r : fS} (h : f_X0_copyFrom v0 v1 S = some r) : mr X 0 mY_X0_copyFrom 0 (lv_args 0 [.ref v0, .ref v1]) [] (MM RR S) (none, MM RR r) := by
  unfold f_X0_copyFrom at h
  show mr X _ _ 0 [(0, .ref v0), (1, .ref v1)] [] (MM RR S) _
  refine mr_aload_n (pc' := 1) dX0_copyFrom_0 rfl rfl ?_
  refine mr_getR (pc' := 4) (ci := 0) (j := 0) (b := (v1 + 1)) hR dX0_copyFrom_1 rfl rfl t1 (by decide) (by decide) (by decide) rfl (ly0_0 t1).1 ?_
  refine mr_iconst (pc' := 5) (v := (0 : Int32)) dX0_copyFrom_4 rfl (by decide) ?_
  refine mr_aload_n (pc' := 6) dX0_copyFrom_5 rfl rfl ?_
  refine mr_getR (pc' := 9) (ci := 0) (j := 0) (b := (v0 + 1)) hR dX0_copyFrom_6 rfl rfl t0 (by decide) (by decide) (by decide) rfl (ly0_0 t0).1 ?_
  refine mr_iconst (pc' := 10) (v := (0 : Int32)) dX0_copyFrom_9 rfl (by decide) ?_
  refine mr_bipush (pc' := 12) (v := (8 : Int32)) dX0_copyFrom_10 rfl (by decide) ?_
  obtain ⟨S1, g2, h3⟩ := Option.bind_eq_some_iff.mp h
  refine mr_cpyI (pc' := 15) (n := 8) dX0_copyFrom_12 rfl rfl (by decide) ⟨(ly0_0 t1).2.1, Nat.le_of_eq (ly0_0 t1).2.2.symm⟩ ⟨(ly0_0 t0).2.1, Nat.le_of_eq (ly0_0 t0).2.2.symm⟩ (by decide) (by decide) ?_
  rw [Option.some.inj g2]
  refine mr_aload_n (pc' := 16) dX0_copyFrom_15 rfl rfl ?_
  refine mr_getR (pc' := 19) (ci := 0) (j := 1) (b := (v1 + 2)) hR dX0_copyFrom_16 rfl rfl t1 (by decide) (by decide) (by decide) rfl (ly0_1 t1).1 ?_
  refine mr_iconst (pc' := 20) (v := (0 : Int32)) dX0_copyFrom_19 rfl (by decide) ?_
  refine mr_aload_n (pc' := 21) dX0_copyFrom_20 rfl rfl ?_
  refine mr_getR (pc' := 24) (ci := 0) (j := 1) (b := (v0 + 2)) hR dX0_copyFrom_21 rfl rfl t0 (by decide) (by decide) (by decide) rfl (ly0_1 t0).1 ?_
  refine mr_iconst (pc' := 25) (v := (0 : Int32)) dX0_copyFrom_24 rfl (by decide) ?_
  refine mr_bipush (pc' := 27) (v := (8 : Int32)) dX0_copyFrom_25 rfl (by decide) ?_
  obtain ⟨S4, g5, h6⟩ := Option.bind_eq_some_iff.mp h3
  refine mr_cpyI (pc' := 30) (n := 8) dX0_copyFrom_27 rfl rfl (by decide) ⟨(ly0_1 t1).2.1, Nat.le_of_eq (ly0_1 t1).2.2.symm⟩ ⟨(ly0_1 t0).2.1, Nat.le_of_eq (ly0_1 t0).2.2.symm⟩ (by decide) (by decide) ?_
  rw [Option.some.inj g5]
  refine mr_aload_n (pc' := 31) dX0_copyFrom_30 rfl rfl ?_
  refine mr_getR (pc' := 34) (ci := 0) (j := 2) (b := (v1 + 3)) hR dX0_copyFrom_31 rfl rfl t1 (by decide) (by decide) (by decide) rfl (ly0_2 t1).1 ?_
  refine mr_iconst (pc' := 35) (v := (0 : Int32)) dX0_copyFrom_34 rfl (by decide) ?_
  refine mr_aload_n (pc' := 36) dX0_copyFrom_35 rfl rfl ?_
  refine mr_getR (pc' := 39) (ci := 0) (j := 2) (b := (v0 + 3)) hR dX0_copyFrom_36 rfl rfl t0 (by decide) (by decide) (by decide) rfl (ly0_2 t0).1 ?_
  refine mr_iconst (pc' := 40) (v := (0 : Int32)) dX0_copyFrom_39 rfl (by decide) ?_
  refine mr_bipush (pc' := 42) (v := (8 : Int32)) dX0_copyFrom_40 rfl (by decide) ?_
  obtain ⟨S7, g8, h9⟩ := Option.bind_eq_some_iff.mp h6
  refine mr_cpyI (pc' := 45) (n := 8) dX0_copyFrom_42 rfl rfl (by decide) ⟨(ly0_2 t1).2.1, Nat.le_of_eq (ly0_2 t1).2.2.symm⟩ ⟨(ly0_2 t0).2.1, Nat.le_of_eq (ly0_2 t0).2.2.symm⟩ (by decide) (by decide) ?_
  rw [Option.some.inj g8]
  refine mr_aload_n (pc' := 46) dX0_copyFrom_45 rfl rfl ?_
  refine mr_getR (pc' := 49) (ci := 0) (j := 3) (b := (v1 + 4)) hR dX0_copyFrom_46 rfl rfl t1 (by decide) (by decide) (by decide) rfl (ly0_3 t1).1 ?_
  refine mr_iconst (pc' := 50) (v := (0 : Int32)) dX0_copyFrom_49 rfl (by decide) ?_
  refine mr_aload_n (pc' := 51) dX0_copyFrom_50 rfl rfl ?_
  refine mr_getR (pc' := 54) (ci := 0) (j := 3) (b := (v0 + 4)) hR dX0_copyFrom_51 rfl rfl t0 (by decide) (by decide) (by decide) rfl (ly0_3 t0).1 ?_
  refine mr_iconst (pc' := 55) (v := (0 : Int32)) dX0_copyFrom_54 rfl (by decide) ?_
  refine mr_bipush (pc' := 57) (v := (8 : Int32)) dX0_copyFrom_55 rfl (by decide) ?_
  obtain ⟨S10, g11, h12⟩ := Option.bind_eq_some_iff.mp h9
  refine mr_cpyI (pc' := 60) (n := 8) dX0_copyFrom_57 rfl rfl (by decide) ⟨(ly0_3 t1).2.1, Nat.le_of_eq (ly0_3 t1).2.2.symm⟩ ⟨(ly0_3 t0).2.1, Nat.le_of_eq (ly0_3 t0).2.2.symm⟩ (by decide) (by decide) ?_
  rw [Option.some.inj g11]
  refine mr_aload_n (pc' := 61) dX0_copyFrom_60 rfl rfl ?_
  refine mr_getR (pc' := 64) (ci := 0) (j := 4) (b := (v1 + 5)) hR dX0_copyFrom_61 rfl rfl t1 (by decide) (by decide) (by decide) rfl (ly0_4 t1).1 ?_
  refine mr_iconst (pc' := 65) (v := (0 : Int32)) dX0_copyFrom_64 rfl (by decide) ?_
  refine mr_aload_n (pc' := 66) dX0_copyFrom_65 rfl rfl ?_
  refine mr_getR (pc' := 69) (ci := 0) (j := 4) (b := (v0 + 5)) hR dX0_copyFrom_66 rfl rfl t0 (by decide) (by decide) (by decide) rfl (ly0_4 t0).1 ?_
  refine mr_iconst (pc' := 70) (v := (0 : Int32)) dX0_copyFrom_69 rfl (by decide) ?_
  refine mr_bipush (pc' := 72) (v := (8 : Int32)) dX0_copyFrom_70 rfl (by decide) ?_
  obtain ⟨S13, g14, h15⟩ := Option.bind_eq_some_iff.mp h12
  refine mr_cpyL (pc' := 75) (n := 8) dX0_copyFrom_72 rfl rfl (by decide) ⟨(ly0_4 t1).2.1, Nat.le_of_eq (ly0_4 t1).2.2.symm⟩ ⟨(ly0_4 t0).2.1, Nat.le_of_eq (ly0_4 t0).2.2.symm⟩ (by decide) (by decide) ?_
  rw [Option.some.inj g14]
  refine mr_aload_n (pc' := 76) dX0_copyFrom_75 rfl rfl ?_
  refine mr_aload_n (pc' := 77) dX0_copyFrom_76 rfl rfl ?_
  refine mr_getI (pc' := 80) (ci := 0) (j := 5) dX0_copyFrom_77 rfl rfl t1 (by decide) (by decide) rfl ?_
  obtain ⟨S16, g17, h18⟩ := Option.bind_eq_some_iff.mp h15
  refine mr_putI (pc' := 83) (ci := 0) (j := 5) dX0_copyFrom_80 rfl rfl t0 (by decide) (by decide) rfl rfl ?_
  rw [Option.some.inj g17]
  refine mr_aload_n (pc' := 84) dX0_copyFrom_83 rfl rfl ?_
  refine mr_aload_n (pc' := 85) dX0_copyFrom_84 rfl rfl ?_
  refine mr_getI (pc' := 88) (ci := 0) (j := 6) dX0_copyFrom_85 rfl rfl t1 (by decide) (by decide) rfl ?_
  obtain ⟨S19, g20, h21⟩ := Option.bind_eq_some_iff.mp h18
  refine mr_putI (pc' := 91) (ci := 0) (j := 6) dX0_copyFrom_88 rfl rfl t0 (by decide) (by decide) rfl rfl ?_
  rw [Option.some.inj g20]
  obtain rfl := Option.some.inj h21
  exact mr_return dX0_copyFrom_91 rfl
def f_X10_tower  (S : fS) : Option (Int32 × fS) :=
  (f_X9_read  S).bind fun q1 =>
  (some (pI q1.2 1 1 (0 : Int32))).bind fun S4 =>
  if q1.1 = (0 : Int32) then (some (((-2 : Int32) - (S4.1 1 4)), S4)) else
  ((f_X8_copyFrom 4 24 S4).bind fun q8 =>
  (f_X0_copyFrom 11 31 q8).bind fun q11 =>
  (some (pI q11 17 4 (0 : Int32))).bind fun S14 =>
  some ((S14.1 4 6), S14))
set_option maxHeartbeats 4000000 in
set_option maxRecDepth 100000 in
theorem ok_X10_tower {X : mm_C} {RR : Nat → Nat → Option Nat} (hR : RRok RR)   {S : fS} {r : Int32 × fS} (h : f_X10_tower  S = some r) : mr X 7 mY_X10_tower 0 (lv_args 0 [.ref 0]) [] (MM RR S) (some (.int r.1), MM RR r.2) := by
  unfold f_X10_tower at h
  show mr X _ _ 0 [(0, .ref 0)] [] (MM RR S) _
  refine mr_aload_n (pc' := 1) dX10_tower_0 rfl rfl ?_
  refine mr_getR (pc' := 4) (ci := 10) (j := 6) (b := 37) hR dX10_tower_1 rfl rfl rfl (by decide) (by decide) (by decide) rfl rfl ?_
  obtain ⟨q1, g2, h3⟩ := Option.bind_eq_some_iff.mp h
  refine mr_cv (pc' := 7) (a := 37) (d1 := 6) dX10_tower_4 rfl rfl rfl rfl rfl rfl (by decide) rfl (by decide) (ok_X9_read hR  g2) ?_
  show mr X _ _ 7 _ [.int q1.1] (MM RR q1.2) _
  refine mr_istore_n (pc' := 8) (lv' := [(1, .int q1.1), (0, .ref 0)]) dX10_tower_7 rfl (by decide) rfl ?_
  refine mr_aload_n (pc' := 9) dX10_tower_8 rfl rfl ?_
  refine mr_getR (pc' := 12) (ci := 10) (j := 0) (b := 1) hR dX10_tower_9 rfl rfl rfl (by decide) (by decide) (by decide) rfl rfl ?_
  refine mr_iconst (pc' := 13) (v := (0 : Int32)) dX10_tower_12 rfl (by decide) ?_
  obtain ⟨S4, g5, h6⟩ := Option.bind_eq_some_iff.mp h3
  refine mr_putI (pc' := 16) (ci := 7) (j := 1) dX10_tower_13 rfl rfl rfl (by decide) (by decide) rfl rfl ?_
  rw [Option.some.inj g5]
  refine mr_iload_n (pc' := 17) dX10_tower_16 rfl rfl ?_
  by_cases c7 : q1.1 = (0 : Int32)
  · rw [if_pos c7] at h6
    refine mr_if_ne_f (t := 31) (pc' := 20) dX10_tower_17 (by decide) rfl (not_not_intro c7) ?_
    refine mr_bipush (pc' := 22) (v := (-2 : Int32)) dX10_tower_20 rfl (by decide) ?_
    refine mr_aload_n (pc' := 23) dX10_tower_22 rfl rfl ?_
    refine mr_getR (pc' := 26) (ci := 10) (j := 0) (b := 1) hR dX10_tower_23 rfl rfl rfl (by decide) (by decide) (by decide) rfl rfl ?_
    refine mr_getI (pc' := 29) (ci := 7) (j := 4) dX10_tower_26 rfl rfl rfl (by decide) (by decide) rfl ?_
    refine mr_isub (pc' := 30) dX10_tower_29 rfl ?_
    obtain rfl := Option.some.inj h6
    exact mr_ireturn dX10_tower_30 rfl
  · rw [if_neg c7] at h6
    refine mr_if_ne_t (t := 31) dX10_tower_17 (by decide) c7 ?_
    refine mr_aload_n (pc' := 32) dX10_tower_31 rfl rfl ?_
    refine mr_getR (pc' := 35) (ci := 10) (j := 1) (b := 3) hR dX10_tower_32 rfl rfl rfl (by decide) (by decide) (by decide) rfl rfl ?_
    refine mr_getR (pc' := 38) (ci := 6) (j := 0) (b := 4) hR dX10_tower_35 rfl rfl rfl (by decide) (by decide) (by decide) rfl rfl ?_
    refine mr_aload_n (pc' := 39) dX10_tower_38 rfl rfl ?_
    refine mr_getR (pc' := 42) (ci := 10) (j := 4) (b := 24) hR dX10_tower_39 rfl rfl rfl (by decide) (by decide) (by decide) rfl rfl ?_
    obtain ⟨q8, g9, h10⟩ := Option.bind_eq_some_iff.mp h6
    refine mr_cv (pc' := 45) (a := 4) (d1 := 0) dX10_tower_42 rfl rfl rfl rfl rfl rfl (by decide) rfl (by decide) (ok_X8_copyFrom hR rfl rfl g9) ?_
    show mr X _ _ 45 _ [] (MM RR q8) _
    refine mr_aload_n (pc' := 46) dX10_tower_45 rfl rfl ?_
    refine mr_getR (pc' := 49) (ci := 10) (j := 1) (b := 3) hR dX10_tower_46 rfl rfl rfl (by decide) (by decide) (by decide) rfl rfl ?_
    refine mr_getR (pc' := 52) (ci := 6) (j := 1) (b := 11) hR dX10_tower_49 rfl rfl rfl (by decide) (by decide) (by decide) rfl rfl ?_
    refine mr_aload_n (pc' := 53) dX10_tower_52 rfl rfl ?_
    refine mr_getR (pc' := 56) (ci := 10) (j := 5) (b := 31) hR dX10_tower_53 rfl rfl rfl (by decide) (by decide) (by decide) rfl rfl ?_
    obtain ⟨q11, g12, h13⟩ := Option.bind_eq_some_iff.mp h10
    refine mr_cv (pc' := 59) (a := 11) (d1 := 0) dX10_tower_56 rfl rfl rfl rfl rfl rfl (by decide) rfl (by decide) (ok_X0_copyFrom hR rfl rfl g12) ?_
    show mr X _ _ 59 _ [] (MM RR q11) _
    refine mr_aload_n (pc' := 60) dX10_tower_59 rfl rfl ?_
    refine mr_getR (pc' := 63) (ci := 10) (j := 1) (b := 3) hR dX10_tower_60 rfl rfl rfl (by decide) (by decide) (by decide) rfl rfl ?_
    refine mr_getR (pc' := 66) (ci := 6) (j := 2) (b := 17) hR dX10_tower_63 rfl rfl rfl (by decide) (by decide) (by decide) rfl rfl ?_
    refine mr_iconst (pc' := 67) (v := (0 : Int32)) dX10_tower_66 rfl (by decide) ?_
    obtain ⟨S14, g15, h16⟩ := Option.bind_eq_some_iff.mp h13
    refine mr_putI (pc' := 70) (ci := 2) (j := 4) dX10_tower_67 rfl rfl rfl (by decide) (by decide) rfl rfl ?_
    rw [Option.some.inj g15]
    refine mr_aload_n (pc' := 71) dX10_tower_70 rfl rfl ?_
    refine mr_getR (pc' := 74) (ci := 10) (j := 1) (b := 3) hR dX10_tower_71 rfl rfl rfl (by decide) (by decide) (by decide) rfl rfl ?_
    refine mr_getR (pc' := 77) (ci := 6) (j := 0) (b := 4) hR dX10_tower_74 rfl rfl rfl (by decide) (by decide) (by decide) rfl rfl ?_
    refine mr_getI (pc' := 80) (ci := 8) (j := 6) dX10_tower_77 rfl rfl rfl (by decide) (by decide) rfl ?_
    obtain rfl := Option.some.inj h16
    exact mr_ireturn dX10_tower_80 rfl
def f_X5_hold (v1 : Int32) (S : fS) : Option (fS) :=
  if (S.1 38 4) < (0 : Int32) then (some S) else
  (if (64 : Int32) ≤ (S.1 38 4) then (some S) else
  ((sI S 39 64 (S.1 38 4) v1).bind fun S3 =>
  (some (pI S3 38 4 ((S3.1 38 4) + (1 : Int32)))).bind fun S6 =>
  some S6))
set_option maxHeartbeats 4000000 in
set_option maxRecDepth 100000 in
theorem ok_X5_hold {X : mm_C} {RR : Nat → Nat → Option Nat} (hR : RRok RR) {v1 : Int32}  {S : fS} {r : fS} (h : f_X5_hold v1 S = some r) : mr X 0 mY_X5_hold 0 (lv_args 0 [.ref 38, .int v1]) [] (MM RR S) (none, MM RR r) := by
  unfold f_X5_hold at h
  show mr X _ _ 0 [(0, .ref 38), (1, .int v1)] [] (MM RR S) _
  refine mr_aload_n (pc' := 1) dX5_hold_0 rfl rfl ?_
  refine mr_getI (pc' := 4) (ci := 5) (j := 4) dX5_hold_1 rfl rfl rfl (by decide) (by decide) rfl ?_
  by_cases c1 : (S.1 38 4) < (0 : Int32)
  · rw [if_pos c1] at h
    refine mr_if_lt_t (t := 36) dX5_hold_4 (by decide) c1 ?_
    obtain rfl := Option.some.inj h
    exact mr_return dX5_hold_36 rfl
  · rw [if_neg c1] at h
    refine mr_if_lt_f (t := 36) (pc' := 7) dX5_hold_4 (by decide) rfl c1 ?_
    refine mr_aload_n (pc' := 8) dX5_hold_7 rfl rfl ?_
    refine mr_getI (pc' := 11) (ci := 5) (j := 4) dX5_hold_8 rfl rfl rfl (by decide) (by decide) rfl ?_
    refine mr_bipush (pc' := 13) (v := (64 : Int32)) dX5_hold_11 rfl (by decide) ?_
    by_cases c2 : (64 : Int32) ≤ (S.1 38 4)
    · rw [if_pos c2] at h
      refine mr_icmp_ge_t (t := 36) dX5_hold_13 (by decide) c2 ?_
      obtain rfl := Option.some.inj h
      exact mr_return dX5_hold_36 rfl
    · rw [if_neg c2] at h
      refine mr_icmp_ge_f (t := 36) (pc' := 16) dX5_hold_13 (by decide) rfl c2 ?_
      refine mr_aload_n (pc' := 17) dX5_hold_16 rfl rfl ?_
      refine mr_getR (pc' := 20) (ci := 5) (j := 1) (b := 39) hR dX5_hold_17 rfl rfl rfl (by decide) (by decide) (by decide) rfl rfl ?_
      refine mr_aload_n (pc' := 21) dX5_hold_20 rfl rfl ?_
      refine mr_getI (pc' := 24) (ci := 5) (j := 4) dX5_hold_21 rfl rfl rfl (by decide) (by decide) rfl ?_
      refine mr_iload_n (pc' := 25) dX5_hold_24 rfl rfl ?_
      obtain ⟨S3, g4, h5⟩ := Option.bind_eq_some_iff.mp h
      refine mr_iast (pc' := 26) dX5_hold_25 rfl rfl rfl g4 ?_
      refine mr_aload_n (pc' := 27) dX5_hold_26 rfl rfl ?_
      refine mr_dup_ref (pc' := 28) dX5_hold_27 rfl ?_
      refine mr_getI (pc' := 31) (ci := 5) (j := 4) dX5_hold_28 rfl rfl rfl (by decide) (by decide) rfl ?_
      refine mr_iconst (pc' := 32) (v := (1 : Int32)) dX5_hold_31 rfl (by decide) ?_
      refine mr_iadd (pc' := 33) dX5_hold_32 rfl ?_
      obtain ⟨S6, g7, h8⟩ := Option.bind_eq_some_iff.mp h5
      refine mr_putI (pc' := 36) (ci := 5) (j := 4) dX5_hold_33 rfl rfl rfl (by decide) (by decide) rfl rfl ?_
      rw [Option.some.inj g7]
      obtain rfl := Option.some.inj h8
      exact mr_return dX5_hold_36 rfl
def lp_X5_readOpenings_2  (K : fS → Option (Int32 × fS)) : Nat → Int32 → fS → Option (Int32 × fS)
  | 0, _, _ => none
  | n + 1, p1, S0 =>
    if (10 : Int32) < p1 then (K S0) else
    ((f_X7_takeWord 5 S0).bind fun q2 =>
    if q2.1 = (0 : Int32) then ((f_X7_takeSign (91 : Int32) q2.2).bind fun q39 =>
    if q39.1 = (0 : Int32) then (some ((1 : Int32), q39.2)) else
    (if (q39.2.1 38 6) < (10 : Int32) then ((some (pI q39.2 38 6 ((q39.2.1 38 6) + (1 : Int32)))).bind fun S44 =>
    if q2.1 = (0 : Int32) then ((some (pI S44 38 5 ((S44.1 38 5) + (1 : Int32)))).bind fun S48 =>
    if q2.1 = (0 : Int32) then ((f_X5_hold (16 : Int32) S48).bind fun q52 =>
    lp_X5_readOpenings_2  K n (p1 + (1 : Int32)) q52) else
    ((f_X5_hold (4 : Int32) S48).bind fun q55 =>
    lp_X5_readOpenings_2  K n (p1 + (1 : Int32)) q55)) else
    ((some (pI S44 38 5 ((S44.1 38 5) + (0 : Int32)))).bind fun S58 =>
    if q2.1 = (0 : Int32) then ((f_X5_hold (16 : Int32) S58).bind fun q62 =>
    lp_X5_readOpenings_2  K n (p1 + (1 : Int32)) q62) else
    ((f_X5_hold (4 : Int32) S58).bind fun q65 =>
    lp_X5_readOpenings_2  K n (p1 + (1 : Int32)) q65))) else
    ((f_X7_fail (q39.2.1 1 3) (2 : Int32) q39.2).bind fun q68 =>
    (bZ q68.1).bind fun z71 => some (z71, q68.2)))) else
    (if (q2.2.1 38 6) < (10 : Int32) then ((some (pI q2.2 38 6 ((q2.2.1 38 6) + (1 : Int32)))).bind fun S7 =>
    if q2.1 = (0 : Int32) then ((some (pI S7 38 5 ((S7.1 38 5) + (1 : Int32)))).bind fun S11 =>
    if q2.1 = (0 : Int32) then ((f_X5_hold (16 : Int32) S11).bind fun q15 =>
    lp_X5_readOpenings_2  K n (p1 + (1 : Int32)) q15) else
    ((f_X5_hold (4 : Int32) S11).bind fun q18 =>
    lp_X5_readOpenings_2  K n (p1 + (1 : Int32)) q18)) else
    ((some (pI S7 38 5 ((S7.1 38 5) + (0 : Int32)))).bind fun S21 =>
    if q2.1 = (0 : Int32) then ((f_X5_hold (16 : Int32) S21).bind fun q25 =>
    lp_X5_readOpenings_2  K n (p1 + (1 : Int32)) q25) else
    ((f_X5_hold (4 : Int32) S21).bind fun q28 =>
    lp_X5_readOpenings_2  K n (p1 + (1 : Int32)) q28))) else
    ((f_X7_fail (q2.2.1 1 3) (2 : Int32) q2.2).bind fun q31 =>
    (bZ q31.1).bind fun z34 => some (z34, q31.2))))
set_option maxHeartbeats 4000000 in
set_option maxRecDepth 100000 in
theorem ok_lp_X5_readOpenings_2 {X : mm_C} {RR : Nat → Nat → Option Nat} (hR : RRok RR)   {K : fS → Option (Int32 × fS)} {r : Int32 × fS} (hK : ∀ (Sk : fS), K Sk = some r → mr X 5 mY_X5_readOpenings 109 [] [] (MM RR Sk) (some (.int r.1), MM RR r.2)) : ∀ (n : Nat) (p1 : Int32) (S0 : fS), lp_X5_readOpenings_2  K n p1 S0 = some r → mr X 5 mY_X5_readOpenings 2 [(0, .ref 38), (1, .int p1)] [] (MM RR S0) (some (.int r.1), MM RR r.2) := by
  intro n
  induction n with
  | zero => intro p1 S0 h; exact mm_no h
  | succ n ih =>
    intro p1 S0 h
    unfold lp_X5_readOpenings_2 at h
    refine mr_iload_n (pc' := 3) dX5_readOpenings_2 rfl rfl ?_
    refine mr_bipush (pc' := 5) (v := (10 : Int32)) dX5_readOpenings_3 rfl (by decide) ?_
    by_cases c1 : (10 : Int32) < p1
    · rw [if_pos c1] at h
      refine mr_icmp_gt_t (t := 109) dX5_readOpenings_5 (by decide) c1 ?_
      exact mr_sub [] trivial rfl (hK _  h)
    · rw [if_neg c1] at h
      refine mr_icmp_gt_f (t := 109) (pc' := 8) dX5_readOpenings_5 (by decide) rfl c1 ?_
      refine mr_aload_n (pc' := 9) dX5_readOpenings_8 rfl rfl ?_
      refine mr_getR (pc' := 12) (ci := 5) (j := 0) (b := 1) hR dX5_readOpenings_9 rfl rfl rfl (by decide) (by decide) (by decide) rfl rfl ?_
      refine mr_ldcS (pc' := 14) (i := 5) dX5_readOpenings_12 rfl rfl rfl ?_
      obtain ⟨q2, g3, h4⟩ := Option.bind_eq_some_iff.mp h
      refine mr_cv (pc' := 17) (a := 1) (d1 := 4) dX5_readOpenings_14 rfl rfl rfl rfl rfl rfl (by decide) rfl (by decide) (ok_X7_takeWord hR (by decide) g3) ?_
      show mr X _ _ 17 _ [.int q2.1] (MM RR q2.2) _
      refine mr_istore_n (pc' := 18) (lv' := [(2, .int q2.1), (0, .ref 38), (1, .int p1)]) dX5_readOpenings_17 rfl (by decide) rfl ?_
      refine mr_iload_n (pc' := 19) dX5_readOpenings_18 rfl rfl ?_
      by_cases c5 : q2.1 = (0 : Int32)
      · rw [if_pos c5] at h4
        refine mr_if_ne_f (t := 36) (pc' := 22) dX5_readOpenings_19 (by decide) rfl (not_not_intro c5) ?_
        refine mr_aload_n (pc' := 23) dX5_readOpenings_22 rfl rfl ?_
        refine mr_getR (pc' := 26) (ci := 5) (j := 0) (b := 1) hR dX5_readOpenings_23 rfl rfl rfl (by decide) (by decide) (by decide) rfl rfl ?_
        refine mr_bipush (pc' := 28) (v := (91 : Int32)) dX5_readOpenings_26 rfl (by decide) ?_
        obtain ⟨q39, g40, h41⟩ := Option.bind_eq_some_iff.mp h4
        refine mr_cv (pc' := 31) (a := 1) (d1 := 1) dX5_readOpenings_28 rfl rfl rfl rfl rfl rfl (by decide) rfl (by decide) (ok_X7_takeSign hR  g40) ?_
        show mr X _ _ 31 _ [.int q39.1] (MM RR q39.2) _
        by_cases c42 : q39.1 = (0 : Int32)
        · rw [if_pos c42] at h41
          refine mr_if_ne_f (t := 36) (pc' := 34) dX5_readOpenings_31 (by decide) rfl (not_not_intro c42) ?_
          refine mr_iconst (pc' := 35) (v := (1 : Int32)) dX5_readOpenings_34 rfl (by decide) ?_
          obtain rfl := Option.some.inj h41
          exact mr_zreturn dX5_readOpenings_35 rfl (by decide)
        · rw [if_neg c42] at h41
          refine mr_if_ne_t (t := 36) dX5_readOpenings_31 (by decide) c42 ?_
          refine mr_aload_n (pc' := 37) dX5_readOpenings_36 rfl rfl ?_
          refine mr_getI (pc' := 40) (ci := 5) (j := 6) dX5_readOpenings_37 rfl rfl rfl (by decide) (by decide) rfl ?_
          refine mr_bipush (pc' := 42) (v := (10 : Int32)) dX5_readOpenings_40 rfl (by decide) ?_
          by_cases c43 : (q39.2.1 38 6) < (10 : Int32)
          · rw [if_pos c43] at h41
            refine mr_icmp_lt_t (t := 61) dX5_readOpenings_42 (by decide) c43 ?_
            refine mr_aload_n (pc' := 62) dX5_readOpenings_61 rfl rfl ?_
            refine mr_dup_ref (pc' := 63) dX5_readOpenings_62 rfl ?_
            refine mr_getI (pc' := 66) (ci := 5) (j := 6) dX5_readOpenings_63 rfl rfl rfl (by decide) (by decide) rfl ?_
            refine mr_iconst (pc' := 67) (v := (1 : Int32)) dX5_readOpenings_66 rfl (by decide) ?_
            refine mr_iadd (pc' := 68) dX5_readOpenings_67 rfl ?_
            obtain ⟨S44, g45, h46⟩ := Option.bind_eq_some_iff.mp h41
            refine mr_putI (pc' := 71) (ci := 5) (j := 6) dX5_readOpenings_68 rfl rfl rfl (by decide) (by decide) rfl rfl ?_
            rw [Option.some.inj g45]
            refine mr_aload_n (pc' := 72) dX5_readOpenings_71 rfl rfl ?_
            refine mr_dup_ref (pc' := 73) dX5_readOpenings_72 rfl ?_
            refine mr_getI (pc' := 76) (ci := 5) (j := 5) dX5_readOpenings_73 rfl rfl rfl (by decide) (by decide) rfl ?_
            refine mr_iload_n (pc' := 77) dX5_readOpenings_76 rfl rfl ?_
            by_cases c47 : q2.1 = (0 : Int32)
            · rw [if_pos c47] at h46
              refine mr_if_eq_t (t := 84) dX5_readOpenings_77 (by decide) c47 ?_
              refine mr_iconst (pc' := 85) (v := (1 : Int32)) dX5_readOpenings_84 rfl (by decide) ?_
              refine mr_iadd (pc' := 86) dX5_readOpenings_85 rfl ?_
              obtain ⟨S48, g49, h50⟩ := Option.bind_eq_some_iff.mp h46
              refine mr_putI (pc' := 89) (ci := 5) (j := 5) dX5_readOpenings_86 rfl rfl rfl (by decide) (by decide) rfl rfl ?_
              rw [Option.some.inj g49]
              refine mr_aload_n (pc' := 90) dX5_readOpenings_89 rfl rfl ?_
              refine mr_iload_n (pc' := 91) dX5_readOpenings_90 rfl rfl ?_
              by_cases c51 : q2.1 = (0 : Int32)
              · rw [if_pos c51] at h50
                refine mr_if_eq_t (t := 98) dX5_readOpenings_91 (by decide) c51 ?_
                refine mr_bipush (pc' := 100) (v := (16 : Int32)) dX5_readOpenings_98 rfl (by decide) ?_
                obtain ⟨q52, g53, h54⟩ := Option.bind_eq_some_iff.mp h50
                refine mr_cv (pc' := 103) (a := 38) (d1 := 0) dX5_readOpenings_100 rfl rfl rfl rfl rfl rfl (by decide) rfl (by decide) (ok_X5_hold hR  g53) ?_
                show mr X _ _ 103 _ [] (MM RR q52) _
                refine mr_iinc (pc' := 106) (x' := (p1 + (1 : Int32))) (lv' := [(1, .int (p1 + (1 : Int32))), (2, .int q2.1), (0, .ref 38)]) dX5_readOpenings_103 rfl (by decide) rfl rfl rfl ?_
                refine mr_goto (t := 2) dX5_readOpenings_106 (by decide) ?_
                exact mr_sub [(0, .ref 38), (1, .int (p1 + (1 : Int32)))] ⟨rfl, rfl, trivial⟩ rfl (ih _ _  h54)
              · rw [if_neg c51] at h50
                refine mr_if_eq_f (t := 98) (pc' := 94) dX5_readOpenings_91 (by decide) rfl c51 ?_
                refine mr_iconst (pc' := 95) (v := (4 : Int32)) dX5_readOpenings_94 rfl (by decide) ?_
                refine mr_goto (t := 100) dX5_readOpenings_95 (by decide) ?_
                obtain ⟨q55, g56, h57⟩ := Option.bind_eq_some_iff.mp h50
                refine mr_cv (pc' := 103) (a := 38) (d1 := 0) dX5_readOpenings_100 rfl rfl rfl rfl rfl rfl (by decide) rfl (by decide) (ok_X5_hold hR  g56) ?_
                show mr X _ _ 103 _ [] (MM RR q55) _
                refine mr_iinc (pc' := 106) (x' := (p1 + (1 : Int32))) (lv' := [(1, .int (p1 + (1 : Int32))), (2, .int q2.1), (0, .ref 38)]) dX5_readOpenings_103 rfl (by decide) rfl rfl rfl ?_
                refine mr_goto (t := 2) dX5_readOpenings_106 (by decide) ?_
                exact mr_sub [(0, .ref 38), (1, .int (p1 + (1 : Int32)))] ⟨rfl, rfl, trivial⟩ rfl (ih _ _  h57)
            · rw [if_neg c47] at h46
              refine mr_if_eq_f (t := 84) (pc' := 80) dX5_readOpenings_77 (by decide) rfl c47 ?_
              refine mr_iconst (pc' := 81) (v := (0 : Int32)) dX5_readOpenings_80 rfl (by decide) ?_
              refine mr_goto (t := 85) dX5_readOpenings_81 (by decide) ?_
              refine mr_iadd (pc' := 86) dX5_readOpenings_85 rfl ?_
              obtain ⟨S58, g59, h60⟩ := Option.bind_eq_some_iff.mp h46
              refine mr_putI (pc' := 89) (ci := 5) (j := 5) dX5_readOpenings_86 rfl rfl rfl (by decide) (by decide) rfl rfl ?_
              rw [Option.some.inj g59]
              refine mr_aload_n (pc' := 90) dX5_readOpenings_89 rfl rfl ?_
              refine mr_iload_n (pc' := 91) dX5_readOpenings_90 rfl rfl ?_
              by_cases c61 : q2.1 = (0 : Int32)
              · rw [if_pos c61] at h60
                refine mr_if_eq_t (t := 98) dX5_readOpenings_91 (by decide) c61 ?_
                refine mr_bipush (pc' := 100) (v := (16 : Int32)) dX5_readOpenings_98 rfl (by decide) ?_
                obtain ⟨q62, g63, h64⟩ := Option.bind_eq_some_iff.mp h60
                refine mr_cv (pc' := 103) (a := 38) (d1 := 0) dX5_readOpenings_100 rfl rfl rfl rfl rfl rfl (by decide) rfl (by decide) (ok_X5_hold hR  g63) ?_
                show mr X _ _ 103 _ [] (MM RR q62) _
                refine mr_iinc (pc' := 106) (x' := (p1 + (1 : Int32))) (lv' := [(1, .int (p1 + (1 : Int32))), (2, .int q2.1), (0, .ref 38)]) dX5_readOpenings_103 rfl (by decide) rfl rfl rfl ?_
                refine mr_goto (t := 2) dX5_readOpenings_106 (by decide) ?_
                exact mr_sub [(0, .ref 38), (1, .int (p1 + (1 : Int32)))] ⟨rfl, rfl, trivial⟩ rfl (ih _ _  h64)
              · rw [if_neg c61] at h60
                refine mr_if_eq_f (t := 98) (pc' := 94) dX5_readOpenings_91 (by decide) rfl c61 ?_
                refine mr_iconst (pc' := 95) (v := (4 : Int32)) dX5_readOpenings_94 rfl (by decide) ?_
                refine mr_goto (t := 100) dX5_readOpenings_95 (by decide) ?_
                obtain ⟨q65, g66, h67⟩ := Option.bind_eq_some_iff.mp h60
                refine mr_cv (pc' := 103) (a := 38) (d1 := 0) dX5_readOpenings_100 rfl rfl rfl rfl rfl rfl (by decide) rfl (by decide) (ok_X5_hold hR  g66) ?_
                show mr X _ _ 103 _ [] (MM RR q65) _
                refine mr_iinc (pc' := 106) (x' := (p1 + (1 : Int32))) (lv' := [(1, .int (p1 + (1 : Int32))), (2, .int q2.1), (0, .ref 38)]) dX5_readOpenings_103 rfl (by decide) rfl rfl rfl ?_
                refine mr_goto (t := 2) dX5_readOpenings_106 (by decide) ?_
                exact mr_sub [(0, .ref 38), (1, .int (p1 + (1 : Int32)))] ⟨rfl, rfl, trivial⟩ rfl (ih _ _  h67)
          · rw [if_neg c43] at h41
            refine mr_icmp_lt_f (t := 61) (pc' := 45) dX5_readOpenings_42 (by decide) rfl c43 ?_
            refine mr_aload_n (pc' := 46) dX5_readOpenings_45 rfl rfl ?_
            refine mr_getR (pc' := 49) (ci := 5) (j := 0) (b := 1) hR dX5_readOpenings_46 rfl rfl rfl (by decide) (by decide) (by decide) rfl rfl ?_
            refine mr_aload_n (pc' := 50) dX5_readOpenings_49 rfl rfl ?_
            refine mr_getR (pc' := 53) (ci := 5) (j := 0) (b := 1) hR dX5_readOpenings_50 rfl rfl rfl (by decide) (by decide) (by decide) rfl rfl ?_
            refine mr_getI (pc' := 56) (ci := 7) (j := 3) dX5_readOpenings_53 rfl rfl rfl (by decide) (by decide) rfl ?_
            refine mr_iconst (pc' := 57) (v := (2 : Int32)) dX5_readOpenings_56 rfl (by decide) ?_
            obtain ⟨q68, g69, h70⟩ := Option.bind_eq_some_iff.mp h41
            refine mr_cv (pc' := 60) (a := 1) (d1 := 0) dX5_readOpenings_57 rfl rfl rfl rfl rfl rfl (by decide) rfl (by decide) (ok_X7_fail hR  g69) ?_
            show mr X _ _ 60 _ [.int q68.1] (MM RR q68.2) _
            obtain ⟨z71, g72, h73⟩ := Option.bind_eq_some_iff.mp h70
            obtain ⟨g74, e75⟩ := mm_ifs g72
            cases e75
            cases h73
            exact mr_zreturn dX5_readOpenings_60 rfl g74
      · rw [if_neg c5] at h4
        refine mr_if_ne_t (t := 36) dX5_readOpenings_19 (by decide) c5 ?_
        refine mr_aload_n (pc' := 37) dX5_readOpenings_36 rfl rfl ?_
        refine mr_getI (pc' := 40) (ci := 5) (j := 6) dX5_readOpenings_37 rfl rfl rfl (by decide) (by decide) rfl ?_
        refine mr_bipush (pc' := 42) (v := (10 : Int32)) dX5_readOpenings_40 rfl (by decide) ?_
        by_cases c6 : (q2.2.1 38 6) < (10 : Int32)
        · rw [if_pos c6] at h4
          refine mr_icmp_lt_t (t := 61) dX5_readOpenings_42 (by decide) c6 ?_
          refine mr_aload_n (pc' := 62) dX5_readOpenings_61 rfl rfl ?_
          refine mr_dup_ref (pc' := 63) dX5_readOpenings_62 rfl ?_
          refine mr_getI (pc' := 66) (ci := 5) (j := 6) dX5_readOpenings_63 rfl rfl rfl (by decide) (by decide) rfl ?_
          refine mr_iconst (pc' := 67) (v := (1 : Int32)) dX5_readOpenings_66 rfl (by decide) ?_
          refine mr_iadd (pc' := 68) dX5_readOpenings_67 rfl ?_
          obtain ⟨S7, g8, h9⟩ := Option.bind_eq_some_iff.mp h4
          refine mr_putI (pc' := 71) (ci := 5) (j := 6) dX5_readOpenings_68 rfl rfl rfl (by decide) (by decide) rfl rfl ?_
          rw [Option.some.inj g8]
          refine mr_aload_n (pc' := 72) dX5_readOpenings_71 rfl rfl ?_
          refine mr_dup_ref (pc' := 73) dX5_readOpenings_72 rfl ?_
          refine mr_getI (pc' := 76) (ci := 5) (j := 5) dX5_readOpenings_73 rfl rfl rfl (by decide) (by decide) rfl ?_
          refine mr_iload_n (pc' := 77) dX5_readOpenings_76 rfl rfl ?_
          by_cases c10 : q2.1 = (0 : Int32)
          · rw [if_pos c10] at h9
            refine mr_if_eq_t (t := 84) dX5_readOpenings_77 (by decide) c10 ?_
            refine mr_iconst (pc' := 85) (v := (1 : Int32)) dX5_readOpenings_84 rfl (by decide) ?_
            refine mr_iadd (pc' := 86) dX5_readOpenings_85 rfl ?_
            obtain ⟨S11, g12, h13⟩ := Option.bind_eq_some_iff.mp h9
            refine mr_putI (pc' := 89) (ci := 5) (j := 5) dX5_readOpenings_86 rfl rfl rfl (by decide) (by decide) rfl rfl ?_
            rw [Option.some.inj g12]
            refine mr_aload_n (pc' := 90) dX5_readOpenings_89 rfl rfl ?_
            refine mr_iload_n (pc' := 91) dX5_readOpenings_90 rfl rfl ?_
            by_cases c14 : q2.1 = (0 : Int32)
            · rw [if_pos c14] at h13
              refine mr_if_eq_t (t := 98) dX5_readOpenings_91 (by decide) c14 ?_
              refine mr_bipush (pc' := 100) (v := (16 : Int32)) dX5_readOpenings_98 rfl (by decide) ?_
              obtain ⟨q15, g16, h17⟩ := Option.bind_eq_some_iff.mp h13
              refine mr_cv (pc' := 103) (a := 38) (d1 := 0) dX5_readOpenings_100 rfl rfl rfl rfl rfl rfl (by decide) rfl (by decide) (ok_X5_hold hR  g16) ?_
              show mr X _ _ 103 _ [] (MM RR q15) _
              refine mr_iinc (pc' := 106) (x' := (p1 + (1 : Int32))) (lv' := [(1, .int (p1 + (1 : Int32))), (2, .int q2.1), (0, .ref 38)]) dX5_readOpenings_103 rfl (by decide) rfl rfl rfl ?_
              refine mr_goto (t := 2) dX5_readOpenings_106 (by decide) ?_
              exact mr_sub [(0, .ref 38), (1, .int (p1 + (1 : Int32)))] ⟨rfl, rfl, trivial⟩ rfl (ih _ _  h17)
            · rw [if_neg c14] at h13
              refine mr_if_eq_f (t := 98) (pc' := 94) dX5_readOpenings_91 (by decide) rfl c14 ?_
              refine mr_iconst (pc' := 95) (v := (4 : Int32)) dX5_readOpenings_94 rfl (by decide) ?_
              refine mr_goto (t := 100) dX5_readOpenings_95 (by decide) ?_
              obtain ⟨q18, g19, h20⟩ := Option.bind_eq_some_iff.mp h13
              refine mr_cv (pc' := 103) (a := 38) (d1 := 0) dX5_readOpenings_100 rfl rfl rfl rfl rfl rfl (by decide) rfl (by decide) (ok_X5_hold hR  g19) ?_
              show mr X _ _ 103 _ [] (MM RR q18) _
              refine mr_iinc (pc' := 106) (x' := (p1 + (1 : Int32))) (lv' := [(1, .int (p1 + (1 : Int32))), (2, .int q2.1), (0, .ref 38)]) dX5_readOpenings_103 rfl (by decide) rfl rfl rfl ?_
              refine mr_goto (t := 2) dX5_readOpenings_106 (by decide) ?_
              exact mr_sub [(0, .ref 38), (1, .int (p1 + (1 : Int32)))] ⟨rfl, rfl, trivial⟩ rfl (ih _ _  h20)
          · rw [if_neg c10] at h9
            refine mr_if_eq_f (t := 84) (pc' := 80) dX5_readOpenings_77 (by decide) rfl c10 ?_
            refine mr_iconst (pc' := 81) (v := (0 : Int32)) dX5_readOpenings_80 rfl (by decide) ?_
            refine mr_goto (t := 85) dX5_readOpenings_81 (by decide) ?_
            refine mr_iadd (pc' := 86) dX5_readOpenings_85 rfl ?_
            obtain ⟨S21, g22, h23⟩ := Option.bind_eq_some_iff.mp h9
            refine mr_putI (pc' := 89) (ci := 5) (j := 5) dX5_readOpenings_86 rfl rfl rfl (by decide) (by decide) rfl rfl ?_
            rw [Option.some.inj g22]
            refine mr_aload_n (pc' := 90) dX5_readOpenings_89 rfl rfl ?_
            refine mr_iload_n (pc' := 91) dX5_readOpenings_90 rfl rfl ?_
            by_cases c24 : q2.1 = (0 : Int32)
            · rw [if_pos c24] at h23
              refine mr_if_eq_t (t := 98) dX5_readOpenings_91 (by decide) c24 ?_
              refine mr_bipush (pc' := 100) (v := (16 : Int32)) dX5_readOpenings_98 rfl (by decide) ?_
              obtain ⟨q25, g26, h27⟩ := Option.bind_eq_some_iff.mp h23
              refine mr_cv (pc' := 103) (a := 38) (d1 := 0) dX5_readOpenings_100 rfl rfl rfl rfl rfl rfl (by decide) rfl (by decide) (ok_X5_hold hR  g26) ?_
              show mr X _ _ 103 _ [] (MM RR q25) _
              refine mr_iinc (pc' := 106) (x' := (p1 + (1 : Int32))) (lv' := [(1, .int (p1 + (1 : Int32))), (2, .int q2.1), (0, .ref 38)]) dX5_readOpenings_103 rfl (by decide) rfl rfl rfl ?_
              refine mr_goto (t := 2) dX5_readOpenings_106 (by decide) ?_
              exact mr_sub [(0, .ref 38), (1, .int (p1 + (1 : Int32)))] ⟨rfl, rfl, trivial⟩ rfl (ih _ _  h27)
            · rw [if_neg c24] at h23
              refine mr_if_eq_f (t := 98) (pc' := 94) dX5_readOpenings_91 (by decide) rfl c24 ?_
              refine mr_iconst (pc' := 95) (v := (4 : Int32)) dX5_readOpenings_94 rfl (by decide) ?_
              refine mr_goto (t := 100) dX5_readOpenings_95 (by decide) ?_
              obtain ⟨q28, g29, h30⟩ := Option.bind_eq_some_iff.mp h23
              refine mr_cv (pc' := 103) (a := 38) (d1 := 0) dX5_readOpenings_100 rfl rfl rfl rfl rfl rfl (by decide) rfl (by decide) (ok_X5_hold hR  g29) ?_
              show mr X _ _ 103 _ [] (MM RR q28) _
              refine mr_iinc (pc' := 106) (x' := (p1 + (1 : Int32))) (lv' := [(1, .int (p1 + (1 : Int32))), (2, .int q2.1), (0, .ref 38)]) dX5_readOpenings_103 rfl (by decide) rfl rfl rfl ?_
              refine mr_goto (t := 2) dX5_readOpenings_106 (by decide) ?_
              exact mr_sub [(0, .ref 38), (1, .int (p1 + (1 : Int32)))] ⟨rfl, rfl, trivial⟩ rfl (ih _ _  h30)
        · rw [if_neg c6] at h4
          refine mr_icmp_lt_f (t := 61) (pc' := 45) dX5_readOpenings_42 (by decide) rfl c6 ?_
          refine mr_aload_n (pc' := 46) dX5_readOpenings_45 rfl rfl ?_
          refine mr_getR (pc' := 49) (ci := 5) (j := 0) (b := 1) hR dX5_readOpenings_46 rfl rfl rfl (by decide) (by decide) (by decide) rfl rfl ?_
          refine mr_aload_n (pc' := 50) dX5_readOpenings_49 rfl rfl ?_
          refine mr_getR (pc' := 53) (ci := 5) (j := 0) (b := 1) hR dX5_readOpenings_50 rfl rfl rfl (by decide) (by decide) (by decide) rfl rfl ?_
          refine mr_getI (pc' := 56) (ci := 7) (j := 3) dX5_readOpenings_53 rfl rfl rfl (by decide) (by decide) rfl ?_
          refine mr_iconst (pc' := 57) (v := (2 : Int32)) dX5_readOpenings_56 rfl (by decide) ?_
          obtain ⟨q31, g32, h33⟩ := Option.bind_eq_some_iff.mp h4
          refine mr_cv (pc' := 60) (a := 1) (d1 := 0) dX5_readOpenings_57 rfl rfl rfl rfl rfl rfl (by decide) rfl (by decide) (ok_X7_fail hR  g32) ?_
          show mr X _ _ 60 _ [.int q31.1] (MM RR q31.2) _
          obtain ⟨z34, g35, h36⟩ := Option.bind_eq_some_iff.mp h33
          obtain ⟨g37, e38⟩ := mm_ifs g35
          cases e38
          cases h36
          exact mr_zreturn dX5_readOpenings_60 rfl g37
def f_X5_readOpenings  (S : fS) : Option (Int32 × fS) :=
  lp_X5_readOpenings_2  (fun S76 => some ((0 : Int32), S76)) FU (0 : Int32) S
set_option maxHeartbeats 4000000 in
set_option maxRecDepth 100000 in
theorem ok_X5_readOpenings {X : mm_C} {RR : Nat → Nat → Option Nat} (hR : RRok RR)   {S : fS} {r : Int32 × fS} (h : f_X5_readOpenings  S = some r) : mr X 5 mY_X5_readOpenings 0 (lv_args 0 [.ref 38]) [] (MM RR S) (some (.int r.1), MM RR r.2) := by
  unfold f_X5_readOpenings at h
  show mr X _ _ 0 [(0, .ref 38)] [] (MM RR S) _
  refine mr_iconst (pc' := 1) (v := (0 : Int32)) dX5_readOpenings_0 rfl (by decide) ?_
  refine mr_istore_n (pc' := 2) (lv' := [(1, .int (0 : Int32)), (0, .ref 38)]) dX5_readOpenings_1 rfl (by decide) rfl ?_
  refine mr_sub [(0, .ref 38), (1, .int (0 : Int32))] ⟨rfl, rfl, trivial⟩ rfl ?_
  refine ok_lp_X5_readOpenings_2 hR  (fun S76 h77 => ?_) FU _ _  h
  refine mr_iconst (pc' := 110) (v := (0 : Int32)) dX5_readOpenings_109 rfl (by decide) ?_
  obtain rfl := Option.some.inj h77
  exact mr_zreturn dX5_readOpenings_110 rfl (by decide)
def f_X5_takeName  (S : fS) : Option (Int32 × fS) :=
  (f_X7_takeWord 6 S).bind fun q1 =>
  if q1.1 = (0 : Int32) then ((f_X7_takeWord 7 q1.2).bind fun q5 =>
  if q5.1 = (0 : Int32) then ((f_X7_takeWord 8 q5.2).bind fun q9 =>
  if q9.1 = (0 : Int32) then ((f_X7_takeWord 9 q9.2).bind fun q13 =>
  if q13.1 = (0 : Int32) then ((f_X7_takeWord 10 q13.2).bind fun q17 =>
  if q17.1 = (0 : Int32) then ((f_X7_takeWord 11 q17.2).bind fun q21 =>
  if q21.1 = (0 : Int32) then ((f_X7_takeWord 12 q21.2).bind fun q25 =>
  if q25.1 = (0 : Int32) then ((f_X7_takeWord 13 q25.2).bind fun q29 =>
  if q29.1 = (0 : Int32) then (some ((-1 : Int32), q29.2)) else
  (some ((7 : Int32), q29.2))) else
  (some ((6 : Int32), q25.2))) else
  (some ((5 : Int32), q21.2))) else
  (some ((4 : Int32), q17.2))) else
  (some ((3 : Int32), q13.2))) else
  (some ((2 : Int32), q9.2))) else
  (some ((1 : Int32), q5.2))) else
  (some ((0 : Int32), q1.2))
set_option maxHeartbeats 4000000 in
set_option maxRecDepth 100000 in
theorem ok_X5_takeName {X : mm_C} {RR : Nat → Nat → Option Nat} (hR : RRok RR)   {S : fS} {r : Int32 × fS} (h : f_X5_takeName  S = some r) : mr X 5 mY_X5_takeName 0 (lv_args 0 [.ref 38]) [] (MM RR S) (some (.int r.1), MM RR r.2) := by
  unfold f_X5_takeName at h
  show mr X _ _ 0 [(0, .ref 38)] [] (MM RR S) _
  refine mr_aload_n (pc' := 1) dX5_takeName_0 rfl rfl ?_
  refine mr_getR (pc' := 4) (ci := 5) (j := 0) (b := 1) hR dX5_takeName_1 rfl rfl rfl (by decide) (by decide) (by decide) rfl rfl ?_
  refine mr_ldcS (pc' := 6) (i := 6) dX5_takeName_4 rfl rfl rfl ?_
  obtain ⟨q1, g2, h3⟩ := Option.bind_eq_some_iff.mp h
  refine mr_cv (pc' := 9) (a := 1) (d1 := 4) dX5_takeName_6 rfl rfl rfl rfl rfl rfl (by decide) rfl (by decide) (ok_X7_takeWord hR (by decide) g2) ?_
  show mr X _ _ 9 _ [.int q1.1] (MM RR q1.2) _
  by_cases c4 : q1.1 = (0 : Int32)
  · rw [if_pos c4] at h3
    refine mr_if_eq_t (t := 14) dX5_takeName_9 (by decide) c4 ?_
    refine mr_aload_n (pc' := 15) dX5_takeName_14 rfl rfl ?_
    refine mr_getR (pc' := 18) (ci := 5) (j := 0) (b := 1) hR dX5_takeName_15 rfl rfl rfl (by decide) (by decide) (by decide) rfl rfl ?_
    refine mr_ldcS (pc' := 20) (i := 7) dX5_takeName_18 rfl rfl rfl ?_
    obtain ⟨q5, g6, h7⟩ := Option.bind_eq_some_iff.mp h3
    refine mr_cv (pc' := 23) (a := 1) (d1 := 4) dX5_takeName_20 rfl rfl rfl rfl rfl rfl (by decide) rfl (by decide) (ok_X7_takeWord hR (by decide) g6) ?_
    show mr X _ _ 23 _ [.int q5.1] (MM RR q5.2) _
    by_cases c8 : q5.1 = (0 : Int32)
    · rw [if_pos c8] at h7
      refine mr_if_eq_t (t := 28) dX5_takeName_23 (by decide) c8 ?_
      refine mr_aload_n (pc' := 29) dX5_takeName_28 rfl rfl ?_
      refine mr_getR (pc' := 32) (ci := 5) (j := 0) (b := 1) hR dX5_takeName_29 rfl rfl rfl (by decide) (by decide) (by decide) rfl rfl ?_
      refine mr_ldcS (pc' := 34) (i := 8) dX5_takeName_32 rfl rfl rfl ?_
      obtain ⟨q9, g10, h11⟩ := Option.bind_eq_some_iff.mp h7
      refine mr_cv (pc' := 37) (a := 1) (d1 := 4) dX5_takeName_34 rfl rfl rfl rfl rfl rfl (by decide) rfl (by decide) (ok_X7_takeWord hR (by decide) g10) ?_
      show mr X _ _ 37 _ [.int q9.1] (MM RR q9.2) _
      by_cases c12 : q9.1 = (0 : Int32)
      · rw [if_pos c12] at h11
        refine mr_if_eq_t (t := 42) dX5_takeName_37 (by decide) c12 ?_
        refine mr_aload_n (pc' := 43) dX5_takeName_42 rfl rfl ?_
        refine mr_getR (pc' := 46) (ci := 5) (j := 0) (b := 1) hR dX5_takeName_43 rfl rfl rfl (by decide) (by decide) (by decide) rfl rfl ?_
        refine mr_ldcS (pc' := 48) (i := 9) dX5_takeName_46 rfl rfl rfl ?_
        obtain ⟨q13, g14, h15⟩ := Option.bind_eq_some_iff.mp h11
        refine mr_cv (pc' := 51) (a := 1) (d1 := 4) dX5_takeName_48 rfl rfl rfl rfl rfl rfl (by decide) rfl (by decide) (ok_X7_takeWord hR (by decide) g14) ?_
        show mr X _ _ 51 _ [.int q13.1] (MM RR q13.2) _
        by_cases c16 : q13.1 = (0 : Int32)
        · rw [if_pos c16] at h15
          refine mr_if_eq_t (t := 56) dX5_takeName_51 (by decide) c16 ?_
          refine mr_aload_n (pc' := 57) dX5_takeName_56 rfl rfl ?_
          refine mr_getR (pc' := 60) (ci := 5) (j := 0) (b := 1) hR dX5_takeName_57 rfl rfl rfl (by decide) (by decide) (by decide) rfl rfl ?_
          refine mr_ldcS (pc' := 62) (i := 10) dX5_takeName_60 rfl rfl rfl ?_
          obtain ⟨q17, g18, h19⟩ := Option.bind_eq_some_iff.mp h15
          refine mr_cv (pc' := 65) (a := 1) (d1 := 4) dX5_takeName_62 rfl rfl rfl rfl rfl rfl (by decide) rfl (by decide) (ok_X7_takeWord hR (by decide) g18) ?_
          show mr X _ _ 65 _ [.int q17.1] (MM RR q17.2) _
          by_cases c20 : q17.1 = (0 : Int32)
          · rw [if_pos c20] at h19
            refine mr_if_eq_t (t := 70) dX5_takeName_65 (by decide) c20 ?_
            refine mr_aload_n (pc' := 71) dX5_takeName_70 rfl rfl ?_
            refine mr_getR (pc' := 74) (ci := 5) (j := 0) (b := 1) hR dX5_takeName_71 rfl rfl rfl (by decide) (by decide) (by decide) rfl rfl ?_
            refine mr_ldcS (pc' := 76) (i := 11) dX5_takeName_74 rfl rfl rfl ?_
            obtain ⟨q21, g22, h23⟩ := Option.bind_eq_some_iff.mp h19
            refine mr_cv (pc' := 79) (a := 1) (d1 := 4) dX5_takeName_76 rfl rfl rfl rfl rfl rfl (by decide) rfl (by decide) (ok_X7_takeWord hR (by decide) g22) ?_
            show mr X _ _ 79 _ [.int q21.1] (MM RR q21.2) _
            by_cases c24 : q21.1 = (0 : Int32)
            · rw [if_pos c24] at h23
              refine mr_if_eq_t (t := 84) dX5_takeName_79 (by decide) c24 ?_
              refine mr_aload_n (pc' := 85) dX5_takeName_84 rfl rfl ?_
              refine mr_getR (pc' := 88) (ci := 5) (j := 0) (b := 1) hR dX5_takeName_85 rfl rfl rfl (by decide) (by decide) (by decide) rfl rfl ?_
              refine mr_ldcS (pc' := 90) (i := 12) dX5_takeName_88 rfl rfl rfl ?_
              obtain ⟨q25, g26, h27⟩ := Option.bind_eq_some_iff.mp h23
              refine mr_cv (pc' := 93) (a := 1) (d1 := 4) dX5_takeName_90 rfl rfl rfl rfl rfl rfl (by decide) rfl (by decide) (ok_X7_takeWord hR (by decide) g26) ?_
              show mr X _ _ 93 _ [.int q25.1] (MM RR q25.2) _
              by_cases c28 : q25.1 = (0 : Int32)
              · rw [if_pos c28] at h27
                refine mr_if_eq_t (t := 99) dX5_takeName_93 (by decide) c28 ?_
                refine mr_aload_n (pc' := 100) dX5_takeName_99 rfl rfl ?_
                refine mr_getR (pc' := 103) (ci := 5) (j := 0) (b := 1) hR dX5_takeName_100 rfl rfl rfl (by decide) (by decide) (by decide) rfl rfl ?_
                refine mr_ldcS (pc' := 105) (i := 13) dX5_takeName_103 rfl rfl rfl ?_
                obtain ⟨q29, g30, h31⟩ := Option.bind_eq_some_iff.mp h27
                refine mr_cv (pc' := 108) (a := 1) (d1 := 4) dX5_takeName_105 rfl rfl rfl rfl rfl rfl (by decide) rfl (by decide) (ok_X7_takeWord hR (by decide) g30) ?_
                show mr X _ _ 108 _ [.int q29.1] (MM RR q29.2) _
                by_cases c32 : q29.1 = (0 : Int32)
                · rw [if_pos c32] at h31
                  refine mr_if_eq_t (t := 116) dX5_takeName_108 (by decide) c32 ?_
                  refine mr_iconst (pc' := 117) (v := (-1 : Int32)) dX5_takeName_116 rfl (by decide) ?_
                  obtain rfl := Option.some.inj h31
                  exact mr_ireturn dX5_takeName_117 rfl
                · rw [if_neg c32] at h31
                  refine mr_if_eq_f (t := 116) (pc' := 111) dX5_takeName_108 (by decide) rfl c32 ?_
                  refine mr_bipush (pc' := 113) (v := (7 : Int32)) dX5_takeName_111 rfl (by decide) ?_
                  refine mr_goto (t := 117) dX5_takeName_113 (by decide) ?_
                  obtain rfl := Option.some.inj h31
                  exact mr_ireturn dX5_takeName_117 rfl
              · rw [if_neg c28] at h27
                refine mr_if_eq_f (t := 99) (pc' := 96) dX5_takeName_93 (by decide) rfl c28 ?_
                refine mr_bipush (pc' := 98) (v := (6 : Int32)) dX5_takeName_96 rfl (by decide) ?_
                obtain rfl := Option.some.inj h27
                exact mr_ireturn dX5_takeName_98 rfl
            · rw [if_neg c24] at h23
              refine mr_if_eq_f (t := 84) (pc' := 82) dX5_takeName_79 (by decide) rfl c24 ?_
              refine mr_iconst (pc' := 83) (v := (5 : Int32)) dX5_takeName_82 rfl (by decide) ?_
              obtain rfl := Option.some.inj h23
              exact mr_ireturn dX5_takeName_83 rfl
          · rw [if_neg c20] at h19
            refine mr_if_eq_f (t := 70) (pc' := 68) dX5_takeName_65 (by decide) rfl c20 ?_
            refine mr_iconst (pc' := 69) (v := (4 : Int32)) dX5_takeName_68 rfl (by decide) ?_
            obtain rfl := Option.some.inj h19
            exact mr_ireturn dX5_takeName_69 rfl
        · rw [if_neg c16] at h15
          refine mr_if_eq_f (t := 56) (pc' := 54) dX5_takeName_51 (by decide) rfl c16 ?_
          refine mr_iconst (pc' := 55) (v := (3 : Int32)) dX5_takeName_54 rfl (by decide) ?_
          obtain rfl := Option.some.inj h15
          exact mr_ireturn dX5_takeName_55 rfl
      · rw [if_neg c12] at h11
        refine mr_if_eq_f (t := 42) (pc' := 40) dX5_takeName_37 (by decide) rfl c12 ?_
        refine mr_iconst (pc' := 41) (v := (2 : Int32)) dX5_takeName_40 rfl (by decide) ?_
        obtain rfl := Option.some.inj h11
        exact mr_ireturn dX5_takeName_41 rfl
    · rw [if_neg c8] at h7
      refine mr_if_eq_f (t := 28) (pc' := 26) dX5_takeName_23 (by decide) rfl c8 ?_
      refine mr_iconst (pc' := 27) (v := (1 : Int32)) dX5_takeName_26 rfl (by decide) ?_
      obtain rfl := Option.some.inj h7
      exact mr_ireturn dX5_takeName_27 rfl
  · rw [if_neg c4] at h3
    refine mr_if_eq_f (t := 14) (pc' := 12) dX5_takeName_9 (by decide) rfl c4 ?_
    refine mr_iconst (pc' := 13) (v := (0 : Int32)) dX5_takeName_12 rfl (by decide) ?_
    obtain rfl := Option.some.inj h3
    exact mr_ireturn dX5_takeName_13 rfl
def f_X5_isRoomForOne  (S : fS) : Option (Int32 × fS) :=
  if (S.1 38 3) < (60 : Int32) then ((some (pI S 38 3 ((S.1 38 3) + (1 : Int32)))).bind fun S2 =>
  some ((1 : Int32), S2)) else
  ((f_X7_fail (S.1 1 3) (3 : Int32) S).bind fun q5 =>
  (bZ q5.1).bind fun z8 => some (z8, q5.2))
set_option maxHeartbeats 4000000 in
set_option maxRecDepth 100000 in
theorem ok_X5_isRoomForOne {X : mm_C} {RR : Nat → Nat → Option Nat} (hR : RRok RR)   {S : fS} {r : Int32 × fS} (h : f_X5_isRoomForOne  S = some r) : mr X 1 mY_X5_isRoomForOne 0 (lv_args 0 [.ref 38]) [] (MM RR S) (some (.int r.1), MM RR r.2) := by
  unfold f_X5_isRoomForOne at h
  show mr X _ _ 0 [(0, .ref 38)] [] (MM RR S) _
  refine mr_aload_n (pc' := 1) dX5_isRoomForOne_0 rfl rfl ?_
  refine mr_getI (pc' := 4) (ci := 5) (j := 3) dX5_isRoomForOne_1 rfl rfl rfl (by decide) (by decide) rfl ?_
  refine mr_bipush (pc' := 6) (v := (60 : Int32)) dX5_isRoomForOne_4 rfl (by decide) ?_
  by_cases c1 : (S.1 38 3) < (60 : Int32)
  · rw [if_pos c1] at h
    refine mr_icmp_lt_t (t := 25) dX5_isRoomForOne_6 (by decide) c1 ?_
    refine mr_aload_n (pc' := 26) dX5_isRoomForOne_25 rfl rfl ?_
    refine mr_dup_ref (pc' := 27) dX5_isRoomForOne_26 rfl ?_
    refine mr_getI (pc' := 30) (ci := 5) (j := 3) dX5_isRoomForOne_27 rfl rfl rfl (by decide) (by decide) rfl ?_
    refine mr_iconst (pc' := 31) (v := (1 : Int32)) dX5_isRoomForOne_30 rfl (by decide) ?_
    refine mr_iadd (pc' := 32) dX5_isRoomForOne_31 rfl ?_
    obtain ⟨S2, g3, h4⟩ := Option.bind_eq_some_iff.mp h
    refine mr_putI (pc' := 35) (ci := 5) (j := 3) dX5_isRoomForOne_32 rfl rfl rfl (by decide) (by decide) rfl rfl ?_
    rw [Option.some.inj g3]
    refine mr_iconst (pc' := 36) (v := (1 : Int32)) dX5_isRoomForOne_35 rfl (by decide) ?_
    obtain rfl := Option.some.inj h4
    exact mr_zreturn dX5_isRoomForOne_36 rfl (by decide)
  · rw [if_neg c1] at h
    refine mr_icmp_lt_f (t := 25) (pc' := 9) dX5_isRoomForOne_6 (by decide) rfl c1 ?_
    refine mr_aload_n (pc' := 10) dX5_isRoomForOne_9 rfl rfl ?_
    refine mr_getR (pc' := 13) (ci := 5) (j := 0) (b := 1) hR dX5_isRoomForOne_10 rfl rfl rfl (by decide) (by decide) (by decide) rfl rfl ?_
    refine mr_aload_n (pc' := 14) dX5_isRoomForOne_13 rfl rfl ?_
    refine mr_getR (pc' := 17) (ci := 5) (j := 0) (b := 1) hR dX5_isRoomForOne_14 rfl rfl rfl (by decide) (by decide) (by decide) rfl rfl ?_
    refine mr_getI (pc' := 20) (ci := 7) (j := 3) dX5_isRoomForOne_17 rfl rfl rfl (by decide) (by decide) rfl ?_
    refine mr_iconst (pc' := 21) (v := (3 : Int32)) dX5_isRoomForOne_20 rfl (by decide) ?_
    obtain ⟨q5, g6, h7⟩ := Option.bind_eq_some_iff.mp h
    refine mr_cv (pc' := 24) (a := 1) (d1 := 0) dX5_isRoomForOne_21 rfl rfl rfl rfl rfl rfl (by decide) rfl (by decide) (ok_X7_fail hR  g6) ?_
    show mr X _ _ 24 _ [.int q5.1] (MM RR q5.2) _
    obtain ⟨z8, g9, h10⟩ := Option.bind_eq_some_iff.mp h7
    obtain ⟨g11, e12⟩ := mm_ifs g9
    cases e12
    cases h10
    exact mr_zreturn dX5_isRoomForOne_24 rfl g11
def f_X4_write (v0 : Nat) (v1 : Int32) (v2 : Int32) (S : fS) : Option (fS) :=
  if (400 : Int32) ≤ (S.1 v0 2) then (some S) else
  ((sI S (v0 + 1) 400 (S.1 v0 2) ((v2 <<< ((5 : Int32) &&& 31)) ||| v1)).bind fun S2 =>
  (some (pI S2 v0 2 ((S2.1 v0 2) + (1 : Int32)))).bind fun S5 =>
  some S5)
set_option maxHeartbeats 4000000 in
set_option maxRecDepth 100000 in
theorem ok_X4_write {X : mm_C} {RR : Nat → Nat → Option Nat} (hR : RRok RR) {v0 : Nat} {v1 : Int32} {v2 : Int32} (t0 : tg v0 = 4) {S : fS} {r : fS} (h : f_X4_write v0 v1 v2 S = some r) : mr X 0 mY_X4_write 0 (lv_args 0 [.ref v0, .int v1, .int v2]) [] (MM RR S) (none, MM RR r) := by
  unfold f_X4_write at h
  show mr X _ _ 0 [(0, .ref v0), (1, .int v1), (2, .int v2)] [] (MM RR S) _
  refine mr_aload_n (pc' := 1) dX4_write_0 rfl rfl ?_
  refine mr_getI (pc' := 4) (ci := 4) (j := 2) dX4_write_1 rfl rfl t0 (by decide) (by decide) rfl ?_
  refine mr_sipush (pc' := 7) (v := (400 : Int32)) dX4_write_4 rfl (by decide) ?_
  by_cases c1 : (400 : Int32) ≤ (S.1 v0 2)
  · rw [if_pos c1] at h
    refine mr_icmp_ge_t (t := 34) dX4_write_7 (by decide) c1 ?_
    obtain rfl := Option.some.inj h
    exact mr_return dX4_write_34 rfl
  · rw [if_neg c1] at h
    refine mr_icmp_ge_f (t := 34) (pc' := 10) dX4_write_7 (by decide) rfl c1 ?_
    refine mr_aload_n (pc' := 11) dX4_write_10 rfl rfl ?_
    refine mr_getR (pc' := 14) (ci := 4) (j := 0) (b := (v0 + 1)) hR dX4_write_11 rfl rfl t0 (by decide) (by decide) (by decide) rfl (ly4_0 t0).1 ?_
    refine mr_aload_n (pc' := 15) dX4_write_14 rfl rfl ?_
    refine mr_getI (pc' := 18) (ci := 4) (j := 2) dX4_write_15 rfl rfl t0 (by decide) (by decide) rfl ?_
    refine mr_iload_n (pc' := 19) dX4_write_18 rfl rfl ?_
    refine mr_iconst (pc' := 20) (v := (5 : Int32)) dX4_write_19 rfl (by decide) ?_
    refine mr_ishl (pc' := 21) dX4_write_20 rfl ?_
    refine mr_iload_n (pc' := 22) dX4_write_21 rfl rfl ?_
    refine mr_ior (pc' := 23) dX4_write_22 rfl ?_
    obtain ⟨S2, g3, h4⟩ := Option.bind_eq_some_iff.mp h
    refine mr_iast (pc' := 24) dX4_write_23 rfl (ly4_0 t0).2.1 (ly4_0 t0).2.2 g3 ?_
    refine mr_aload_n (pc' := 25) dX4_write_24 rfl rfl ?_
    refine mr_dup_ref (pc' := 26) dX4_write_25 rfl ?_
    refine mr_getI (pc' := 29) (ci := 4) (j := 2) dX4_write_26 rfl rfl t0 (by decide) (by decide) rfl ?_
    refine mr_iconst (pc' := 30) (v := (1 : Int32)) dX4_write_29 rfl (by decide) ?_
    refine mr_iadd (pc' := 31) dX4_write_30 rfl ?_
    obtain ⟨S5, g6, h7⟩ := Option.bind_eq_some_iff.mp h4
    refine mr_putI (pc' := 34) (ci := 4) (j := 2) dX4_write_31 rfl rfl t0 (by decide) (by decide) rfl rfl ?_
    rw [Option.some.inj g6]
    obtain rfl := Option.some.inj h7
    exact mr_return dX4_write_34 rfl
def f_X5_readValue  (S : fS) : Option (Int32 × fS) :=
  (f_X7_skipBlanks  S).bind fun q1 =>
  (f_X7_isDigitAt (q1.1 1 2) q1).bind fun q4 =>
  if q4 = (0 : Int32) then ((f_X5_takeName  q1).bind fun q8 =>
  if (0 : Int32) ≤ q8.1 then (if (0 : Int32) ≤ q8.1 then ((f_X5_isRoomForOne  q8.2).bind fun q13 =>
  if q13.1 = (0 : Int32) then (some ((0 : Int32), q13.2)) else
  (if q4 = (0 : Int32) then ((f_X4_write 40 (3 : Int32) q8.1 q13.2).bind fun q18 =>
  some ((1 : Int32), q18)) else
  ((f_X4_write 40 (2 : Int32) q8.1 q13.2).bind fun q21 =>
  some ((1 : Int32), q21)))) else
  (some ((0 : Int32), q8.2))) else
  (if q4 = (0 : Int32) then ((f_X7_fail (q8.2.1 1 2) (0 : Int32) q8.2).bind fun q37 =>
  (bZ q37.1).bind fun z40 => some (z40, q37.2)) else
  (if (0 : Int32) ≤ q8.1 then ((f_X5_isRoomForOne  q8.2).bind fun q26 =>
  if q26.1 = (0 : Int32) then (some ((0 : Int32), q26.2)) else
  (if q4 = (0 : Int32) then ((f_X4_write 40 (3 : Int32) q8.1 q26.2).bind fun q31 =>
  some ((1 : Int32), q31)) else
  ((f_X4_write 40 (2 : Int32) q8.1 q26.2).bind fun q34 =>
  some ((1 : Int32), q34)))) else
  (some ((0 : Int32), q8.2))))) else
  ((f_X7_takeNumber (0 : Int32) (99999 : Int32) q1).bind fun q45 =>
  if (0 : Int32) ≤ q45.1 then (if (0 : Int32) ≤ q45.1 then ((f_X5_isRoomForOne  q45.2).bind fun q50 =>
  if q50.1 = (0 : Int32) then (some ((0 : Int32), q50.2)) else
  (if q4 = (0 : Int32) then ((f_X4_write 40 (3 : Int32) q45.1 q50.2).bind fun q55 =>
  some ((1 : Int32), q55)) else
  ((f_X4_write 40 (2 : Int32) q45.1 q50.2).bind fun q58 =>
  some ((1 : Int32), q58)))) else
  (some ((0 : Int32), q45.2))) else
  (if q4 = (0 : Int32) then ((f_X7_fail (q45.2.1 1 2) (0 : Int32) q45.2).bind fun q74 =>
  (bZ q74.1).bind fun z77 => some (z77, q74.2)) else
  (if (0 : Int32) ≤ q45.1 then ((f_X5_isRoomForOne  q45.2).bind fun q63 =>
  if q63.1 = (0 : Int32) then (some ((0 : Int32), q63.2)) else
  (if q4 = (0 : Int32) then ((f_X4_write 40 (3 : Int32) q45.1 q63.2).bind fun q68 =>
  some ((1 : Int32), q68)) else
  ((f_X4_write 40 (2 : Int32) q45.1 q63.2).bind fun q71 =>
  some ((1 : Int32), q71)))) else
  (some ((0 : Int32), q45.2)))))
set_option maxHeartbeats 4000000 in
set_option maxRecDepth 100000 in
theorem ok_X5_readValue {X : mm_C} {RR : Nat → Nat → Option Nat} (hR : RRok RR)   {S : fS} {r : Int32 × fS} (h : f_X5_readValue  S = some r) : mr X 6 mY_X5_readValue 0 (lv_args 0 [.ref 38]) [] (MM RR S) (some (.int r.1), MM RR r.2) := by
  unfold f_X5_readValue at h
  show mr X _ _ 0 [(0, .ref 38)] [] (MM RR S) _
  refine mr_aload_n (pc' := 1) dX5_readValue_0 rfl rfl ?_
  refine mr_getR (pc' := 4) (ci := 5) (j := 0) (b := 1) hR dX5_readValue_1 rfl rfl rfl (by decide) (by decide) (by decide) rfl rfl ?_
  obtain ⟨q1, g2, h3⟩ := Option.bind_eq_some_iff.mp h
  refine mr_cv (pc' := 7) (a := 1) (d1 := 0) dX5_readValue_4 rfl rfl rfl rfl rfl rfl (by decide) rfl (by decide) (ok_X7_skipBlanks hR  g2) ?_
  show mr X _ _ 7 _ [] (MM RR q1) _
  refine mr_aload_n (pc' := 8) dX5_readValue_7 rfl rfl ?_
  refine mr_getR (pc' := 11) (ci := 5) (j := 0) (b := 1) hR dX5_readValue_8 rfl rfl rfl (by decide) (by decide) (by decide) rfl rfl ?_
  refine mr_aload_n (pc' := 12) dX5_readValue_11 rfl rfl ?_
  refine mr_getR (pc' := 15) (ci := 5) (j := 0) (b := 1) hR dX5_readValue_12 rfl rfl rfl (by decide) (by decide) (by decide) rfl rfl ?_
  refine mr_getI (pc' := 18) (ci := 7) (j := 2) dX5_readValue_15 rfl rfl rfl (by decide) (by decide) rfl ?_
  obtain ⟨q4, g5, h6⟩ := Option.bind_eq_some_iff.mp h3
  refine mr_cv (pc' := 21) (a := 1) (d1 := 1) dX5_readValue_18 rfl rfl rfl rfl rfl rfl (by decide) rfl (by decide) (ok_X7_isDigitAt hR  g5) ?_
  show mr X _ _ 21 _ [.int q4] (MM RR q1) _
  refine mr_istore_n (pc' := 22) (lv' := [(1, .int q4), (0, .ref 38)]) dX5_readValue_21 rfl (by decide) rfl ?_
  refine mr_iload_n (pc' := 23) dX5_readValue_22 rfl rfl ?_
  by_cases c7 : q4 = (0 : Int32)
  · rw [if_pos c7] at h6
    refine mr_if_eq_t (t := 39) dX5_readValue_23 (by decide) c7 ?_
    refine mr_aload_n (pc' := 40) dX5_readValue_39 rfl rfl ?_
    obtain ⟨q8, g9, h10⟩ := Option.bind_eq_some_iff.mp h6
    refine mr_cv (pc' := 43) (a := 38) (d1 := 5) dX5_readValue_40 rfl rfl rfl rfl rfl rfl (by decide) rfl (by decide) (ok_X5_takeName hR  g9) ?_
    show mr X _ _ 43 _ [.int q8.1] (MM RR q8.2) _
    refine mr_istore_n (pc' := 44) (lv' := [(2, .int q8.1), (1, .int q4), (0, .ref 38)]) dX5_readValue_43 rfl (by decide) rfl ?_
    refine mr_iload_n (pc' := 45) dX5_readValue_44 rfl rfl ?_
    by_cases c11 : (0 : Int32) ≤ q8.1
    · rw [if_pos c11] at h10
      refine mr_if_ge_t (t := 68) dX5_readValue_45 (by decide) c11 ?_
      refine mr_iload_n (pc' := 69) dX5_readValue_68 rfl rfl ?_
      by_cases c12 : (0 : Int32) ≤ q8.1
      · rw [if_pos c12] at h10
        refine mr_if_ge_t (t := 74) dX5_readValue_69 (by decide) c12 ?_
        refine mr_aload_n (pc' := 75) dX5_readValue_74 rfl rfl ?_
        obtain ⟨q13, g14, h15⟩ := Option.bind_eq_some_iff.mp h10
        refine mr_cv (pc' := 78) (a := 38) (d1 := 1) dX5_readValue_75 rfl rfl rfl rfl rfl rfl (by decide) rfl (by decide) (ok_X5_isRoomForOne hR  g14) ?_
        show mr X _ _ 78 _ [.int q13.1] (MM RR q13.2) _
        by_cases c16 : q13.1 = (0 : Int32)
        · rw [if_pos c16] at h15
          refine mr_if_ne_f (t := 83) (pc' := 81) dX5_readValue_78 (by decide) rfl (not_not_intro c16) ?_
          refine mr_iconst (pc' := 82) (v := (0 : Int32)) dX5_readValue_81 rfl (by decide) ?_
          obtain rfl := Option.some.inj h15
          exact mr_zreturn dX5_readValue_82 rfl (by decide)
        · rw [if_neg c16] at h15
          refine mr_if_ne_t (t := 83) dX5_readValue_78 (by decide) c16 ?_
          refine mr_aload_n (pc' := 84) dX5_readValue_83 rfl rfl ?_
          refine mr_getR (pc' := 87) (ci := 5) (j := 2) (b := 40) hR dX5_readValue_84 rfl rfl rfl (by decide) (by decide) (by decide) rfl rfl ?_
          refine mr_iload_n (pc' := 88) dX5_readValue_87 rfl rfl ?_
          by_cases c17 : q4 = (0 : Int32)
          · rw [if_pos c17] at h15
            refine mr_if_eq_t (t := 95) dX5_readValue_88 (by decide) c17 ?_
            refine mr_iconst (pc' := 96) (v := (3 : Int32)) dX5_readValue_95 rfl (by decide) ?_
            refine mr_iload_n (pc' := 97) dX5_readValue_96 rfl rfl ?_
            obtain ⟨q18, g19, h20⟩ := Option.bind_eq_some_iff.mp h15
            refine mr_cv (pc' := 100) (a := 40) (d1 := 0) dX5_readValue_97 rfl rfl rfl rfl rfl rfl (by decide) rfl (by decide) (ok_X4_write hR rfl g19) ?_
            show mr X _ _ 100 _ [] (MM RR q18) _
            refine mr_iconst (pc' := 101) (v := (1 : Int32)) dX5_readValue_100 rfl (by decide) ?_
            obtain rfl := Option.some.inj h20
            exact mr_zreturn dX5_readValue_101 rfl (by decide)
          · rw [if_neg c17] at h15
            refine mr_if_eq_f (t := 95) (pc' := 91) dX5_readValue_88 (by decide) rfl c17 ?_
            refine mr_iconst (pc' := 92) (v := (2 : Int32)) dX5_readValue_91 rfl (by decide) ?_
            refine mr_goto (t := 96) dX5_readValue_92 (by decide) ?_
            refine mr_iload_n (pc' := 97) dX5_readValue_96 rfl rfl ?_
            obtain ⟨q21, g22, h23⟩ := Option.bind_eq_some_iff.mp h15
            refine mr_cv (pc' := 100) (a := 40) (d1 := 0) dX5_readValue_97 rfl rfl rfl rfl rfl rfl (by decide) rfl (by decide) (ok_X4_write hR rfl g22) ?_
            show mr X _ _ 100 _ [] (MM RR q21) _
            refine mr_iconst (pc' := 101) (v := (1 : Int32)) dX5_readValue_100 rfl (by decide) ?_
            obtain rfl := Option.some.inj h23
            exact mr_zreturn dX5_readValue_101 rfl (by decide)
      · rw [if_neg c12] at h10
        refine mr_if_ge_f (t := 74) (pc' := 72) dX5_readValue_69 (by decide) rfl c12 ?_
        refine mr_iconst (pc' := 73) (v := (0 : Int32)) dX5_readValue_72 rfl (by decide) ?_
        obtain rfl := Option.some.inj h10
        exact mr_zreturn dX5_readValue_73 rfl (by decide)
    · rw [if_neg c11] at h10
      refine mr_if_ge_f (t := 68) (pc' := 48) dX5_readValue_45 (by decide) rfl c11 ?_
      refine mr_iload_n (pc' := 49) dX5_readValue_48 rfl rfl ?_
      by_cases c24 : q4 = (0 : Int32)
      · rw [if_pos c24] at h10
        refine mr_if_ne_f (t := 68) (pc' := 52) dX5_readValue_49 (by decide) rfl (not_not_intro c24) ?_
        refine mr_aload_n (pc' := 53) dX5_readValue_52 rfl rfl ?_
        refine mr_getR (pc' := 56) (ci := 5) (j := 0) (b := 1) hR dX5_readValue_53 rfl rfl rfl (by decide) (by decide) (by decide) rfl rfl ?_
        refine mr_aload_n (pc' := 57) dX5_readValue_56 rfl rfl ?_
        refine mr_getR (pc' := 60) (ci := 5) (j := 0) (b := 1) hR dX5_readValue_57 rfl rfl rfl (by decide) (by decide) (by decide) rfl rfl ?_
        refine mr_getI (pc' := 63) (ci := 7) (j := 2) dX5_readValue_60 rfl rfl rfl (by decide) (by decide) rfl ?_
        refine mr_iconst (pc' := 64) (v := (0 : Int32)) dX5_readValue_63 rfl (by decide) ?_
        obtain ⟨q37, g38, h39⟩ := Option.bind_eq_some_iff.mp h10
        refine mr_cv (pc' := 67) (a := 1) (d1 := 0) dX5_readValue_64 rfl rfl rfl rfl rfl rfl (by decide) rfl (by decide) (ok_X7_fail hR  g38) ?_
        show mr X _ _ 67 _ [.int q37.1] (MM RR q37.2) _
        obtain ⟨z40, g41, h42⟩ := Option.bind_eq_some_iff.mp h39
        obtain ⟨g43, e44⟩ := mm_ifs g41
        cases e44
        cases h42
        exact mr_zreturn dX5_readValue_67 rfl g43
      · rw [if_neg c24] at h10
        refine mr_if_ne_t (t := 68) dX5_readValue_49 (by decide) c24 ?_
        refine mr_iload_n (pc' := 69) dX5_readValue_68 rfl rfl ?_
        by_cases c25 : (0 : Int32) ≤ q8.1
        · rw [if_pos c25] at h10
          refine mr_if_ge_t (t := 74) dX5_readValue_69 (by decide) c25 ?_
          refine mr_aload_n (pc' := 75) dX5_readValue_74 rfl rfl ?_
          obtain ⟨q26, g27, h28⟩ := Option.bind_eq_some_iff.mp h10
          refine mr_cv (pc' := 78) (a := 38) (d1 := 1) dX5_readValue_75 rfl rfl rfl rfl rfl rfl (by decide) rfl (by decide) (ok_X5_isRoomForOne hR  g27) ?_
          show mr X _ _ 78 _ [.int q26.1] (MM RR q26.2) _
          by_cases c29 : q26.1 = (0 : Int32)
          · rw [if_pos c29] at h28
            refine mr_if_ne_f (t := 83) (pc' := 81) dX5_readValue_78 (by decide) rfl (not_not_intro c29) ?_
            refine mr_iconst (pc' := 82) (v := (0 : Int32)) dX5_readValue_81 rfl (by decide) ?_
            obtain rfl := Option.some.inj h28
            exact mr_zreturn dX5_readValue_82 rfl (by decide)
          · rw [if_neg c29] at h28
            refine mr_if_ne_t (t := 83) dX5_readValue_78 (by decide) c29 ?_
            refine mr_aload_n (pc' := 84) dX5_readValue_83 rfl rfl ?_
            refine mr_getR (pc' := 87) (ci := 5) (j := 2) (b := 40) hR dX5_readValue_84 rfl rfl rfl (by decide) (by decide) (by decide) rfl rfl ?_
            refine mr_iload_n (pc' := 88) dX5_readValue_87 rfl rfl ?_
            by_cases c30 : q4 = (0 : Int32)
            · rw [if_pos c30] at h28
              refine mr_if_eq_t (t := 95) dX5_readValue_88 (by decide) c30 ?_
              refine mr_iconst (pc' := 96) (v := (3 : Int32)) dX5_readValue_95 rfl (by decide) ?_
              refine mr_iload_n (pc' := 97) dX5_readValue_96 rfl rfl ?_
              obtain ⟨q31, g32, h33⟩ := Option.bind_eq_some_iff.mp h28
              refine mr_cv (pc' := 100) (a := 40) (d1 := 0) dX5_readValue_97 rfl rfl rfl rfl rfl rfl (by decide) rfl (by decide) (ok_X4_write hR rfl g32) ?_
              show mr X _ _ 100 _ [] (MM RR q31) _
              refine mr_iconst (pc' := 101) (v := (1 : Int32)) dX5_readValue_100 rfl (by decide) ?_
              obtain rfl := Option.some.inj h33
              exact mr_zreturn dX5_readValue_101 rfl (by decide)
            · rw [if_neg c30] at h28
              refine mr_if_eq_f (t := 95) (pc' := 91) dX5_readValue_88 (by decide) rfl c30 ?_
              refine mr_iconst (pc' := 92) (v := (2 : Int32)) dX5_readValue_91 rfl (by decide) ?_
              refine mr_goto (t := 96) dX5_readValue_92 (by decide) ?_
              refine mr_iload_n (pc' := 97) dX5_readValue_96 rfl rfl ?_
              obtain ⟨q34, g35, h36⟩ := Option.bind_eq_some_iff.mp h28
              refine mr_cv (pc' := 100) (a := 40) (d1 := 0) dX5_readValue_97 rfl rfl rfl rfl rfl rfl (by decide) rfl (by decide) (ok_X4_write hR rfl g35) ?_
              show mr X _ _ 100 _ [] (MM RR q34) _
              refine mr_iconst (pc' := 101) (v := (1 : Int32)) dX5_readValue_100 rfl (by decide) ?_
              obtain rfl := Option.some.inj h36
              exact mr_zreturn dX5_readValue_101 rfl (by decide)
        · rw [if_neg c25] at h10
          refine mr_if_ge_f (t := 74) (pc' := 72) dX5_readValue_69 (by decide) rfl c25 ?_
          refine mr_iconst (pc' := 73) (v := (0 : Int32)) dX5_readValue_72 rfl (by decide) ?_
          obtain rfl := Option.some.inj h10
          exact mr_zreturn dX5_readValue_73 rfl (by decide)
  · rw [if_neg c7] at h6
    refine mr_if_eq_f (t := 39) (pc' := 26) dX5_readValue_23 (by decide) rfl c7 ?_
    refine mr_aload_n (pc' := 27) dX5_readValue_26 rfl rfl ?_
    refine mr_getR (pc' := 30) (ci := 5) (j := 0) (b := 1) hR dX5_readValue_27 rfl rfl rfl (by decide) (by decide) (by decide) rfl rfl ?_
    refine mr_iconst (pc' := 31) (v := (0 : Int32)) dX5_readValue_30 rfl (by decide) ?_
    refine mr_ldc (pc' := 33) (v := (99999 : Int32)) dX5_readValue_31 rfl rfl ?_
    obtain ⟨q45, g46, h47⟩ := Option.bind_eq_some_iff.mp h6
    refine mr_cv (pc' := 36) (a := 1) (d1 := 2) dX5_readValue_33 rfl rfl rfl rfl rfl rfl (by decide) rfl (by decide) (ok_X7_takeNumber hR  g46) ?_
    show mr X _ _ 36 _ [.int q45.1] (MM RR q45.2) _
    refine mr_goto (t := 43) dX5_readValue_36 (by decide) ?_
    refine mr_istore_n (pc' := 44) (lv' := [(2, .int q45.1), (1, .int q4), (0, .ref 38)]) dX5_readValue_43 rfl (by decide) rfl ?_
    refine mr_iload_n (pc' := 45) dX5_readValue_44 rfl rfl ?_
    by_cases c48 : (0 : Int32) ≤ q45.1
    · rw [if_pos c48] at h47
      refine mr_if_ge_t (t := 68) dX5_readValue_45 (by decide) c48 ?_
      refine mr_iload_n (pc' := 69) dX5_readValue_68 rfl rfl ?_
      by_cases c49 : (0 : Int32) ≤ q45.1
      · rw [if_pos c49] at h47
        refine mr_if_ge_t (t := 74) dX5_readValue_69 (by decide) c49 ?_
        refine mr_aload_n (pc' := 75) dX5_readValue_74 rfl rfl ?_
        obtain ⟨q50, g51, h52⟩ := Option.bind_eq_some_iff.mp h47
        refine mr_cv (pc' := 78) (a := 38) (d1 := 1) dX5_readValue_75 rfl rfl rfl rfl rfl rfl (by decide) rfl (by decide) (ok_X5_isRoomForOne hR  g51) ?_
        show mr X _ _ 78 _ [.int q50.1] (MM RR q50.2) _
        by_cases c53 : q50.1 = (0 : Int32)
        · rw [if_pos c53] at h52
          refine mr_if_ne_f (t := 83) (pc' := 81) dX5_readValue_78 (by decide) rfl (not_not_intro c53) ?_
          refine mr_iconst (pc' := 82) (v := (0 : Int32)) dX5_readValue_81 rfl (by decide) ?_
          obtain rfl := Option.some.inj h52
          exact mr_zreturn dX5_readValue_82 rfl (by decide)
        · rw [if_neg c53] at h52
          refine mr_if_ne_t (t := 83) dX5_readValue_78 (by decide) c53 ?_
          refine mr_aload_n (pc' := 84) dX5_readValue_83 rfl rfl ?_
          refine mr_getR (pc' := 87) (ci := 5) (j := 2) (b := 40) hR dX5_readValue_84 rfl rfl rfl (by decide) (by decide) (by decide) rfl rfl ?_
          refine mr_iload_n (pc' := 88) dX5_readValue_87 rfl rfl ?_
          by_cases c54 : q4 = (0 : Int32)
          · rw [if_pos c54] at h52
            refine mr_if_eq_t (t := 95) dX5_readValue_88 (by decide) c54 ?_
            refine mr_iconst (pc' := 96) (v := (3 : Int32)) dX5_readValue_95 rfl (by decide) ?_
            refine mr_iload_n (pc' := 97) dX5_readValue_96 rfl rfl ?_
            obtain ⟨q55, g56, h57⟩ := Option.bind_eq_some_iff.mp h52
            refine mr_cv (pc' := 100) (a := 40) (d1 := 0) dX5_readValue_97 rfl rfl rfl rfl rfl rfl (by decide) rfl (by decide) (ok_X4_write hR rfl g56) ?_
            show mr X _ _ 100 _ [] (MM RR q55) _
            refine mr_iconst (pc' := 101) (v := (1 : Int32)) dX5_readValue_100 rfl (by decide) ?_
            obtain rfl := Option.some.inj h57
            exact mr_zreturn dX5_readValue_101 rfl (by decide)
          · rw [if_neg c54] at h52
            refine mr_if_eq_f (t := 95) (pc' := 91) dX5_readValue_88 (by decide) rfl c54 ?_
            refine mr_iconst (pc' := 92) (v := (2 : Int32)) dX5_readValue_91 rfl (by decide) ?_
            refine mr_goto (t := 96) dX5_readValue_92 (by decide) ?_
            refine mr_iload_n (pc' := 97) dX5_readValue_96 rfl rfl ?_
            obtain ⟨q58, g59, h60⟩ := Option.bind_eq_some_iff.mp h52
            refine mr_cv (pc' := 100) (a := 40) (d1 := 0) dX5_readValue_97 rfl rfl rfl rfl rfl rfl (by decide) rfl (by decide) (ok_X4_write hR rfl g59) ?_
            show mr X _ _ 100 _ [] (MM RR q58) _
            refine mr_iconst (pc' := 101) (v := (1 : Int32)) dX5_readValue_100 rfl (by decide) ?_
            obtain rfl := Option.some.inj h60
            exact mr_zreturn dX5_readValue_101 rfl (by decide)
      · rw [if_neg c49] at h47
        refine mr_if_ge_f (t := 74) (pc' := 72) dX5_readValue_69 (by decide) rfl c49 ?_
        refine mr_iconst (pc' := 73) (v := (0 : Int32)) dX5_readValue_72 rfl (by decide) ?_
        obtain rfl := Option.some.inj h47
        exact mr_zreturn dX5_readValue_73 rfl (by decide)
    · rw [if_neg c48] at h47
      refine mr_if_ge_f (t := 68) (pc' := 48) dX5_readValue_45 (by decide) rfl c48 ?_
      refine mr_iload_n (pc' := 49) dX5_readValue_48 rfl rfl ?_
      by_cases c61 : q4 = (0 : Int32)
      · rw [if_pos c61] at h47
        refine mr_if_ne_f (t := 68) (pc' := 52) dX5_readValue_49 (by decide) rfl (not_not_intro c61) ?_
        refine mr_aload_n (pc' := 53) dX5_readValue_52 rfl rfl ?_
        refine mr_getR (pc' := 56) (ci := 5) (j := 0) (b := 1) hR dX5_readValue_53 rfl rfl rfl (by decide) (by decide) (by decide) rfl rfl ?_
        refine mr_aload_n (pc' := 57) dX5_readValue_56 rfl rfl ?_
        refine mr_getR (pc' := 60) (ci := 5) (j := 0) (b := 1) hR dX5_readValue_57 rfl rfl rfl (by decide) (by decide) (by decide) rfl rfl ?_
        refine mr_getI (pc' := 63) (ci := 7) (j := 2) dX5_readValue_60 rfl rfl rfl (by decide) (by decide) rfl ?_
        refine mr_iconst (pc' := 64) (v := (0 : Int32)) dX5_readValue_63 rfl (by decide) ?_
        obtain ⟨q74, g75, h76⟩ := Option.bind_eq_some_iff.mp h47
        refine mr_cv (pc' := 67) (a := 1) (d1 := 0) dX5_readValue_64 rfl rfl rfl rfl rfl rfl (by decide) rfl (by decide) (ok_X7_fail hR  g75) ?_
        show mr X _ _ 67 _ [.int q74.1] (MM RR q74.2) _
        obtain ⟨z77, g78, h79⟩ := Option.bind_eq_some_iff.mp h76
        obtain ⟨g80, e81⟩ := mm_ifs g78
        cases e81
        cases h79
        exact mr_zreturn dX5_readValue_67 rfl g80
      · rw [if_neg c61] at h47
        refine mr_if_ne_t (t := 68) dX5_readValue_49 (by decide) c61 ?_
        refine mr_iload_n (pc' := 69) dX5_readValue_68 rfl rfl ?_
        by_cases c62 : (0 : Int32) ≤ q45.1
        · rw [if_pos c62] at h47
          refine mr_if_ge_t (t := 74) dX5_readValue_69 (by decide) c62 ?_
          refine mr_aload_n (pc' := 75) dX5_readValue_74 rfl rfl ?_
          obtain ⟨q63, g64, h65⟩ := Option.bind_eq_some_iff.mp h47
          refine mr_cv (pc' := 78) (a := 38) (d1 := 1) dX5_readValue_75 rfl rfl rfl rfl rfl rfl (by decide) rfl (by decide) (ok_X5_isRoomForOne hR  g64) ?_
          show mr X _ _ 78 _ [.int q63.1] (MM RR q63.2) _
          by_cases c66 : q63.1 = (0 : Int32)
          · rw [if_pos c66] at h65
            refine mr_if_ne_f (t := 83) (pc' := 81) dX5_readValue_78 (by decide) rfl (not_not_intro c66) ?_
            refine mr_iconst (pc' := 82) (v := (0 : Int32)) dX5_readValue_81 rfl (by decide) ?_
            obtain rfl := Option.some.inj h65
            exact mr_zreturn dX5_readValue_82 rfl (by decide)
          · rw [if_neg c66] at h65
            refine mr_if_ne_t (t := 83) dX5_readValue_78 (by decide) c66 ?_
            refine mr_aload_n (pc' := 84) dX5_readValue_83 rfl rfl ?_
            refine mr_getR (pc' := 87) (ci := 5) (j := 2) (b := 40) hR dX5_readValue_84 rfl rfl rfl (by decide) (by decide) (by decide) rfl rfl ?_
            refine mr_iload_n (pc' := 88) dX5_readValue_87 rfl rfl ?_
            by_cases c67 : q4 = (0 : Int32)
            · rw [if_pos c67] at h65
              refine mr_if_eq_t (t := 95) dX5_readValue_88 (by decide) c67 ?_
              refine mr_iconst (pc' := 96) (v := (3 : Int32)) dX5_readValue_95 rfl (by decide) ?_
              refine mr_iload_n (pc' := 97) dX5_readValue_96 rfl rfl ?_
              obtain ⟨q68, g69, h70⟩ := Option.bind_eq_some_iff.mp h65
              refine mr_cv (pc' := 100) (a := 40) (d1 := 0) dX5_readValue_97 rfl rfl rfl rfl rfl rfl (by decide) rfl (by decide) (ok_X4_write hR rfl g69) ?_
              show mr X _ _ 100 _ [] (MM RR q68) _
              refine mr_iconst (pc' := 101) (v := (1 : Int32)) dX5_readValue_100 rfl (by decide) ?_
              obtain rfl := Option.some.inj h70
              exact mr_zreturn dX5_readValue_101 rfl (by decide)
            · rw [if_neg c67] at h65
              refine mr_if_eq_f (t := 95) (pc' := 91) dX5_readValue_88 (by decide) rfl c67 ?_
              refine mr_iconst (pc' := 92) (v := (2 : Int32)) dX5_readValue_91 rfl (by decide) ?_
              refine mr_goto (t := 96) dX5_readValue_92 (by decide) ?_
              refine mr_iload_n (pc' := 97) dX5_readValue_96 rfl rfl ?_
              obtain ⟨q71, g72, h73⟩ := Option.bind_eq_some_iff.mp h65
              refine mr_cv (pc' := 100) (a := 40) (d1 := 0) dX5_readValue_97 rfl rfl rfl rfl rfl rfl (by decide) rfl (by decide) (ok_X4_write hR rfl g72) ?_
              show mr X _ _ 100 _ [] (MM RR q71) _
              refine mr_iconst (pc' := 101) (v := (1 : Int32)) dX5_readValue_100 rfl (by decide) ?_
              obtain rfl := Option.some.inj h73
              exact mr_zreturn dX5_readValue_101 rfl (by decide)
        · rw [if_neg c62] at h47
          refine mr_if_ge_f (t := 74) (pc' := 72) dX5_readValue_69 (by decide) rfl c62 ?_
          refine mr_iconst (pc' := 73) (v := (0 : Int32)) dX5_readValue_72 rfl (by decide) ?_
          obtain rfl := Option.some.inj h47
          exact mr_zreturn dX5_readValue_73 rfl (by decide)
def f_X5_takeReckoning  (S : fS) : Option (Int32 × fS) :=
  (f_X7_takeSign (43 : Int32) S).bind fun q1 =>
  if q1.1 = (0 : Int32) then ((f_X7_takeSign (45 : Int32) q1.2).bind fun q5 =>
  if q5.1 = (0 : Int32) then ((f_X7_takeSign (42 : Int32) q5.2).bind fun q9 =>
  if q9.1 = (0 : Int32) then ((f_X7_takeSign (47 : Int32) q9.2).bind fun q13 =>
  if q13.1 = (0 : Int32) then (some ((-1 : Int32), q13.2)) else
  (some ((10 : Int32), q13.2))) else
  (some ((9 : Int32), q9.2))) else
  (some ((8 : Int32), q5.2))) else
  (some ((7 : Int32), q1.2))
set_option maxHeartbeats 4000000 in
set_option maxRecDepth 100000 in
theorem ok_X5_takeReckoning {X : mm_C} {RR : Nat → Nat → Option Nat} (hR : RRok RR)   {S : fS} {r : Int32 × fS} (h : f_X5_takeReckoning  S = some r) : mr X 2 mY_X5_takeReckoning 0 (lv_args 0 [.ref 38]) [] (MM RR S) (some (.int r.1), MM RR r.2) := by
  unfold f_X5_takeReckoning at h
  show mr X _ _ 0 [(0, .ref 38)] [] (MM RR S) _
  refine mr_aload_n (pc' := 1) dX5_takeReckoning_0 rfl rfl ?_
  refine mr_getR (pc' := 4) (ci := 5) (j := 0) (b := 1) hR dX5_takeReckoning_1 rfl rfl rfl (by decide) (by decide) (by decide) rfl rfl ?_
  refine mr_bipush (pc' := 6) (v := (43 : Int32)) dX5_takeReckoning_4 rfl (by decide) ?_
  obtain ⟨q1, g2, h3⟩ := Option.bind_eq_some_iff.mp h
  refine mr_cv (pc' := 9) (a := 1) (d1 := 1) dX5_takeReckoning_6 rfl rfl rfl rfl rfl rfl (by decide) rfl (by decide) (ok_X7_takeSign hR  g2) ?_
  show mr X _ _ 9 _ [.int q1.1] (MM RR q1.2) _
  by_cases c4 : q1.1 = (0 : Int32)
  · rw [if_pos c4] at h3
    refine mr_if_eq_t (t := 15) dX5_takeReckoning_9 (by decide) c4 ?_
    refine mr_aload_n (pc' := 16) dX5_takeReckoning_15 rfl rfl ?_
    refine mr_getR (pc' := 19) (ci := 5) (j := 0) (b := 1) hR dX5_takeReckoning_16 rfl rfl rfl (by decide) (by decide) (by decide) rfl rfl ?_
    refine mr_bipush (pc' := 21) (v := (45 : Int32)) dX5_takeReckoning_19 rfl (by decide) ?_
    obtain ⟨q5, g6, h7⟩ := Option.bind_eq_some_iff.mp h3
    refine mr_cv (pc' := 24) (a := 1) (d1 := 1) dX5_takeReckoning_21 rfl rfl rfl rfl rfl rfl (by decide) rfl (by decide) (ok_X7_takeSign hR  g6) ?_
    show mr X _ _ 24 _ [.int q5.1] (MM RR q5.2) _
    by_cases c8 : q5.1 = (0 : Int32)
    · rw [if_pos c8] at h7
      refine mr_if_eq_t (t := 30) dX5_takeReckoning_24 (by decide) c8 ?_
      refine mr_aload_n (pc' := 31) dX5_takeReckoning_30 rfl rfl ?_
      refine mr_getR (pc' := 34) (ci := 5) (j := 0) (b := 1) hR dX5_takeReckoning_31 rfl rfl rfl (by decide) (by decide) (by decide) rfl rfl ?_
      refine mr_bipush (pc' := 36) (v := (42 : Int32)) dX5_takeReckoning_34 rfl (by decide) ?_
      obtain ⟨q9, g10, h11⟩ := Option.bind_eq_some_iff.mp h7
      refine mr_cv (pc' := 39) (a := 1) (d1 := 1) dX5_takeReckoning_36 rfl rfl rfl rfl rfl rfl (by decide) rfl (by decide) (ok_X7_takeSign hR  g10) ?_
      show mr X _ _ 39 _ [.int q9.1] (MM RR q9.2) _
      by_cases c12 : q9.1 = (0 : Int32)
      · rw [if_pos c12] at h11
        refine mr_if_eq_t (t := 45) dX5_takeReckoning_39 (by decide) c12 ?_
        refine mr_aload_n (pc' := 46) dX5_takeReckoning_45 rfl rfl ?_
        refine mr_getR (pc' := 49) (ci := 5) (j := 0) (b := 1) hR dX5_takeReckoning_46 rfl rfl rfl (by decide) (by decide) (by decide) rfl rfl ?_
        refine mr_bipush (pc' := 51) (v := (47 : Int32)) dX5_takeReckoning_49 rfl (by decide) ?_
        obtain ⟨q13, g14, h15⟩ := Option.bind_eq_some_iff.mp h11
        refine mr_cv (pc' := 54) (a := 1) (d1 := 1) dX5_takeReckoning_51 rfl rfl rfl rfl rfl rfl (by decide) rfl (by decide) (ok_X7_takeSign hR  g14) ?_
        show mr X _ _ 54 _ [.int q13.1] (MM RR q13.2) _
        by_cases c16 : q13.1 = (0 : Int32)
        · rw [if_pos c16] at h15
          refine mr_if_eq_t (t := 62) dX5_takeReckoning_54 (by decide) c16 ?_
          refine mr_iconst (pc' := 63) (v := (-1 : Int32)) dX5_takeReckoning_62 rfl (by decide) ?_
          obtain rfl := Option.some.inj h15
          exact mr_ireturn dX5_takeReckoning_63 rfl
        · rw [if_neg c16] at h15
          refine mr_if_eq_f (t := 62) (pc' := 57) dX5_takeReckoning_54 (by decide) rfl c16 ?_
          refine mr_bipush (pc' := 59) (v := (10 : Int32)) dX5_takeReckoning_57 rfl (by decide) ?_
          refine mr_goto (t := 63) dX5_takeReckoning_59 (by decide) ?_
          obtain rfl := Option.some.inj h15
          exact mr_ireturn dX5_takeReckoning_63 rfl
      · rw [if_neg c12] at h11
        refine mr_if_eq_f (t := 45) (pc' := 42) dX5_takeReckoning_39 (by decide) rfl c12 ?_
        refine mr_bipush (pc' := 44) (v := (9 : Int32)) dX5_takeReckoning_42 rfl (by decide) ?_
        obtain rfl := Option.some.inj h11
        exact mr_ireturn dX5_takeReckoning_44 rfl
    · rw [if_neg c8] at h7
      refine mr_if_eq_f (t := 30) (pc' := 27) dX5_takeReckoning_24 (by decide) rfl c8 ?_
      refine mr_bipush (pc' := 29) (v := (8 : Int32)) dX5_takeReckoning_27 rfl (by decide) ?_
      obtain rfl := Option.some.inj h7
      exact mr_ireturn dX5_takeReckoning_29 rfl
  · rw [if_neg c4] at h3
    refine mr_if_eq_f (t := 15) (pc' := 12) dX5_takeReckoning_9 (by decide) rfl c4 ?_
    refine mr_bipush (pc' := 14) (v := (7 : Int32)) dX5_takeReckoning_12 rfl (by decide) ?_
    obtain rfl := Option.some.inj h3
    exact mr_ireturn dX5_takeReckoning_14 rfl
def lp_X5_settle_0 (p1 : Int32) (K : fS → Option (fS)) : Nat → fS → Option (fS)
  | 0, _ => none
  | n + 1, S0 =>
    if (S0.1 38 4) ≤ (0 : Int32) then (K S0) else
    ((gI S0 39 64 ((S0.1 38 4) - (1 : Int32))).bind fun a2 =>
    (gB a2).bind fun a5 =>
    if a5 < p1 then (K S0) else
    ((some (pI S0 38 4 ((S0.1 38 4) - (1 : Int32)))).bind fun S9 =>
    (gI S9 39 64 (S9.1 38 4)).bind fun a12 =>
    (f_X4_write 40 a12 (0 : Int32) S9).bind fun q15 =>
    (gI q15 39 64 (q15.1 38 4)).bind fun a18 =>
    if a18 = (4 : Int32) then ((some (pI q15 38 6 ((q15.1 38 6) - (1 : Int32)))).bind fun S25 =>
    lp_X5_settle_0 p1 K n  S25) else
    ((some (pI q15 38 6 ((q15.1 38 6) - (0 : Int32)))).bind fun S22 =>
    lp_X5_settle_0 p1 K n  S22)))
set_option maxHeartbeats 4000000 in
set_option maxRecDepth 100000 in
theorem ok_lp_X5_settle_0 {X : mm_C} {RR : Nat → Nat → Option Nat} (hR : RRok RR) {p1 : Int32}  {K : fS → Option (fS)} {r : fS} (hK : ∀ (Sk : fS), K Sk = some r → mr X 1 mY_X5_settle 83 [] [] (MM RR Sk) (none, MM RR r)) : ∀ (n : Nat) (S0 : fS), lp_X5_settle_0 p1 K n S0 = some r → mr X 1 mY_X5_settle 0 [(0, .ref 38), (1, .int p1)] [] (MM RR S0) (none, MM RR r) := by
  intro n
  induction n with
  | zero => intro S0 h; exact mm_no h
  | succ n ih =>
    intro S0 h
    unfold lp_X5_settle_0 at h
    refine mr_aload_n (pc' := 1) dX5_settle_0 rfl rfl ?_
    refine mr_getI (pc' := 4) (ci := 5) (j := 4) dX5_settle_1 rfl rfl rfl (by decide) (by decide) rfl ?_
    by_cases c1 : (S0.1 38 4) ≤ (0 : Int32)
    · rw [if_pos c1] at h
      refine mr_if_le_t (t := 83) dX5_settle_4 (by decide) c1 ?_
      exact mr_sub [] trivial rfl (hK _  h)
    · rw [if_neg c1] at h
      refine mr_if_le_f (t := 83) (pc' := 7) dX5_settle_4 (by decide) rfl c1 ?_
      refine mr_tget (pc' := 10) rfl dX5_settle_7 rfl ?_
      refine mr_aload_n (pc' := 11) dX5_settle_10 rfl rfl ?_
      refine mr_getR (pc' := 14) (ci := 5) (j := 1) (b := 39) hR dX5_settle_11 rfl rfl rfl (by decide) (by decide) (by decide) rfl rfl ?_
      refine mr_aload_n (pc' := 15) dX5_settle_14 rfl rfl ?_
      refine mr_getI (pc' := 18) (ci := 5) (j := 4) dX5_settle_15 rfl rfl rfl (by decide) (by decide) rfl ?_
      refine mr_iconst (pc' := 19) (v := (1 : Int32)) dX5_settle_18 rfl (by decide) ?_
      refine mr_isub (pc' := 20) dX5_settle_19 rfl ?_
      obtain ⟨a2, g3, h4⟩ := Option.bind_eq_some_iff.mp h
      refine mr_iald (pc' := 21) dX5_settle_20 rfl rfl rfl g3 ?_
      obtain ⟨a5, g6, h7⟩ := Option.bind_eq_some_iff.mp h4
      refine mr_tald (pc' := 22) dX5_settle_21 rfl g6 ?_
      refine mr_iload_n (pc' := 23) dX5_settle_22 rfl rfl ?_
      by_cases c8 : a5 < p1
      · rw [if_pos c8] at h7
        refine mr_icmp_lt_t (t := 83) dX5_settle_23 (by decide) c8 ?_
        exact mr_sub [] trivial rfl (hK _  h7)
      · rw [if_neg c8] at h7
        refine mr_icmp_lt_f (t := 83) (pc' := 26) dX5_settle_23 (by decide) rfl c8 ?_
        refine mr_aload_n (pc' := 27) dX5_settle_26 rfl rfl ?_
        refine mr_dup_ref (pc' := 28) dX5_settle_27 rfl ?_
        refine mr_getI (pc' := 31) (ci := 5) (j := 4) dX5_settle_28 rfl rfl rfl (by decide) (by decide) rfl ?_
        refine mr_iconst (pc' := 32) (v := (1 : Int32)) dX5_settle_31 rfl (by decide) ?_
        refine mr_isub (pc' := 33) dX5_settle_32 rfl ?_
        obtain ⟨S9, g10, h11⟩ := Option.bind_eq_some_iff.mp h7
        refine mr_putI (pc' := 36) (ci := 5) (j := 4) dX5_settle_33 rfl rfl rfl (by decide) (by decide) rfl rfl ?_
        rw [Option.some.inj g10]
        refine mr_aload_n (pc' := 37) dX5_settle_36 rfl rfl ?_
        refine mr_getR (pc' := 40) (ci := 5) (j := 2) (b := 40) hR dX5_settle_37 rfl rfl rfl (by decide) (by decide) (by decide) rfl rfl ?_
        refine mr_aload_n (pc' := 41) dX5_settle_40 rfl rfl ?_
        refine mr_getR (pc' := 44) (ci := 5) (j := 1) (b := 39) hR dX5_settle_41 rfl rfl rfl (by decide) (by decide) (by decide) rfl rfl ?_
        refine mr_aload_n (pc' := 45) dX5_settle_44 rfl rfl ?_
        refine mr_getI (pc' := 48) (ci := 5) (j := 4) dX5_settle_45 rfl rfl rfl (by decide) (by decide) rfl ?_
        obtain ⟨a12, g13, h14⟩ := Option.bind_eq_some_iff.mp h11
        refine mr_iald (pc' := 49) dX5_settle_48 rfl rfl rfl g13 ?_
        refine mr_iconst (pc' := 50) (v := (0 : Int32)) dX5_settle_49 rfl (by decide) ?_
        obtain ⟨q15, g16, h17⟩ := Option.bind_eq_some_iff.mp h14
        refine mr_cv (pc' := 53) (a := 40) (d1 := 0) dX5_settle_50 rfl rfl rfl rfl rfl rfl (by decide) rfl (by decide) (ok_X4_write hR rfl g16) ?_
        show mr X _ _ 53 _ [] (MM RR q15) _
        refine mr_aload_n (pc' := 54) dX5_settle_53 rfl rfl ?_
        refine mr_dup_ref (pc' := 55) dX5_settle_54 rfl ?_
        refine mr_getI (pc' := 58) (ci := 5) (j := 6) dX5_settle_55 rfl rfl rfl (by decide) (by decide) rfl ?_
        refine mr_aload_n (pc' := 59) dX5_settle_58 rfl rfl ?_
        refine mr_getR (pc' := 62) (ci := 5) (j := 1) (b := 39) hR dX5_settle_59 rfl rfl rfl (by decide) (by decide) (by decide) rfl rfl ?_
        refine mr_aload_n (pc' := 63) dX5_settle_62 rfl rfl ?_
        refine mr_getI (pc' := 66) (ci := 5) (j := 4) dX5_settle_63 rfl rfl rfl (by decide) (by decide) rfl ?_
        obtain ⟨a18, g19, h20⟩ := Option.bind_eq_some_iff.mp h17
        refine mr_iald (pc' := 67) dX5_settle_66 rfl rfl rfl g19 ?_
        refine mr_iconst (pc' := 68) (v := (4 : Int32)) dX5_settle_67 rfl (by decide) ?_
        by_cases c21 : a18 = (4 : Int32)
        · rw [if_pos c21] at h20
          refine mr_icmp_ne_f (t := 75) (pc' := 71) dX5_settle_68 (by decide) rfl (not_not_intro c21) ?_
          refine mr_iconst (pc' := 72) (v := (1 : Int32)) dX5_settle_71 rfl (by decide) ?_
          refine mr_goto (t := 76) dX5_settle_72 (by decide) ?_
          refine mr_isub (pc' := 77) dX5_settle_76 rfl ?_
          obtain ⟨S25, g26, h27⟩ := Option.bind_eq_some_iff.mp h20
          refine mr_putI (pc' := 80) (ci := 5) (j := 6) dX5_settle_77 rfl rfl rfl (by decide) (by decide) rfl rfl ?_
          rw [Option.some.inj g26]
          refine mr_goto (t := 0) dX5_settle_80 (by decide) ?_
          exact mr_sub [(0, .ref 38), (1, .int p1)] ⟨rfl, rfl, trivial⟩ rfl (ih _  h27)
        · rw [if_neg c21] at h20
          refine mr_icmp_ne_t (t := 75) dX5_settle_68 (by decide) c21 ?_
          refine mr_iconst (pc' := 76) (v := (0 : Int32)) dX5_settle_75 rfl (by decide) ?_
          refine mr_isub (pc' := 77) dX5_settle_76 rfl ?_
          obtain ⟨S22, g23, h24⟩ := Option.bind_eq_some_iff.mp h20
          refine mr_putI (pc' := 80) (ci := 5) (j := 6) dX5_settle_77 rfl rfl rfl (by decide) (by decide) rfl rfl ?_
          rw [Option.some.inj g23]
          refine mr_goto (t := 0) dX5_settle_80 (by decide) ?_
          exact mr_sub [(0, .ref 38), (1, .int p1)] ⟨rfl, rfl, trivial⟩ rfl (ih _  h24)
def f_X5_settle (v1 : Int32) (S : fS) : Option (fS) :=
  lp_X5_settle_0 v1 (fun S28 => some S28) FU  S
set_option maxHeartbeats 4000000 in
set_option maxRecDepth 100000 in
theorem ok_X5_settle {X : mm_C} {RR : Nat → Nat → Option Nat} (hR : RRok RR) {v1 : Int32}  {S : fS} {r : fS} (h : f_X5_settle v1 S = some r) : mr X 1 mY_X5_settle 0 (lv_args 0 [.ref 38, .int v1]) [] (MM RR S) (none, MM RR r) := by
  unfold f_X5_settle at h
  show mr X _ _ 0 [(0, .ref 38), (1, .int v1)] [] (MM RR S) _
  refine mr_sub [(0, .ref 38), (1, .int v1)] ⟨rfl, rfl, trivial⟩ rfl ?_
  refine ok_lp_X5_settle_0 hR  (fun S28 h29 => ?_) FU _  h
  obtain rfl := Option.some.inj h29
  exact mr_return dX5_settle_83 rfl
def f_J9_max_7cf53 (v0 : Int32) (v1 : Int32) (S : fS) : Option (Int32) :=
  if v0 < v1 then (some v1) else
  (some v0)
set_option maxHeartbeats 4000000 in
set_option maxRecDepth 100000 in
theorem ok_J9_max_7cf53 {X : mm_C} {RR : Nat → Nat → Option Nat} (hR : RRok RR) {v0 : Int32} {v1 : Int32}  {S : fS} {r : Int32} (h : f_J9_max_7cf53 v0 v1 S = some r) : mr X 0 mY_J9_max_7cf53 0 (lv_args 0 [.int v0, .int v1]) [] (MM RR S) (some (.int r), MM RR S) := by
  unfold f_J9_max_7cf53 at h
  show mr X _ _ 0 [(0, .int v0), (1, .int v1)] [] (MM RR S) _
  refine mr_iload_n (pc' := 1) dJ9_max_7cf53_0 rfl rfl ?_
  refine mr_iload_n (pc' := 2) dJ9_max_7cf53_1 rfl rfl ?_
  by_cases c1 : v0 < v1
  · rw [if_pos c1] at h
    refine mr_icmp_lt_t (t := 9) dJ9_max_7cf53_2 (by decide) c1 ?_
    refine mr_iload_n (pc' := 10) dJ9_max_7cf53_9 rfl rfl ?_
    obtain rfl := Option.some.inj h
    exact mr_ireturn dJ9_max_7cf53_10 rfl
  · rw [if_neg c1] at h
    refine mr_icmp_lt_f (t := 9) (pc' := 5) dJ9_max_7cf53_2 (by decide) rfl c1 ?_
    refine mr_iload_n (pc' := 6) dJ9_max_7cf53_5 rfl rfl ?_
    refine mr_goto (t := 10) dJ9_max_7cf53_6 (by decide) ?_
    obtain rfl := Option.some.inj h
    exact mr_ireturn dJ9_max_7cf53_10 rfl
def lp_X5_closeBrackets_0  (K : fS → Option (fS)) : Nat → fS → Option (fS)
  | 0, _ => none
  | n + 1, S0 =>
    if (S0.1 38 5) ≤ (0 : Int32) then (K S0) else
    ((f_X7_takeSign (93 : Int32) S0).bind fun q2 =>
    if q2.1 = (0 : Int32) then (K q2.2) else
    ((gB (6 : Int32)).bind fun a6 =>
    (f_X5_settle a6 q2.2).bind fun q9 =>
    (f_J9_max_7cf53 ((q9.1 38 4) - (1 : Int32)) (0 : Int32) q9).bind fun q12 =>
    (some (pI q9 38 4 q12)).bind fun S15 =>
    (some (pI S15 38 6 ((S15.1 38 6) - (1 : Int32)))).bind fun S18 =>
    (some (pI S18 38 5 ((S18.1 38 5) - (1 : Int32)))).bind fun S21 =>
    lp_X5_closeBrackets_0  K n  S21))
set_option maxHeartbeats 4000000 in
set_option maxRecDepth 100000 in
theorem ok_lp_X5_closeBrackets_0 {X : mm_C} {RR : Nat → Nat → Option Nat} (hR : RRok RR)   {K : fS → Option (fS)} {r : fS} (hK : ∀ (Sk : fS), K Sk = some r → mr X 2 mY_X5_closeBrackets 66 [] [] (MM RR Sk) (none, MM RR r)) : ∀ (n : Nat) (S0 : fS), lp_X5_closeBrackets_0  K n S0 = some r → mr X 2 mY_X5_closeBrackets 0 [(0, .ref 38)] [] (MM RR S0) (none, MM RR r) := by
  intro n
  induction n with
  | zero => intro S0 h; exact mm_no h
  | succ n ih =>
    intro S0 h
    unfold lp_X5_closeBrackets_0 at h
    refine mr_aload_n (pc' := 1) dX5_closeBrackets_0 rfl rfl ?_
    refine mr_getI (pc' := 4) (ci := 5) (j := 5) dX5_closeBrackets_1 rfl rfl rfl (by decide) (by decide) rfl ?_
    by_cases c1 : (S0.1 38 5) ≤ (0 : Int32)
    · rw [if_pos c1] at h
      refine mr_if_le_t (t := 66) dX5_closeBrackets_4 (by decide) c1 ?_
      exact mr_sub [] trivial rfl (hK _  h)
    · rw [if_neg c1] at h
      refine mr_if_le_f (t := 66) (pc' := 7) dX5_closeBrackets_4 (by decide) rfl c1 ?_
      refine mr_aload_n (pc' := 8) dX5_closeBrackets_7 rfl rfl ?_
      refine mr_getR (pc' := 11) (ci := 5) (j := 0) (b := 1) hR dX5_closeBrackets_8 rfl rfl rfl (by decide) (by decide) (by decide) rfl rfl ?_
      refine mr_bipush (pc' := 13) (v := (93 : Int32)) dX5_closeBrackets_11 rfl (by decide) ?_
      obtain ⟨q2, g3, h4⟩ := Option.bind_eq_some_iff.mp h
      refine mr_cv (pc' := 16) (a := 1) (d1 := 1) dX5_closeBrackets_13 rfl rfl rfl rfl rfl rfl (by decide) rfl (by decide) (ok_X7_takeSign hR  g3) ?_
      show mr X _ _ 16 _ [.int q2.1] (MM RR q2.2) _
      by_cases c5 : q2.1 = (0 : Int32)
      · rw [if_pos c5] at h4
        refine mr_if_eq_t (t := 66) dX5_closeBrackets_16 (by decide) c5 ?_
        exact mr_sub [] trivial rfl (hK _  h4)
      · rw [if_neg c5] at h4
        refine mr_if_eq_f (t := 66) (pc' := 19) dX5_closeBrackets_16 (by decide) rfl c5 ?_
        refine mr_aload_n (pc' := 20) dX5_closeBrackets_19 rfl rfl ?_
        refine mr_tget (pc' := 23) rfl dX5_closeBrackets_20 rfl ?_
        refine mr_bipush (pc' := 25) (v := (6 : Int32)) dX5_closeBrackets_23 rfl (by decide) ?_
        obtain ⟨a6, g7, h8⟩ := Option.bind_eq_some_iff.mp h4
        refine mr_tald (pc' := 26) dX5_closeBrackets_25 rfl g7 ?_
        obtain ⟨q9, g10, h11⟩ := Option.bind_eq_some_iff.mp h8
        refine mr_cv (pc' := 29) (a := 38) (d1 := 1) dX5_closeBrackets_26 rfl rfl rfl rfl rfl rfl (by decide) rfl (by decide) (ok_X5_settle hR  g10) ?_
        show mr X _ _ 29 _ [] (MM RR q9) _
        refine mr_aload_n (pc' := 30) dX5_closeBrackets_29 rfl rfl ?_
        refine mr_aload_n (pc' := 31) dX5_closeBrackets_30 rfl rfl ?_
        refine mr_getI (pc' := 34) (ci := 5) (j := 4) dX5_closeBrackets_31 rfl rfl rfl (by decide) (by decide) rfl ?_
        refine mr_iconst (pc' := 35) (v := (1 : Int32)) dX5_closeBrackets_34 rfl (by decide) ?_
        refine mr_isub (pc' := 36) dX5_closeBrackets_35 rfl ?_
        refine mr_iconst (pc' := 37) (v := (0 : Int32)) dX5_closeBrackets_36 rfl (by decide) ?_
        obtain ⟨q12, g13, h14⟩ := Option.bind_eq_some_iff.mp h11
        refine mr_cs (pc' := 40) (d1 := 0) dX5_closeBrackets_37 rfl rfl rfl rfl (by decide) (Nat.le_of_ble_eq_true rfl) rfl rfl rfl (by decide) (ok_J9_max_7cf53 hR  g13) ?_
        show mr X _ _ 40 _ [.int q12, .ref 38] (MM RR q9) _
        obtain ⟨S15, g16, h17⟩ := Option.bind_eq_some_iff.mp h14
        refine mr_putI (pc' := 43) (ci := 5) (j := 4) dX5_closeBrackets_40 rfl rfl rfl (by decide) (by decide) rfl rfl ?_
        rw [Option.some.inj g16]
        refine mr_aload_n (pc' := 44) dX5_closeBrackets_43 rfl rfl ?_
        refine mr_dup_ref (pc' := 45) dX5_closeBrackets_44 rfl ?_
        refine mr_getI (pc' := 48) (ci := 5) (j := 6) dX5_closeBrackets_45 rfl rfl rfl (by decide) (by decide) rfl ?_
        refine mr_iconst (pc' := 49) (v := (1 : Int32)) dX5_closeBrackets_48 rfl (by decide) ?_
        refine mr_isub (pc' := 50) dX5_closeBrackets_49 rfl ?_
        obtain ⟨S18, g19, h20⟩ := Option.bind_eq_some_iff.mp h17
        refine mr_putI (pc' := 53) (ci := 5) (j := 6) dX5_closeBrackets_50 rfl rfl rfl (by decide) (by decide) rfl rfl ?_
        rw [Option.some.inj g19]
        refine mr_aload_n (pc' := 54) dX5_closeBrackets_53 rfl rfl ?_
        refine mr_dup_ref (pc' := 55) dX5_closeBrackets_54 rfl ?_
        refine mr_getI (pc' := 58) (ci := 5) (j := 5) dX5_closeBrackets_55 rfl rfl rfl (by decide) (by decide) rfl ?_
        refine mr_iconst (pc' := 59) (v := (1 : Int32)) dX5_closeBrackets_58 rfl (by decide) ?_
        refine mr_isub (pc' := 60) dX5_closeBrackets_59 rfl ?_
        obtain ⟨S21, g22, h23⟩ := Option.bind_eq_some_iff.mp h20
        refine mr_putI (pc' := 63) (ci := 5) (j := 5) dX5_closeBrackets_60 rfl rfl rfl (by decide) (by decide) rfl rfl ?_
        rw [Option.some.inj g22]
        refine mr_goto (t := 0) dX5_closeBrackets_63 (by decide) ?_
        exact mr_sub [(0, .ref 38)] ⟨rfl, trivial⟩ rfl (ih _  h23)
def f_X5_closeBrackets  (S : fS) : Option (fS) :=
  lp_X5_closeBrackets_0  (fun S24 => some S24) FU  S
set_option maxHeartbeats 4000000 in
set_option maxRecDepth 100000 in
theorem ok_X5_closeBrackets {X : mm_C} {RR : Nat → Nat → Option Nat} (hR : RRok RR)   {S : fS} {r : fS} (h : f_X5_closeBrackets  S = some r) : mr X 2 mY_X5_closeBrackets 0 (lv_args 0 [.ref 38]) [] (MM RR S) (none, MM RR r) := by
  unfold f_X5_closeBrackets at h
  show mr X _ _ 0 [(0, .ref 38)] [] (MM RR S) _
  refine mr_sub [(0, .ref 38)] ⟨rfl, trivial⟩ rfl ?_
  refine ok_lp_X5_closeBrackets_0 hR  (fun S24 h25 => ?_) FU _  h
  obtain rfl := Option.some.inj h25
  exact mr_return dX5_closeBrackets_66 rfl
def f_X5_takeJoining  (S : fS) : Option (Int32 × fS) :=
  (f_X7_takeWord 14 S).bind fun q1 =>
  if q1.1 = (0 : Int32) then ((f_X7_takeWord 15 q1.2).bind fun q5 =>
  if q5.1 = (0 : Int32) then (some ((-1 : Int32), q5.2)) else
  (some ((6 : Int32), q5.2))) else
  (some ((5 : Int32), q1.2))
set_option maxHeartbeats 4000000 in
set_option maxRecDepth 100000 in
theorem ok_X5_takeJoining {X : mm_C} {RR : Nat → Nat → Option Nat} (hR : RRok RR)   {S : fS} {r : Int32 × fS} (h : f_X5_takeJoining  S = some r) : mr X 5 mY_X5_takeJoining 0 (lv_args 0 [.ref 38]) [] (MM RR S) (some (.int r.1), MM RR r.2) := by
  unfold f_X5_takeJoining at h
  show mr X _ _ 0 [(0, .ref 38)] [] (MM RR S) _
  refine mr_aload_n (pc' := 1) dX5_takeJoining_0 rfl rfl ?_
  refine mr_getR (pc' := 4) (ci := 5) (j := 0) (b := 1) hR dX5_takeJoining_1 rfl rfl rfl (by decide) (by decide) (by decide) rfl rfl ?_
  refine mr_ldcS (pc' := 6) (i := 14) dX5_takeJoining_4 rfl rfl rfl ?_
  obtain ⟨q1, g2, h3⟩ := Option.bind_eq_some_iff.mp h
  refine mr_cv (pc' := 9) (a := 1) (d1 := 4) dX5_takeJoining_6 rfl rfl rfl rfl rfl rfl (by decide) rfl (by decide) (ok_X7_takeWord hR (by decide) g2) ?_
  show mr X _ _ 9 _ [.int q1.1] (MM RR q1.2) _
  by_cases c4 : q1.1 = (0 : Int32)
  · rw [if_pos c4] at h3
    refine mr_if_eq_t (t := 14) dX5_takeJoining_9 (by decide) c4 ?_
    refine mr_aload_n (pc' := 15) dX5_takeJoining_14 rfl rfl ?_
    refine mr_getR (pc' := 18) (ci := 5) (j := 0) (b := 1) hR dX5_takeJoining_15 rfl rfl rfl (by decide) (by decide) (by decide) rfl rfl ?_
    refine mr_ldcS (pc' := 20) (i := 15) dX5_takeJoining_18 rfl rfl rfl ?_
    obtain ⟨q5, g6, h7⟩ := Option.bind_eq_some_iff.mp h3
    refine mr_cv (pc' := 23) (a := 1) (d1 := 4) dX5_takeJoining_20 rfl rfl rfl rfl rfl rfl (by decide) rfl (by decide) (ok_X7_takeWord hR (by decide) g6) ?_
    show mr X _ _ 23 _ [.int q5.1] (MM RR q5.2) _
    by_cases c8 : q5.1 = (0 : Int32)
    · rw [if_pos c8] at h7
      refine mr_if_eq_t (t := 31) dX5_takeJoining_23 (by decide) c8 ?_
      refine mr_iconst (pc' := 32) (v := (-1 : Int32)) dX5_takeJoining_31 rfl (by decide) ?_
      obtain rfl := Option.some.inj h7
      exact mr_ireturn dX5_takeJoining_32 rfl
    · rw [if_neg c8] at h7
      refine mr_if_eq_f (t := 31) (pc' := 26) dX5_takeJoining_23 (by decide) rfl c8 ?_
      refine mr_bipush (pc' := 28) (v := (6 : Int32)) dX5_takeJoining_26 rfl (by decide) ?_
      refine mr_goto (t := 32) dX5_takeJoining_28 (by decide) ?_
      obtain rfl := Option.some.inj h7
      exact mr_ireturn dX5_takeJoining_32 rfl
  · rw [if_neg c4] at h3
    refine mr_if_eq_f (t := 14) (pc' := 12) dX5_takeJoining_9 (by decide) rfl c4 ?_
    refine mr_iconst (pc' := 13) (v := (5 : Int32)) dX5_takeJoining_12 rfl (by decide) ?_
    obtain rfl := Option.some.inj h3
    exact mr_ireturn dX5_takeJoining_13 rfl
def f_X5_isTestOver  (S : fS) : Option (Int32 × fS) :=
  (gB (6 : Int32)).bind fun a1 =>
  (f_X5_settle a1 S).bind fun q4 =>
  if (q4.1 38 5) = (0 : Int32) then (some ((1 : Int32), q4)) else
  ((f_X7_fail (q4.1 1 2) (0 : Int32) q4).bind fun q8 =>
  if q8.1 = (0 : Int32) then (some ((0 : Int32), q8.2)) else
  (some ((1 : Int32), q8.2)))
set_option maxHeartbeats 4000000 in
set_option maxRecDepth 100000 in
theorem ok_X5_isTestOver {X : mm_C} {RR : Nat → Nat → Option Nat} (hR : RRok RR)   {S : fS} {r : Int32 × fS} (h : f_X5_isTestOver  S = some r) : mr X 2 mY_X5_isTestOver 0 (lv_args 0 [.ref 38]) [] (MM RR S) (some (.int r.1), MM RR r.2) := by
  unfold f_X5_isTestOver at h
  show mr X _ _ 0 [(0, .ref 38)] [] (MM RR S) _
  refine mr_aload_n (pc' := 1) dX5_isTestOver_0 rfl rfl ?_
  refine mr_tget (pc' := 4) rfl dX5_isTestOver_1 rfl ?_
  refine mr_bipush (pc' := 6) (v := (6 : Int32)) dX5_isTestOver_4 rfl (by decide) ?_
  obtain ⟨a1, g2, h3⟩ := Option.bind_eq_some_iff.mp h
  refine mr_tald (pc' := 7) dX5_isTestOver_6 rfl g2 ?_
  obtain ⟨q4, g5, h6⟩ := Option.bind_eq_some_iff.mp h3
  refine mr_cv (pc' := 10) (a := 38) (d1 := 1) dX5_isTestOver_7 rfl rfl rfl rfl rfl rfl (by decide) rfl (by decide) (ok_X5_settle hR  g5) ?_
  show mr X _ _ 10 _ [] (MM RR q4) _
  refine mr_aload_n (pc' := 11) dX5_isTestOver_10 rfl rfl ?_
  refine mr_getI (pc' := 14) (ci := 5) (j := 5) dX5_isTestOver_11 rfl rfl rfl (by decide) (by decide) rfl ?_
  by_cases c7 : (q4.1 38 5) = (0 : Int32)
  · rw [if_pos c7] at h6
    refine mr_if_eq_t (t := 35) dX5_isTestOver_14 (by decide) c7 ?_
    refine mr_iconst (pc' := 36) (v := (1 : Int32)) dX5_isTestOver_35 rfl (by decide) ?_
    refine mr_goto (t := 40) dX5_isTestOver_36 (by decide) ?_
    obtain rfl := Option.some.inj h6
    exact mr_zreturn dX5_isTestOver_40 rfl (by decide)
  · rw [if_neg c7] at h6
    refine mr_if_eq_f (t := 35) (pc' := 17) dX5_isTestOver_14 (by decide) rfl c7 ?_
    refine mr_aload_n (pc' := 18) dX5_isTestOver_17 rfl rfl ?_
    refine mr_getR (pc' := 21) (ci := 5) (j := 0) (b := 1) hR dX5_isTestOver_18 rfl rfl rfl (by decide) (by decide) (by decide) rfl rfl ?_
    refine mr_aload_n (pc' := 22) dX5_isTestOver_21 rfl rfl ?_
    refine mr_getR (pc' := 25) (ci := 5) (j := 0) (b := 1) hR dX5_isTestOver_22 rfl rfl rfl (by decide) (by decide) (by decide) rfl rfl ?_
    refine mr_getI (pc' := 28) (ci := 7) (j := 2) dX5_isTestOver_25 rfl rfl rfl (by decide) (by decide) rfl ?_
    refine mr_iconst (pc' := 29) (v := (0 : Int32)) dX5_isTestOver_28 rfl (by decide) ?_
    obtain ⟨q8, g9, h10⟩ := Option.bind_eq_some_iff.mp h6
    refine mr_cv (pc' := 32) (a := 1) (d1 := 0) dX5_isTestOver_29 rfl rfl rfl rfl rfl rfl (by decide) rfl (by decide) (ok_X7_fail hR  g9) ?_
    show mr X _ _ 32 _ [.int q8.1] (MM RR q8.2) _
    by_cases c11 : q8.1 = (0 : Int32)
    · rw [if_pos c11] at h10
      refine mr_if_eq_t (t := 39) dX5_isTestOver_32 (by decide) c11 ?_
      refine mr_iconst (pc' := 40) (v := (0 : Int32)) dX5_isTestOver_39 rfl (by decide) ?_
      obtain rfl := Option.some.inj h10
      exact mr_zreturn dX5_isTestOver_40 rfl (by decide)
    · rw [if_neg c11] at h10
      refine mr_if_eq_f (t := 39) (pc' := 35) dX5_isTestOver_32 (by decide) rfl c11 ?_
      refine mr_iconst (pc' := 36) (v := (1 : Int32)) dX5_isTestOver_35 rfl (by decide) ?_
      refine mr_goto (t := 40) dX5_isTestOver_36 (by decide) ?_
      obtain rfl := Option.some.inj h10
      exact mr_zreturn dX5_isTestOver_40 rfl (by decide)
def f_X5_takeComparing  (S : fS) : Option (Int32 × fS) :=
  (f_X7_takeSign (61 : Int32) S).bind fun q1 =>
  if q1.1 = (0 : Int32) then ((f_X7_takeSign (60 : Int32) q1.2).bind fun q5 =>
  if q5.1 = (0 : Int32) then ((f_X7_takeSign (62 : Int32) q5.2).bind fun q18 =>
  if q18.1 = (0 : Int32) then (some ((-1 : Int32), q18.2)) else
  ((f_X7_byteAt (q18.2.1 1 2) q18.2).bind fun q22 =>
  if q22 = (61 : Int32) then ((some (pI q18.2 1 2 ((q18.2.1 1 2) + (1 : Int32)))).bind fun S26 =>
  if q5.1 = (0 : Int32) then (some ((14 : Int32), S26)) else
  (some ((12 : Int32), S26))) else
  (if q5.1 = (0 : Int32) then (some ((15 : Int32), q18.2)) else
  (some ((11 : Int32), q18.2))))) else
  ((f_X7_byteAt (q5.2.1 1 2) q5.2).bind fun q9 =>
  if q9 = (61 : Int32) then ((some (pI q5.2 1 2 ((q5.2.1 1 2) + (1 : Int32)))).bind fun S13 =>
  if q5.1 = (0 : Int32) then (some ((14 : Int32), S13)) else
  (some ((12 : Int32), S13))) else
  (if q5.1 = (0 : Int32) then (some ((15 : Int32), q5.2)) else
  (some ((11 : Int32), q5.2))))) else
  (some ((13 : Int32), q1.2))
set_option maxHeartbeats 4000000 in
set_option maxRecDepth 100000 in
theorem ok_X5_takeComparing {X : mm_C} {RR : Nat → Nat → Option Nat} (hR : RRok RR)   {S : fS} {r : Int32 × fS} (h : f_X5_takeComparing  S = some r) : mr X 2 mY_X5_takeComparing 0 (lv_args 0 [.ref 38]) [] (MM RR S) (some (.int r.1), MM RR r.2) := by
  unfold f_X5_takeComparing at h
  show mr X _ _ 0 [(0, .ref 38)] [] (MM RR S) _
  refine mr_aload_n (pc' := 1) dX5_takeComparing_0 rfl rfl ?_
  refine mr_getR (pc' := 4) (ci := 5) (j := 0) (b := 1) hR dX5_takeComparing_1 rfl rfl rfl (by decide) (by decide) (by decide) rfl rfl ?_
  refine mr_bipush (pc' := 6) (v := (61 : Int32)) dX5_takeComparing_4 rfl (by decide) ?_
  obtain ⟨q1, g2, h3⟩ := Option.bind_eq_some_iff.mp h
  refine mr_cv (pc' := 9) (a := 1) (d1 := 1) dX5_takeComparing_6 rfl rfl rfl rfl rfl rfl (by decide) rfl (by decide) (ok_X7_takeSign hR  g2) ?_
  show mr X _ _ 9 _ [.int q1.1] (MM RR q1.2) _
  by_cases c4 : q1.1 = (0 : Int32)
  · rw [if_pos c4] at h3
    refine mr_if_eq_t (t := 15) dX5_takeComparing_9 (by decide) c4 ?_
    refine mr_aload_n (pc' := 16) dX5_takeComparing_15 rfl rfl ?_
    refine mr_getR (pc' := 19) (ci := 5) (j := 0) (b := 1) hR dX5_takeComparing_16 rfl rfl rfl (by decide) (by decide) (by decide) rfl rfl ?_
    refine mr_bipush (pc' := 21) (v := (60 : Int32)) dX5_takeComparing_19 rfl (by decide) ?_
    obtain ⟨q5, g6, h7⟩ := Option.bind_eq_some_iff.mp h3
    refine mr_cv (pc' := 24) (a := 1) (d1 := 1) dX5_takeComparing_21 rfl rfl rfl rfl rfl rfl (by decide) rfl (by decide) (ok_X7_takeSign hR  g6) ?_
    show mr X _ _ 24 _ [.int q5.1] (MM RR q5.2) _
    refine mr_istore_n (pc' := 25) (lv' := [(1, .int q5.1), (0, .ref 38)]) dX5_takeComparing_24 rfl (by decide) rfl ?_
    refine mr_iload_n (pc' := 26) dX5_takeComparing_25 rfl rfl ?_
    by_cases c8 : q5.1 = (0 : Int32)
    · rw [if_pos c8] at h7
      refine mr_if_ne_f (t := 43) (pc' := 29) dX5_takeComparing_26 (by decide) rfl (not_not_intro c8) ?_
      refine mr_aload_n (pc' := 30) dX5_takeComparing_29 rfl rfl ?_
      refine mr_getR (pc' := 33) (ci := 5) (j := 0) (b := 1) hR dX5_takeComparing_30 rfl rfl rfl (by decide) (by decide) (by decide) rfl rfl ?_
      refine mr_bipush (pc' := 35) (v := (62 : Int32)) dX5_takeComparing_33 rfl (by decide) ?_
      obtain ⟨q18, g19, h20⟩ := Option.bind_eq_some_iff.mp h7
      refine mr_cv (pc' := 38) (a := 1) (d1 := 1) dX5_takeComparing_35 rfl rfl rfl rfl rfl rfl (by decide) rfl (by decide) (ok_X7_takeSign hR  g19) ?_
      show mr X _ _ 38 _ [.int q18.1] (MM RR q18.2) _
      by_cases c21 : q18.1 = (0 : Int32)
      · rw [if_pos c21] at h20
        refine mr_if_ne_f (t := 43) (pc' := 41) dX5_takeComparing_38 (by decide) rfl (not_not_intro c21) ?_
        refine mr_iconst (pc' := 42) (v := (-1 : Int32)) dX5_takeComparing_41 rfl (by decide) ?_
        obtain rfl := Option.some.inj h20
        exact mr_ireturn dX5_takeComparing_42 rfl
      · rw [if_neg c21] at h20
        refine mr_if_ne_t (t := 43) dX5_takeComparing_38 (by decide) c21 ?_
        refine mr_aload_n (pc' := 44) dX5_takeComparing_43 rfl rfl ?_
        refine mr_getR (pc' := 47) (ci := 5) (j := 0) (b := 1) hR dX5_takeComparing_44 rfl rfl rfl (by decide) (by decide) (by decide) rfl rfl ?_
        refine mr_aload_n (pc' := 48) dX5_takeComparing_47 rfl rfl ?_
        refine mr_getR (pc' := 51) (ci := 5) (j := 0) (b := 1) hR dX5_takeComparing_48 rfl rfl rfl (by decide) (by decide) (by decide) rfl rfl ?_
        refine mr_getI (pc' := 54) (ci := 7) (j := 2) dX5_takeComparing_51 rfl rfl rfl (by decide) (by decide) rfl ?_
        obtain ⟨q22, g23, h24⟩ := Option.bind_eq_some_iff.mp h20
        refine mr_cv (pc' := 57) (a := 1) (d1 := 0) dX5_takeComparing_54 rfl rfl rfl rfl rfl rfl (by decide) rfl (by decide) (ok_X7_byteAt hR  g23) ?_
        show mr X _ _ 57 _ [.int q22] (MM RR q18.2) _
        refine mr_bipush (pc' := 59) (v := (61 : Int32)) dX5_takeComparing_57 rfl (by decide) ?_
        by_cases c25 : q22 = (61 : Int32)
        · rw [if_pos c25] at h24
          refine mr_icmp_eq_t (t := 74) dX5_takeComparing_59 (by decide) c25 ?_
          refine mr_aload_n (pc' := 75) dX5_takeComparing_74 rfl rfl ?_
          refine mr_getR (pc' := 78) (ci := 5) (j := 0) (b := 1) hR dX5_takeComparing_75 rfl rfl rfl (by decide) (by decide) (by decide) rfl rfl ?_
          refine mr_dup_ref (pc' := 79) dX5_takeComparing_78 rfl ?_
          refine mr_getI (pc' := 82) (ci := 7) (j := 2) dX5_takeComparing_79 rfl rfl rfl (by decide) (by decide) rfl ?_
          refine mr_iconst (pc' := 83) (v := (1 : Int32)) dX5_takeComparing_82 rfl (by decide) ?_
          refine mr_iadd (pc' := 84) dX5_takeComparing_83 rfl ?_
          obtain ⟨S26, g27, h28⟩ := Option.bind_eq_some_iff.mp h24
          refine mr_putI (pc' := 87) (ci := 7) (j := 2) dX5_takeComparing_84 rfl rfl rfl (by decide) (by decide) rfl rfl ?_
          rw [Option.some.inj g27]
          refine mr_iload_n (pc' := 88) dX5_takeComparing_87 rfl rfl ?_
          by_cases c29 : q5.1 = (0 : Int32)
          · rw [if_pos c29] at h28
            refine mr_if_eq_t (t := 96) dX5_takeComparing_88 (by decide) c29 ?_
            refine mr_bipush (pc' := 98) (v := (14 : Int32)) dX5_takeComparing_96 rfl (by decide) ?_
            obtain rfl := Option.some.inj h28
            exact mr_ireturn dX5_takeComparing_98 rfl
          · rw [if_neg c29] at h28
            refine mr_if_eq_f (t := 96) (pc' := 91) dX5_takeComparing_88 (by decide) rfl c29 ?_
            refine mr_bipush (pc' := 93) (v := (12 : Int32)) dX5_takeComparing_91 rfl (by decide) ?_
            refine mr_goto (t := 98) dX5_takeComparing_93 (by decide) ?_
            obtain rfl := Option.some.inj h28
            exact mr_ireturn dX5_takeComparing_98 rfl
        · rw [if_neg c25] at h24
          refine mr_icmp_eq_f (t := 74) (pc' := 62) dX5_takeComparing_59 (by decide) rfl c25 ?_
          refine mr_iload_n (pc' := 63) dX5_takeComparing_62 rfl rfl ?_
          by_cases c30 : q5.1 = (0 : Int32)
          · rw [if_pos c30] at h24
            refine mr_if_eq_t (t := 71) dX5_takeComparing_63 (by decide) c30 ?_
            refine mr_bipush (pc' := 73) (v := (15 : Int32)) dX5_takeComparing_71 rfl (by decide) ?_
            obtain rfl := Option.some.inj h24
            exact mr_ireturn dX5_takeComparing_73 rfl
          · rw [if_neg c30] at h24
            refine mr_if_eq_f (t := 71) (pc' := 66) dX5_takeComparing_63 (by decide) rfl c30 ?_
            refine mr_bipush (pc' := 68) (v := (11 : Int32)) dX5_takeComparing_66 rfl (by decide) ?_
            refine mr_goto (t := 73) dX5_takeComparing_68 (by decide) ?_
            obtain rfl := Option.some.inj h24
            exact mr_ireturn dX5_takeComparing_73 rfl
    · rw [if_neg c8] at h7
      refine mr_if_ne_t (t := 43) dX5_takeComparing_26 (by decide) c8 ?_
      refine mr_aload_n (pc' := 44) dX5_takeComparing_43 rfl rfl ?_
      refine mr_getR (pc' := 47) (ci := 5) (j := 0) (b := 1) hR dX5_takeComparing_44 rfl rfl rfl (by decide) (by decide) (by decide) rfl rfl ?_
      refine mr_aload_n (pc' := 48) dX5_takeComparing_47 rfl rfl ?_
      refine mr_getR (pc' := 51) (ci := 5) (j := 0) (b := 1) hR dX5_takeComparing_48 rfl rfl rfl (by decide) (by decide) (by decide) rfl rfl ?_
      refine mr_getI (pc' := 54) (ci := 7) (j := 2) dX5_takeComparing_51 rfl rfl rfl (by decide) (by decide) rfl ?_
      obtain ⟨q9, g10, h11⟩ := Option.bind_eq_some_iff.mp h7
      refine mr_cv (pc' := 57) (a := 1) (d1 := 0) dX5_takeComparing_54 rfl rfl rfl rfl rfl rfl (by decide) rfl (by decide) (ok_X7_byteAt hR  g10) ?_
      show mr X _ _ 57 _ [.int q9] (MM RR q5.2) _
      refine mr_bipush (pc' := 59) (v := (61 : Int32)) dX5_takeComparing_57 rfl (by decide) ?_
      by_cases c12 : q9 = (61 : Int32)
      · rw [if_pos c12] at h11
        refine mr_icmp_eq_t (t := 74) dX5_takeComparing_59 (by decide) c12 ?_
        refine mr_aload_n (pc' := 75) dX5_takeComparing_74 rfl rfl ?_
        refine mr_getR (pc' := 78) (ci := 5) (j := 0) (b := 1) hR dX5_takeComparing_75 rfl rfl rfl (by decide) (by decide) (by decide) rfl rfl ?_
        refine mr_dup_ref (pc' := 79) dX5_takeComparing_78 rfl ?_
        refine mr_getI (pc' := 82) (ci := 7) (j := 2) dX5_takeComparing_79 rfl rfl rfl (by decide) (by decide) rfl ?_
        refine mr_iconst (pc' := 83) (v := (1 : Int32)) dX5_takeComparing_82 rfl (by decide) ?_
        refine mr_iadd (pc' := 84) dX5_takeComparing_83 rfl ?_
        obtain ⟨S13, g14, h15⟩ := Option.bind_eq_some_iff.mp h11
        refine mr_putI (pc' := 87) (ci := 7) (j := 2) dX5_takeComparing_84 rfl rfl rfl (by decide) (by decide) rfl rfl ?_
        rw [Option.some.inj g14]
        refine mr_iload_n (pc' := 88) dX5_takeComparing_87 rfl rfl ?_
        by_cases c16 : q5.1 = (0 : Int32)
        · rw [if_pos c16] at h15
          refine mr_if_eq_t (t := 96) dX5_takeComparing_88 (by decide) c16 ?_
          refine mr_bipush (pc' := 98) (v := (14 : Int32)) dX5_takeComparing_96 rfl (by decide) ?_
          obtain rfl := Option.some.inj h15
          exact mr_ireturn dX5_takeComparing_98 rfl
        · rw [if_neg c16] at h15
          refine mr_if_eq_f (t := 96) (pc' := 91) dX5_takeComparing_88 (by decide) rfl c16 ?_
          refine mr_bipush (pc' := 93) (v := (12 : Int32)) dX5_takeComparing_91 rfl (by decide) ?_
          refine mr_goto (t := 98) dX5_takeComparing_93 (by decide) ?_
          obtain rfl := Option.some.inj h15
          exact mr_ireturn dX5_takeComparing_98 rfl
      · rw [if_neg c12] at h11
        refine mr_icmp_eq_f (t := 74) (pc' := 62) dX5_takeComparing_59 (by decide) rfl c12 ?_
        refine mr_iload_n (pc' := 63) dX5_takeComparing_62 rfl rfl ?_
        by_cases c17 : q5.1 = (0 : Int32)
        · rw [if_pos c17] at h11
          refine mr_if_eq_t (t := 71) dX5_takeComparing_63 (by decide) c17 ?_
          refine mr_bipush (pc' := 73) (v := (15 : Int32)) dX5_takeComparing_71 rfl (by decide) ?_
          obtain rfl := Option.some.inj h11
          exact mr_ireturn dX5_takeComparing_73 rfl
        · rw [if_neg c17] at h11
          refine mr_if_eq_f (t := 71) (pc' := 66) dX5_takeComparing_63 (by decide) rfl c17 ?_
          refine mr_bipush (pc' := 68) (v := (11 : Int32)) dX5_takeComparing_66 rfl (by decide) ?_
          refine mr_goto (t := 73) dX5_takeComparing_68 (by decide) ?_
          obtain rfl := Option.some.inj h11
          exact mr_ireturn dX5_takeComparing_73 rfl
  · rw [if_neg c4] at h3
    refine mr_if_eq_f (t := 15) (pc' := 12) dX5_takeComparing_9 (by decide) rfl c4 ?_
    refine mr_bipush (pc' := 14) (v := (13 : Int32)) dX5_takeComparing_12 rfl (by decide) ?_
    obtain rfl := Option.some.inj h3
    exact mr_ireturn dX5_takeComparing_14 rfl
def lp_X5_readTest_21  (K : fS → Option (Int32 × fS)) : Nat → Int32 → Int32 → Int32 → fS → Option (Int32 × fS)
  | 0, _, _, _, _ => none
  | n + 1, p1, p2, p3, S0 =>
    if (400 : Int32) ≤ p3 then (K S0) else
    (if p1 = (0 : Int32) then ((f_X5_readValue  S0).bind fun q12 =>
    if q12.1 = (0 : Int32) then (some ((0 : Int32), q12.2)) else
    ((f_X5_takeReckoning  q12.2).bind fun q16 =>
    if (0 : Int32) ≤ q16.1 then (if (0 : Int32) = (0 : Int32) then (if (0 : Int32) ≤ q16.1 then ((gB q16.1).bind fun a22 =>
    (f_X5_settle a22 q16.2).bind fun q25 =>
    (f_X5_hold q16.1 q25).bind fun q28 =>
    lp_X5_readTest_21  K n (0 : Int32) p2 (p3 + (1 : Int32)) q28) else
    ((f_X5_takeComparing  q16.2).bind fun q31 =>
    if (0 : Int32) ≤ q31.1 then ((f_X5_isRoomForOne  q31.2).bind fun q35 =>
    if q35.1 = (0 : Int32) then (some ((0 : Int32), q35.2)) else
    ((gB q31.1).bind fun a39 =>
    (f_X5_settle a39 q35.2).bind fun q42 =>
    (f_X5_hold q31.1 q42).bind fun q45 =>
    lp_X5_readTest_21  K n (0 : Int32) (1 : Int32) (p3 + (1 : Int32)) q45)) else
    ((f_X7_fail (q31.2.1 1 2) (0 : Int32) q31.2).bind fun q48 =>
    (bZ q48.1).bind fun z51 => some (z51, q48.2)))) else
    ((f_X5_closeBrackets  q16.2).bind fun q56 =>
    (f_X5_takeJoining  q56).bind fun q59 =>
    if (0 : Int32) ≤ q59.1 then ((gB q59.1).bind fun a63 =>
    (f_X5_settle a63 q59.2).bind fun q66 =>
    (f_X5_hold q59.1 q66).bind fun q69 =>
    lp_X5_readTest_21  K n (0 : Int32) p2 (p3 + (1 : Int32)) q69) else
    ((f_X5_isTestOver  q59.2).bind fun q72 =>
    (bZ q72.1).bind fun z75 => some (z75, q72.2)))) else
    (if p2 = (0 : Int32) then (if (0 : Int32) = (0 : Int32) then (if (0 : Int32) ≤ q16.1 then ((gB q16.1).bind fun a83 =>
    (f_X5_settle a83 q16.2).bind fun q86 =>
    (f_X5_hold q16.1 q86).bind fun q89 =>
    lp_X5_readTest_21  K n (0 : Int32) p2 (p3 + (1 : Int32)) q89) else
    ((f_X5_takeComparing  q16.2).bind fun q92 =>
    if (0 : Int32) ≤ q92.1 then ((f_X5_isRoomForOne  q92.2).bind fun q96 =>
    if q96.1 = (0 : Int32) then (some ((0 : Int32), q96.2)) else
    ((gB q92.1).bind fun a100 =>
    (f_X5_settle a100 q96.2).bind fun q103 =>
    (f_X5_hold q92.1 q103).bind fun q106 =>
    lp_X5_readTest_21  K n (0 : Int32) (1 : Int32) (p3 + (1 : Int32)) q106)) else
    ((f_X7_fail (q92.2.1 1 2) (0 : Int32) q92.2).bind fun q109 =>
    (bZ q109.1).bind fun z112 => some (z112, q109.2)))) else
    ((f_X5_closeBrackets  q16.2).bind fun q117 =>
    (f_X5_takeJoining  q117).bind fun q120 =>
    if (0 : Int32) ≤ q120.1 then ((gB q120.1).bind fun a124 =>
    (f_X5_settle a124 q120.2).bind fun q127 =>
    (f_X5_hold q120.1 q127).bind fun q130 =>
    lp_X5_readTest_21  K n (0 : Int32) p2 (p3 + (1 : Int32)) q130) else
    ((f_X5_isTestOver  q120.2).bind fun q133 =>
    (bZ q133.1).bind fun z136 => some (z136, q133.2)))) else
    (if (1 : Int32) = (0 : Int32) then (if (0 : Int32) ≤ q16.1 then ((gB q16.1).bind fun a143 =>
    (f_X5_settle a143 q16.2).bind fun q146 =>
    (f_X5_hold q16.1 q146).bind fun q149 =>
    lp_X5_readTest_21  K n (1 : Int32) p2 (p3 + (1 : Int32)) q149) else
    ((f_X5_takeComparing  q16.2).bind fun q152 =>
    if (0 : Int32) ≤ q152.1 then ((f_X5_isRoomForOne  q152.2).bind fun q156 =>
    if q156.1 = (0 : Int32) then (some ((0 : Int32), q156.2)) else
    ((gB q152.1).bind fun a160 =>
    (f_X5_settle a160 q156.2).bind fun q163 =>
    (f_X5_hold q152.1 q163).bind fun q166 =>
    lp_X5_readTest_21  K n (1 : Int32) (1 : Int32) (p3 + (1 : Int32)) q166)) else
    ((f_X7_fail (q152.2.1 1 2) (0 : Int32) q152.2).bind fun q169 =>
    (bZ q169.1).bind fun z172 => some (z172, q169.2)))) else
    ((f_X5_closeBrackets  q16.2).bind fun q177 =>
    (f_X5_takeJoining  q177).bind fun q180 =>
    if (0 : Int32) ≤ q180.1 then ((gB q180.1).bind fun a184 =>
    (f_X5_settle a184 q180.2).bind fun q187 =>
    (f_X5_hold q180.1 q187).bind fun q190 =>
    lp_X5_readTest_21  K n (1 : Int32) p2 (p3 + (1 : Int32)) q190) else
    ((f_X5_isTestOver  q180.2).bind fun q193 =>
    (bZ q193.1).bind fun z196 => some (z196, q193.2))))))) else
    ((f_X5_readOpenings  S0).bind fun q201 =>
    if q201.1 = (0 : Int32) then (some ((0 : Int32), q201.2)) else
    ((f_X5_readValue  q201.2).bind fun q205 =>
    if q205.1 = (0 : Int32) then (some ((0 : Int32), q205.2)) else
    ((f_X5_takeReckoning  q205.2).bind fun q209 =>
    if (0 : Int32) ≤ q209.1 then (if (0 : Int32) = (0 : Int32) then (if (0 : Int32) ≤ q209.1 then ((gB q209.1).bind fun a215 =>
    (f_X5_settle a215 q209.2).bind fun q218 =>
    (f_X5_hold q209.1 q218).bind fun q221 =>
    lp_X5_readTest_21  K n (0 : Int32) (0 : Int32) (p3 + (1 : Int32)) q221) else
    ((f_X5_takeComparing  q209.2).bind fun q224 =>
    if (0 : Int32) ≤ q224.1 then ((f_X5_isRoomForOne  q224.2).bind fun q228 =>
    if q228.1 = (0 : Int32) then (some ((0 : Int32), q228.2)) else
    ((gB q224.1).bind fun a232 =>
    (f_X5_settle a232 q228.2).bind fun q235 =>
    (f_X5_hold q224.1 q235).bind fun q238 =>
    lp_X5_readTest_21  K n (0 : Int32) (1 : Int32) (p3 + (1 : Int32)) q238)) else
    ((f_X7_fail (q224.2.1 1 2) (0 : Int32) q224.2).bind fun q241 =>
    (bZ q241.1).bind fun z244 => some (z244, q241.2)))) else
    ((f_X5_closeBrackets  q209.2).bind fun q249 =>
    (f_X5_takeJoining  q249).bind fun q252 =>
    if (0 : Int32) ≤ q252.1 then ((gB q252.1).bind fun a256 =>
    (f_X5_settle a256 q252.2).bind fun q259 =>
    (f_X5_hold q252.1 q259).bind fun q262 =>
    lp_X5_readTest_21  K n (0 : Int32) (0 : Int32) (p3 + (1 : Int32)) q262) else
    ((f_X5_isTestOver  q252.2).bind fun q265 =>
    (bZ q265.1).bind fun z268 => some (z268, q265.2)))) else
    (if (0 : Int32) = (0 : Int32) then (if (0 : Int32) = (0 : Int32) then (if (0 : Int32) ≤ q209.1 then ((gB q209.1).bind fun a276 =>
    (f_X5_settle a276 q209.2).bind fun q279 =>
    (f_X5_hold q209.1 q279).bind fun q282 =>
    lp_X5_readTest_21  K n (0 : Int32) (0 : Int32) (p3 + (1 : Int32)) q282) else
    ((f_X5_takeComparing  q209.2).bind fun q285 =>
    if (0 : Int32) ≤ q285.1 then ((f_X5_isRoomForOne  q285.2).bind fun q289 =>
    if q289.1 = (0 : Int32) then (some ((0 : Int32), q289.2)) else
    ((gB q285.1).bind fun a293 =>
    (f_X5_settle a293 q289.2).bind fun q296 =>
    (f_X5_hold q285.1 q296).bind fun q299 =>
    lp_X5_readTest_21  K n (0 : Int32) (1 : Int32) (p3 + (1 : Int32)) q299)) else
    ((f_X7_fail (q285.2.1 1 2) (0 : Int32) q285.2).bind fun q302 =>
    (bZ q302.1).bind fun z305 => some (z305, q302.2)))) else
    ((f_X5_closeBrackets  q209.2).bind fun q310 =>
    (f_X5_takeJoining  q310).bind fun q313 =>
    if (0 : Int32) ≤ q313.1 then ((gB q313.1).bind fun a317 =>
    (f_X5_settle a317 q313.2).bind fun q320 =>
    (f_X5_hold q313.1 q320).bind fun q323 =>
    lp_X5_readTest_21  K n (0 : Int32) (0 : Int32) (p3 + (1 : Int32)) q323) else
    ((f_X5_isTestOver  q313.2).bind fun q326 =>
    (bZ q326.1).bind fun z329 => some (z329, q326.2)))) else
    (if (1 : Int32) = (0 : Int32) then (if (0 : Int32) ≤ q209.1 then ((gB q209.1).bind fun a336 =>
    (f_X5_settle a336 q209.2).bind fun q339 =>
    (f_X5_hold q209.1 q339).bind fun q342 =>
    lp_X5_readTest_21  K n (1 : Int32) (0 : Int32) (p3 + (1 : Int32)) q342) else
    ((f_X5_takeComparing  q209.2).bind fun q345 =>
    if (0 : Int32) ≤ q345.1 then ((f_X5_isRoomForOne  q345.2).bind fun q349 =>
    if q349.1 = (0 : Int32) then (some ((0 : Int32), q349.2)) else
    ((gB q345.1).bind fun a353 =>
    (f_X5_settle a353 q349.2).bind fun q356 =>
    (f_X5_hold q345.1 q356).bind fun q359 =>
    lp_X5_readTest_21  K n (1 : Int32) (1 : Int32) (p3 + (1 : Int32)) q359)) else
    ((f_X7_fail (q345.2.1 1 2) (0 : Int32) q345.2).bind fun q362 =>
    (bZ q362.1).bind fun z365 => some (z365, q362.2)))) else
    ((f_X5_closeBrackets  q209.2).bind fun q370 =>
    (f_X5_takeJoining  q370).bind fun q373 =>
    if (0 : Int32) ≤ q373.1 then ((gB q373.1).bind fun a377 =>
    (f_X5_settle a377 q373.2).bind fun q380 =>
    (f_X5_hold q373.1 q380).bind fun q383 =>
    lp_X5_readTest_21  K n (1 : Int32) (0 : Int32) (p3 + (1 : Int32)) q383) else
    ((f_X5_isTestOver  q373.2).bind fun q386 =>
    (bZ q386.1).bind fun z389 => some (z389, q386.2)))))))))
set_option maxHeartbeats 4000000 in
set_option maxRecDepth 100000 in
theorem ok_lp_X5_readTest_21 {X : mm_C} {RR : Nat → Nat → Option Nat} (hR : RRok RR)   {K : fS → Option (Int32 × fS)} {r : Int32 × fS} (hK : ∀ (Sk : fS), K Sk = some r → mr X 7 mY_X5_readTest 162 [] [] (MM RR Sk) (some (.int r.1), MM RR r.2)) : ∀ (n : Nat) (p1 : Int32) (p2 : Int32) (p3 : Int32) (S0 : fS), lp_X5_readTest_21  K n p1 p2 p3 S0 = some r → mr X 7 mY_X5_readTest 21 [(0, .ref 38), (1, .int p1), (2, .int p2), (3, .int p3)] [] (MM RR S0) (some (.int r.1), MM RR r.2) := by
  intro n
  induction n with
  | zero => intro p1 p2 p3 S0 h; exact mm_no h
  | succ n ih =>
    intro p1 p2 p3 S0 h
    unfold lp_X5_readTest_21 at h
    refine mr_iload_n (pc' := 22) dX5_readTest_21 rfl rfl ?_
    refine mr_sipush (pc' := 25) (v := (400 : Int32)) dX5_readTest_22 rfl (by decide) ?_
    by_cases c10 : (400 : Int32) ≤ p3
    · rw [if_pos c10] at h
      refine mr_icmp_ge_t (t := 162) dX5_readTest_25 (by decide) c10 ?_
      exact mr_sub [] trivial rfl (hK _  h)
    · rw [if_neg c10] at h
      refine mr_icmp_ge_f (t := 162) (pc' := 28) dX5_readTest_25 (by decide) rfl c10 ?_
      refine mr_iload_n (pc' := 29) dX5_readTest_28 rfl rfl ?_
      by_cases c11 : p1 = (0 : Int32)
      · rw [if_pos c11] at h
        refine mr_if_eq_t (t := 43) dX5_readTest_29 (by decide) c11 ?_
        refine mr_aload_n (pc' := 44) dX5_readTest_43 rfl rfl ?_
        obtain ⟨q12, g13, h14⟩ := Option.bind_eq_some_iff.mp h
        refine mr_cv (pc' := 47) (a := 38) (d1 := 6) dX5_readTest_44 rfl rfl rfl rfl rfl rfl (by decide) rfl (by decide) (ok_X5_readValue hR  g13) ?_
        show mr X _ _ 47 _ [.int q12.1] (MM RR q12.2) _
        by_cases c15 : q12.1 = (0 : Int32)
        · rw [if_pos c15] at h14
          refine mr_if_ne_f (t := 52) (pc' := 50) dX5_readTest_47 (by decide) rfl (not_not_intro c15) ?_
          refine mr_iconst (pc' := 51) (v := (0 : Int32)) dX5_readTest_50 rfl (by decide) ?_
          obtain rfl := Option.some.inj h14
          exact mr_zreturn dX5_readTest_51 rfl (by decide)
        · rw [if_neg c15] at h14
          refine mr_if_ne_t (t := 52) dX5_readTest_47 (by decide) c15 ?_
          refine mr_aload_n (pc' := 53) dX5_readTest_52 rfl rfl ?_
          obtain ⟨q16, g17, h18⟩ := Option.bind_eq_some_iff.mp h14
          refine mr_cv (pc' := 56) (a := 38) (d1 := 2) dX5_readTest_53 rfl rfl rfl rfl rfl rfl (by decide) rfl (by decide) (ok_X5_takeReckoning hR  g17) ?_
          show mr X _ _ 56 _ [.int q16.1] (MM RR q16.2) _
          refine mr_istore (pc' := 58) (lv' := [(4, .int q16.1), (0, .ref 38), (1, .int p1), (2, .int p2), (3, .int p3)]) dX5_readTest_56 rfl (by decide) rfl ?_
          refine mr_iload (pc' := 60) dX5_readTest_58 rfl rfl ?_
          by_cases c19 : (0 : Int32) ≤ q16.1
          · rw [if_pos c19] at h18
            refine mr_if_ge_t (t := 71) dX5_readTest_60 (by decide) c19 ?_
            refine mr_iconst (pc' := 72) (v := (0 : Int32)) dX5_readTest_71 rfl (by decide) ?_
            refine mr_istore_n (pc' := 73) (lv' := [(1, .int (0 : Int32)), (4, .int q16.1), (0, .ref 38), (2, .int p2), (3, .int p3)]) dX5_readTest_72 rfl (by decide) rfl ?_
            refine mr_iload_n (pc' := 74) dX5_readTest_73 rfl rfl ?_
            by_cases c20 : (0 : Int32) = (0 : Int32)
            · rw [if_pos c20] at h18
              refine mr_if_eq_t (t := 97) dX5_readTest_74 (by decide) c20 ?_
              refine mr_iload (pc' := 99) dX5_readTest_97 rfl rfl ?_
              by_cases c21 : (0 : Int32) ≤ q16.1
              · rw [if_pos c21] at h18
                refine mr_if_ge_t (t := 140) dX5_readTest_99 (by decide) c21 ?_
                refine mr_aload_n (pc' := 141) dX5_readTest_140 rfl rfl ?_
                refine mr_tget (pc' := 144) rfl dX5_readTest_141 rfl ?_
                refine mr_iload (pc' := 146) dX5_readTest_144 rfl rfl ?_
                obtain ⟨a22, g23, h24⟩ := Option.bind_eq_some_iff.mp h18
                refine mr_tald (pc' := 147) dX5_readTest_146 rfl g23 ?_
                obtain ⟨q25, g26, h27⟩ := Option.bind_eq_some_iff.mp h24
                refine mr_cv (pc' := 150) (a := 38) (d1 := 1) dX5_readTest_147 rfl rfl rfl rfl rfl rfl (by decide) rfl (by decide) (ok_X5_settle hR  g26) ?_
                show mr X _ _ 150 _ [] (MM RR q25) _
                refine mr_aload_n (pc' := 151) dX5_readTest_150 rfl rfl ?_
                refine mr_iload (pc' := 153) dX5_readTest_151 rfl rfl ?_
                obtain ⟨q28, g29, h30⟩ := Option.bind_eq_some_iff.mp h27
                refine mr_cv (pc' := 156) (a := 38) (d1 := 0) dX5_readTest_153 rfl rfl rfl rfl rfl rfl (by decide) rfl (by decide) (ok_X5_hold hR  g29) ?_
                show mr X _ _ 156 _ [] (MM RR q28) _
                refine mr_iinc (pc' := 159) (x' := (p3 + (1 : Int32))) (lv' := [(3, .int (p3 + (1 : Int32))), (1, .int (0 : Int32)), (4, .int q16.1), (0, .ref 38), (2, .int p2)]) dX5_readTest_156 rfl (by decide) rfl rfl rfl ?_
                refine mr_goto (t := 21) dX5_readTest_159 (by decide) ?_
                exact mr_sub [(0, .ref 38), (1, .int (0 : Int32)), (2, .int p2), (3, .int (p3 + (1 : Int32)))] ⟨rfl, rfl, rfl, rfl, trivial⟩ rfl (ih _ _ _ _  h30)
              · rw [if_neg c21] at h18
                refine mr_if_ge_f (t := 140) (pc' := 102) dX5_readTest_99 (by decide) rfl c21 ?_
                refine mr_aload_n (pc' := 103) dX5_readTest_102 rfl rfl ?_
                obtain ⟨q31, g32, h33⟩ := Option.bind_eq_some_iff.mp h18
                refine mr_cv (pc' := 106) (a := 38) (d1 := 2) dX5_readTest_103 rfl rfl rfl rfl rfl rfl (by decide) rfl (by decide) (ok_X5_takeComparing hR  g32) ?_
                show mr X _ _ 106 _ [.int q31.1] (MM RR q31.2) _
                refine mr_istore (pc' := 108) (lv' := [(4, .int q31.1), (1, .int (0 : Int32)), (0, .ref 38), (2, .int p2), (3, .int p3)]) dX5_readTest_106 rfl (by decide) rfl ?_
                refine mr_iload (pc' := 110) dX5_readTest_108 rfl rfl ?_
                by_cases c34 : (0 : Int32) ≤ q31.1
                · rw [if_pos c34] at h33
                  refine mr_if_ge_t (t := 129) dX5_readTest_110 (by decide) c34 ?_
                  refine mr_aload_n (pc' := 130) dX5_readTest_129 rfl rfl ?_
                  obtain ⟨q35, g36, h37⟩ := Option.bind_eq_some_iff.mp h33
                  refine mr_cv (pc' := 133) (a := 38) (d1 := 1) dX5_readTest_130 rfl rfl rfl rfl rfl rfl (by decide) rfl (by decide) (ok_X5_isRoomForOne hR  g36) ?_
                  show mr X _ _ 133 _ [.int q35.1] (MM RR q35.2) _
                  by_cases c38 : q35.1 = (0 : Int32)
                  · rw [if_pos c38] at h37
                    refine mr_if_ne_f (t := 138) (pc' := 136) dX5_readTest_133 (by decide) rfl (not_not_intro c38) ?_
                    refine mr_iconst (pc' := 137) (v := (0 : Int32)) dX5_readTest_136 rfl (by decide) ?_
                    obtain rfl := Option.some.inj h37
                    exact mr_zreturn dX5_readTest_137 rfl (by decide)
                  · rw [if_neg c38] at h37
                    refine mr_if_ne_t (t := 138) dX5_readTest_133 (by decide) c38 ?_
                    refine mr_iconst (pc' := 139) (v := (1 : Int32)) dX5_readTest_138 rfl (by decide) ?_
                    refine mr_istore_n (pc' := 140) (lv' := [(2, .int (1 : Int32)), (4, .int q31.1), (1, .int (0 : Int32)), (0, .ref 38), (3, .int p3)]) dX5_readTest_139 rfl (by decide) rfl ?_
                    refine mr_aload_n (pc' := 141) dX5_readTest_140 rfl rfl ?_
                    refine mr_tget (pc' := 144) rfl dX5_readTest_141 rfl ?_
                    refine mr_iload (pc' := 146) dX5_readTest_144 rfl rfl ?_
                    obtain ⟨a39, g40, h41⟩ := Option.bind_eq_some_iff.mp h37
                    refine mr_tald (pc' := 147) dX5_readTest_146 rfl g40 ?_
                    obtain ⟨q42, g43, h44⟩ := Option.bind_eq_some_iff.mp h41
                    refine mr_cv (pc' := 150) (a := 38) (d1 := 1) dX5_readTest_147 rfl rfl rfl rfl rfl rfl (by decide) rfl (by decide) (ok_X5_settle hR  g43) ?_
                    show mr X _ _ 150 _ [] (MM RR q42) _
                    refine mr_aload_n (pc' := 151) dX5_readTest_150 rfl rfl ?_
                    refine mr_iload (pc' := 153) dX5_readTest_151 rfl rfl ?_
                    obtain ⟨q45, g46, h47⟩ := Option.bind_eq_some_iff.mp h44
                    refine mr_cv (pc' := 156) (a := 38) (d1 := 0) dX5_readTest_153 rfl rfl rfl rfl rfl rfl (by decide) rfl (by decide) (ok_X5_hold hR  g46) ?_
                    show mr X _ _ 156 _ [] (MM RR q45) _
                    refine mr_iinc (pc' := 159) (x' := (p3 + (1 : Int32))) (lv' := [(3, .int (p3 + (1 : Int32))), (2, .int (1 : Int32)), (4, .int q31.1), (1, .int (0 : Int32)), (0, .ref 38)]) dX5_readTest_156 rfl (by decide) rfl rfl rfl ?_
                    refine mr_goto (t := 21) dX5_readTest_159 (by decide) ?_
                    exact mr_sub [(0, .ref 38), (1, .int (0 : Int32)), (2, .int (1 : Int32)), (3, .int (p3 + (1 : Int32)))] ⟨rfl, rfl, rfl, rfl, trivial⟩ rfl (ih _ _ _ _  h47)
                · rw [if_neg c34] at h33
                  refine mr_if_ge_f (t := 129) (pc' := 113) dX5_readTest_110 (by decide) rfl c34 ?_
                  refine mr_aload_n (pc' := 114) dX5_readTest_113 rfl rfl ?_
                  refine mr_getR (pc' := 117) (ci := 5) (j := 0) (b := 1) hR dX5_readTest_114 rfl rfl rfl (by decide) (by decide) (by decide) rfl rfl ?_
                  refine mr_aload_n (pc' := 118) dX5_readTest_117 rfl rfl ?_
                  refine mr_getR (pc' := 121) (ci := 5) (j := 0) (b := 1) hR dX5_readTest_118 rfl rfl rfl (by decide) (by decide) (by decide) rfl rfl ?_
                  refine mr_getI (pc' := 124) (ci := 7) (j := 2) dX5_readTest_121 rfl rfl rfl (by decide) (by decide) rfl ?_
                  refine mr_iconst (pc' := 125) (v := (0 : Int32)) dX5_readTest_124 rfl (by decide) ?_
                  obtain ⟨q48, g49, h50⟩ := Option.bind_eq_some_iff.mp h33
                  refine mr_cv (pc' := 128) (a := 1) (d1 := 0) dX5_readTest_125 rfl rfl rfl rfl rfl rfl (by decide) rfl (by decide) (ok_X7_fail hR  g49) ?_
                  show mr X _ _ 128 _ [.int q48.1] (MM RR q48.2) _
                  obtain ⟨z51, g52, h53⟩ := Option.bind_eq_some_iff.mp h50
                  obtain ⟨g54, e55⟩ := mm_ifs g52
                  cases e55
                  cases h53
                  exact mr_zreturn dX5_readTest_128 rfl g54
            · rw [if_neg c20] at h18
              refine mr_if_eq_f (t := 97) (pc' := 77) dX5_readTest_74 (by decide) rfl c20 ?_
              refine mr_aload_n (pc' := 78) dX5_readTest_77 rfl rfl ?_
              obtain ⟨q56, g57, h58⟩ := Option.bind_eq_some_iff.mp h18
              refine mr_cv (pc' := 81) (a := 38) (d1 := 2) dX5_readTest_78 rfl rfl rfl rfl rfl rfl (by decide) rfl (by decide) (ok_X5_closeBrackets hR  g57) ?_
              show mr X _ _ 81 _ [] (MM RR q56) _
              refine mr_aload_n (pc' := 82) dX5_readTest_81 rfl rfl ?_
              obtain ⟨q59, g60, h61⟩ := Option.bind_eq_some_iff.mp h58
              refine mr_cv (pc' := 85) (a := 38) (d1 := 5) dX5_readTest_82 rfl rfl rfl rfl rfl rfl (by decide) rfl (by decide) (ok_X5_takeJoining hR  g60) ?_
              show mr X _ _ 85 _ [.int q59.1] (MM RR q59.2) _
              refine mr_istore (pc' := 87) (lv' := [(4, .int q59.1), (1, .int (0 : Int32)), (0, .ref 38), (2, .int p2), (3, .int p3)]) dX5_readTest_85 rfl (by decide) rfl ?_
              refine mr_iload (pc' := 89) dX5_readTest_87 rfl rfl ?_
              by_cases c62 : (0 : Int32) ≤ q59.1
              · rw [if_pos c62] at h61
                refine mr_if_ge_t (t := 140) dX5_readTest_89 (by decide) c62 ?_
                refine mr_aload_n (pc' := 141) dX5_readTest_140 rfl rfl ?_
                refine mr_tget (pc' := 144) rfl dX5_readTest_141 rfl ?_
                refine mr_iload (pc' := 146) dX5_readTest_144 rfl rfl ?_
                obtain ⟨a63, g64, h65⟩ := Option.bind_eq_some_iff.mp h61
                refine mr_tald (pc' := 147) dX5_readTest_146 rfl g64 ?_
                obtain ⟨q66, g67, h68⟩ := Option.bind_eq_some_iff.mp h65
                refine mr_cv (pc' := 150) (a := 38) (d1 := 1) dX5_readTest_147 rfl rfl rfl rfl rfl rfl (by decide) rfl (by decide) (ok_X5_settle hR  g67) ?_
                show mr X _ _ 150 _ [] (MM RR q66) _
                refine mr_aload_n (pc' := 151) dX5_readTest_150 rfl rfl ?_
                refine mr_iload (pc' := 153) dX5_readTest_151 rfl rfl ?_
                obtain ⟨q69, g70, h71⟩ := Option.bind_eq_some_iff.mp h68
                refine mr_cv (pc' := 156) (a := 38) (d1 := 0) dX5_readTest_153 rfl rfl rfl rfl rfl rfl (by decide) rfl (by decide) (ok_X5_hold hR  g70) ?_
                show mr X _ _ 156 _ [] (MM RR q69) _
                refine mr_iinc (pc' := 159) (x' := (p3 + (1 : Int32))) (lv' := [(3, .int (p3 + (1 : Int32))), (4, .int q59.1), (1, .int (0 : Int32)), (0, .ref 38), (2, .int p2)]) dX5_readTest_156 rfl (by decide) rfl rfl rfl ?_
                refine mr_goto (t := 21) dX5_readTest_159 (by decide) ?_
                exact mr_sub [(0, .ref 38), (1, .int (0 : Int32)), (2, .int p2), (3, .int (p3 + (1 : Int32)))] ⟨rfl, rfl, rfl, rfl, trivial⟩ rfl (ih _ _ _ _  h71)
              · rw [if_neg c62] at h61
                refine mr_if_ge_f (t := 140) (pc' := 92) dX5_readTest_89 (by decide) rfl c62 ?_
                refine mr_aload_n (pc' := 93) dX5_readTest_92 rfl rfl ?_
                obtain ⟨q72, g73, h74⟩ := Option.bind_eq_some_iff.mp h61
                refine mr_cv (pc' := 96) (a := 38) (d1 := 2) dX5_readTest_93 rfl rfl rfl rfl rfl rfl (by decide) rfl (by decide) (ok_X5_isTestOver hR  g73) ?_
                show mr X _ _ 96 _ [.int q72.1] (MM RR q72.2) _
                obtain ⟨z75, g76, h77⟩ := Option.bind_eq_some_iff.mp h74
                obtain ⟨g78, e79⟩ := mm_ifs g76
                cases e79
                cases h77
                exact mr_zreturn dX5_readTest_96 rfl g78
          · rw [if_neg c19] at h18
            refine mr_if_ge_f (t := 71) (pc' := 63) dX5_readTest_60 (by decide) rfl c19 ?_
            refine mr_iload_n (pc' := 64) dX5_readTest_63 rfl rfl ?_
            by_cases c80 : p2 = (0 : Int32)
            · rw [if_pos c80] at h18
              refine mr_if_eq_t (t := 71) dX5_readTest_64 (by decide) c80 ?_
              refine mr_iconst (pc' := 72) (v := (0 : Int32)) dX5_readTest_71 rfl (by decide) ?_
              refine mr_istore_n (pc' := 73) (lv' := [(1, .int (0 : Int32)), (4, .int q16.1), (0, .ref 38), (2, .int p2), (3, .int p3)]) dX5_readTest_72 rfl (by decide) rfl ?_
              refine mr_iload_n (pc' := 74) dX5_readTest_73 rfl rfl ?_
              by_cases c81 : (0 : Int32) = (0 : Int32)
              · rw [if_pos c81] at h18
                refine mr_if_eq_t (t := 97) dX5_readTest_74 (by decide) c81 ?_
                refine mr_iload (pc' := 99) dX5_readTest_97 rfl rfl ?_
                by_cases c82 : (0 : Int32) ≤ q16.1
                · rw [if_pos c82] at h18
                  refine mr_if_ge_t (t := 140) dX5_readTest_99 (by decide) c82 ?_
                  refine mr_aload_n (pc' := 141) dX5_readTest_140 rfl rfl ?_
                  refine mr_tget (pc' := 144) rfl dX5_readTest_141 rfl ?_
                  refine mr_iload (pc' := 146) dX5_readTest_144 rfl rfl ?_
                  obtain ⟨a83, g84, h85⟩ := Option.bind_eq_some_iff.mp h18
                  refine mr_tald (pc' := 147) dX5_readTest_146 rfl g84 ?_
                  obtain ⟨q86, g87, h88⟩ := Option.bind_eq_some_iff.mp h85
                  refine mr_cv (pc' := 150) (a := 38) (d1 := 1) dX5_readTest_147 rfl rfl rfl rfl rfl rfl (by decide) rfl (by decide) (ok_X5_settle hR  g87) ?_
                  show mr X _ _ 150 _ [] (MM RR q86) _
                  refine mr_aload_n (pc' := 151) dX5_readTest_150 rfl rfl ?_
                  refine mr_iload (pc' := 153) dX5_readTest_151 rfl rfl ?_
                  obtain ⟨q89, g90, h91⟩ := Option.bind_eq_some_iff.mp h88
                  refine mr_cv (pc' := 156) (a := 38) (d1 := 0) dX5_readTest_153 rfl rfl rfl rfl rfl rfl (by decide) rfl (by decide) (ok_X5_hold hR  g90) ?_
                  show mr X _ _ 156 _ [] (MM RR q89) _
                  refine mr_iinc (pc' := 159) (x' := (p3 + (1 : Int32))) (lv' := [(3, .int (p3 + (1 : Int32))), (1, .int (0 : Int32)), (4, .int q16.1), (0, .ref 38), (2, .int p2)]) dX5_readTest_156 rfl (by decide) rfl rfl rfl ?_
                  refine mr_goto (t := 21) dX5_readTest_159 (by decide) ?_
                  exact mr_sub [(0, .ref 38), (1, .int (0 : Int32)), (2, .int p2), (3, .int (p3 + (1 : Int32)))] ⟨rfl, rfl, rfl, rfl, trivial⟩ rfl (ih _ _ _ _  h91)
                · rw [if_neg c82] at h18
                  refine mr_if_ge_f (t := 140) (pc' := 102) dX5_readTest_99 (by decide) rfl c82 ?_
                  refine mr_aload_n (pc' := 103) dX5_readTest_102 rfl rfl ?_
                  obtain ⟨q92, g93, h94⟩ := Option.bind_eq_some_iff.mp h18
                  refine mr_cv (pc' := 106) (a := 38) (d1 := 2) dX5_readTest_103 rfl rfl rfl rfl rfl rfl (by decide) rfl (by decide) (ok_X5_takeComparing hR  g93) ?_
                  show mr X _ _ 106 _ [.int q92.1] (MM RR q92.2) _
                  refine mr_istore (pc' := 108) (lv' := [(4, .int q92.1), (1, .int (0 : Int32)), (0, .ref 38), (2, .int p2), (3, .int p3)]) dX5_readTest_106 rfl (by decide) rfl ?_
                  refine mr_iload (pc' := 110) dX5_readTest_108 rfl rfl ?_
                  by_cases c95 : (0 : Int32) ≤ q92.1
                  · rw [if_pos c95] at h94
                    refine mr_if_ge_t (t := 129) dX5_readTest_110 (by decide) c95 ?_
                    refine mr_aload_n (pc' := 130) dX5_readTest_129 rfl rfl ?_
                    obtain ⟨q96, g97, h98⟩ := Option.bind_eq_some_iff.mp h94
                    refine mr_cv (pc' := 133) (a := 38) (d1 := 1) dX5_readTest_130 rfl rfl rfl rfl rfl rfl (by decide) rfl (by decide) (ok_X5_isRoomForOne hR  g97) ?_
                    show mr X _ _ 133 _ [.int q96.1] (MM RR q96.2) _
                    by_cases c99 : q96.1 = (0 : Int32)
                    · rw [if_pos c99] at h98
                      refine mr_if_ne_f (t := 138) (pc' := 136) dX5_readTest_133 (by decide) rfl (not_not_intro c99) ?_
                      refine mr_iconst (pc' := 137) (v := (0 : Int32)) dX5_readTest_136 rfl (by decide) ?_
                      obtain rfl := Option.some.inj h98
                      exact mr_zreturn dX5_readTest_137 rfl (by decide)
                    · rw [if_neg c99] at h98
                      refine mr_if_ne_t (t := 138) dX5_readTest_133 (by decide) c99 ?_
                      refine mr_iconst (pc' := 139) (v := (1 : Int32)) dX5_readTest_138 rfl (by decide) ?_
                      refine mr_istore_n (pc' := 140) (lv' := [(2, .int (1 : Int32)), (4, .int q92.1), (1, .int (0 : Int32)), (0, .ref 38), (3, .int p3)]) dX5_readTest_139 rfl (by decide) rfl ?_
                      refine mr_aload_n (pc' := 141) dX5_readTest_140 rfl rfl ?_
                      refine mr_tget (pc' := 144) rfl dX5_readTest_141 rfl ?_
                      refine mr_iload (pc' := 146) dX5_readTest_144 rfl rfl ?_
                      obtain ⟨a100, g101, h102⟩ := Option.bind_eq_some_iff.mp h98
                      refine mr_tald (pc' := 147) dX5_readTest_146 rfl g101 ?_
                      obtain ⟨q103, g104, h105⟩ := Option.bind_eq_some_iff.mp h102
                      refine mr_cv (pc' := 150) (a := 38) (d1 := 1) dX5_readTest_147 rfl rfl rfl rfl rfl rfl (by decide) rfl (by decide) (ok_X5_settle hR  g104) ?_
                      show mr X _ _ 150 _ [] (MM RR q103) _
                      refine mr_aload_n (pc' := 151) dX5_readTest_150 rfl rfl ?_
                      refine mr_iload (pc' := 153) dX5_readTest_151 rfl rfl ?_
                      obtain ⟨q106, g107, h108⟩ := Option.bind_eq_some_iff.mp h105
                      refine mr_cv (pc' := 156) (a := 38) (d1 := 0) dX5_readTest_153 rfl rfl rfl rfl rfl rfl (by decide) rfl (by decide) (ok_X5_hold hR  g107) ?_
                      show mr X _ _ 156 _ [] (MM RR q106) _
                      refine mr_iinc (pc' := 159) (x' := (p3 + (1 : Int32))) (lv' := [(3, .int (p3 + (1 : Int32))), (2, .int (1 : Int32)), (4, .int q92.1), (1, .int (0 : Int32)), (0, .ref 38)]) dX5_readTest_156 rfl (by decide) rfl rfl rfl ?_
                      refine mr_goto (t := 21) dX5_readTest_159 (by decide) ?_
                      exact mr_sub [(0, .ref 38), (1, .int (0 : Int32)), (2, .int (1 : Int32)), (3, .int (p3 + (1 : Int32)))] ⟨rfl, rfl, rfl, rfl, trivial⟩ rfl (ih _ _ _ _  h108)
                  · rw [if_neg c95] at h94
                    refine mr_if_ge_f (t := 129) (pc' := 113) dX5_readTest_110 (by decide) rfl c95 ?_
                    refine mr_aload_n (pc' := 114) dX5_readTest_113 rfl rfl ?_
                    refine mr_getR (pc' := 117) (ci := 5) (j := 0) (b := 1) hR dX5_readTest_114 rfl rfl rfl (by decide) (by decide) (by decide) rfl rfl ?_
                    refine mr_aload_n (pc' := 118) dX5_readTest_117 rfl rfl ?_
                    refine mr_getR (pc' := 121) (ci := 5) (j := 0) (b := 1) hR dX5_readTest_118 rfl rfl rfl (by decide) (by decide) (by decide) rfl rfl ?_
                    refine mr_getI (pc' := 124) (ci := 7) (j := 2) dX5_readTest_121 rfl rfl rfl (by decide) (by decide) rfl ?_
                    refine mr_iconst (pc' := 125) (v := (0 : Int32)) dX5_readTest_124 rfl (by decide) ?_
                    obtain ⟨q109, g110, h111⟩ := Option.bind_eq_some_iff.mp h94
                    refine mr_cv (pc' := 128) (a := 1) (d1 := 0) dX5_readTest_125 rfl rfl rfl rfl rfl rfl (by decide) rfl (by decide) (ok_X7_fail hR  g110) ?_
                    show mr X _ _ 128 _ [.int q109.1] (MM RR q109.2) _
                    obtain ⟨z112, g113, h114⟩ := Option.bind_eq_some_iff.mp h111
                    obtain ⟨g115, e116⟩ := mm_ifs g113
                    cases e116
                    cases h114
                    exact mr_zreturn dX5_readTest_128 rfl g115
              · rw [if_neg c81] at h18
                refine mr_if_eq_f (t := 97) (pc' := 77) dX5_readTest_74 (by decide) rfl c81 ?_
                refine mr_aload_n (pc' := 78) dX5_readTest_77 rfl rfl ?_
                obtain ⟨q117, g118, h119⟩ := Option.bind_eq_some_iff.mp h18
                refine mr_cv (pc' := 81) (a := 38) (d1 := 2) dX5_readTest_78 rfl rfl rfl rfl rfl rfl (by decide) rfl (by decide) (ok_X5_closeBrackets hR  g118) ?_
                show mr X _ _ 81 _ [] (MM RR q117) _
                refine mr_aload_n (pc' := 82) dX5_readTest_81 rfl rfl ?_
                obtain ⟨q120, g121, h122⟩ := Option.bind_eq_some_iff.mp h119
                refine mr_cv (pc' := 85) (a := 38) (d1 := 5) dX5_readTest_82 rfl rfl rfl rfl rfl rfl (by decide) rfl (by decide) (ok_X5_takeJoining hR  g121) ?_
                show mr X _ _ 85 _ [.int q120.1] (MM RR q120.2) _
                refine mr_istore (pc' := 87) (lv' := [(4, .int q120.1), (1, .int (0 : Int32)), (0, .ref 38), (2, .int p2), (3, .int p3)]) dX5_readTest_85 rfl (by decide) rfl ?_
                refine mr_iload (pc' := 89) dX5_readTest_87 rfl rfl ?_
                by_cases c123 : (0 : Int32) ≤ q120.1
                · rw [if_pos c123] at h122
                  refine mr_if_ge_t (t := 140) dX5_readTest_89 (by decide) c123 ?_
                  refine mr_aload_n (pc' := 141) dX5_readTest_140 rfl rfl ?_
                  refine mr_tget (pc' := 144) rfl dX5_readTest_141 rfl ?_
                  refine mr_iload (pc' := 146) dX5_readTest_144 rfl rfl ?_
                  obtain ⟨a124, g125, h126⟩ := Option.bind_eq_some_iff.mp h122
                  refine mr_tald (pc' := 147) dX5_readTest_146 rfl g125 ?_
                  obtain ⟨q127, g128, h129⟩ := Option.bind_eq_some_iff.mp h126
                  refine mr_cv (pc' := 150) (a := 38) (d1 := 1) dX5_readTest_147 rfl rfl rfl rfl rfl rfl (by decide) rfl (by decide) (ok_X5_settle hR  g128) ?_
                  show mr X _ _ 150 _ [] (MM RR q127) _
                  refine mr_aload_n (pc' := 151) dX5_readTest_150 rfl rfl ?_
                  refine mr_iload (pc' := 153) dX5_readTest_151 rfl rfl ?_
                  obtain ⟨q130, g131, h132⟩ := Option.bind_eq_some_iff.mp h129
                  refine mr_cv (pc' := 156) (a := 38) (d1 := 0) dX5_readTest_153 rfl rfl rfl rfl rfl rfl (by decide) rfl (by decide) (ok_X5_hold hR  g131) ?_
                  show mr X _ _ 156 _ [] (MM RR q130) _
                  refine mr_iinc (pc' := 159) (x' := (p3 + (1 : Int32))) (lv' := [(3, .int (p3 + (1 : Int32))), (4, .int q120.1), (1, .int (0 : Int32)), (0, .ref 38), (2, .int p2)]) dX5_readTest_156 rfl (by decide) rfl rfl rfl ?_
                  refine mr_goto (t := 21) dX5_readTest_159 (by decide) ?_
                  exact mr_sub [(0, .ref 38), (1, .int (0 : Int32)), (2, .int p2), (3, .int (p3 + (1 : Int32)))] ⟨rfl, rfl, rfl, rfl, trivial⟩ rfl (ih _ _ _ _  h132)
                · rw [if_neg c123] at h122
                  refine mr_if_ge_f (t := 140) (pc' := 92) dX5_readTest_89 (by decide) rfl c123 ?_
                  refine mr_aload_n (pc' := 93) dX5_readTest_92 rfl rfl ?_
                  obtain ⟨q133, g134, h135⟩ := Option.bind_eq_some_iff.mp h122
                  refine mr_cv (pc' := 96) (a := 38) (d1 := 2) dX5_readTest_93 rfl rfl rfl rfl rfl rfl (by decide) rfl (by decide) (ok_X5_isTestOver hR  g134) ?_
                  show mr X _ _ 96 _ [.int q133.1] (MM RR q133.2) _
                  obtain ⟨z136, g137, h138⟩ := Option.bind_eq_some_iff.mp h135
                  obtain ⟨g139, e140⟩ := mm_ifs g137
                  cases e140
                  cases h138
                  exact mr_zreturn dX5_readTest_96 rfl g139
            · rw [if_neg c80] at h18
              refine mr_if_eq_f (t := 71) (pc' := 67) dX5_readTest_64 (by decide) rfl c80 ?_
              refine mr_iconst (pc' := 68) (v := (1 : Int32)) dX5_readTest_67 rfl (by decide) ?_
              refine mr_goto (t := 72) dX5_readTest_68 (by decide) ?_
              refine mr_istore_n (pc' := 73) (lv' := [(1, .int (1 : Int32)), (4, .int q16.1), (0, .ref 38), (2, .int p2), (3, .int p3)]) dX5_readTest_72 rfl (by decide) rfl ?_
              refine mr_iload_n (pc' := 74) dX5_readTest_73 rfl rfl ?_
              by_cases c141 : (1 : Int32) = (0 : Int32)
              · rw [if_pos c141] at h18
                refine mr_if_eq_t (t := 97) dX5_readTest_74 (by decide) c141 ?_
                refine mr_iload (pc' := 99) dX5_readTest_97 rfl rfl ?_
                by_cases c142 : (0 : Int32) ≤ q16.1
                · rw [if_pos c142] at h18
                  refine mr_if_ge_t (t := 140) dX5_readTest_99 (by decide) c142 ?_
                  refine mr_aload_n (pc' := 141) dX5_readTest_140 rfl rfl ?_
                  refine mr_tget (pc' := 144) rfl dX5_readTest_141 rfl ?_
                  refine mr_iload (pc' := 146) dX5_readTest_144 rfl rfl ?_
                  obtain ⟨a143, g144, h145⟩ := Option.bind_eq_some_iff.mp h18
                  refine mr_tald (pc' := 147) dX5_readTest_146 rfl g144 ?_
                  obtain ⟨q146, g147, h148⟩ := Option.bind_eq_some_iff.mp h145
                  refine mr_cv (pc' := 150) (a := 38) (d1 := 1) dX5_readTest_147 rfl rfl rfl rfl rfl rfl (by decide) rfl (by decide) (ok_X5_settle hR  g147) ?_
                  show mr X _ _ 150 _ [] (MM RR q146) _
                  refine mr_aload_n (pc' := 151) dX5_readTest_150 rfl rfl ?_
                  refine mr_iload (pc' := 153) dX5_readTest_151 rfl rfl ?_
                  obtain ⟨q149, g150, h151⟩ := Option.bind_eq_some_iff.mp h148
                  refine mr_cv (pc' := 156) (a := 38) (d1 := 0) dX5_readTest_153 rfl rfl rfl rfl rfl rfl (by decide) rfl (by decide) (ok_X5_hold hR  g150) ?_
                  show mr X _ _ 156 _ [] (MM RR q149) _
                  refine mr_iinc (pc' := 159) (x' := (p3 + (1 : Int32))) (lv' := [(3, .int (p3 + (1 : Int32))), (1, .int (1 : Int32)), (4, .int q16.1), (0, .ref 38), (2, .int p2)]) dX5_readTest_156 rfl (by decide) rfl rfl rfl ?_
                  refine mr_goto (t := 21) dX5_readTest_159 (by decide) ?_
                  exact mr_sub [(0, .ref 38), (1, .int (1 : Int32)), (2, .int p2), (3, .int (p3 + (1 : Int32)))] ⟨rfl, rfl, rfl, rfl, trivial⟩ rfl (ih _ _ _ _  h151)
                · rw [if_neg c142] at h18
                  refine mr_if_ge_f (t := 140) (pc' := 102) dX5_readTest_99 (by decide) rfl c142 ?_
                  refine mr_aload_n (pc' := 103) dX5_readTest_102 rfl rfl ?_
                  obtain ⟨q152, g153, h154⟩ := Option.bind_eq_some_iff.mp h18
                  refine mr_cv (pc' := 106) (a := 38) (d1 := 2) dX5_readTest_103 rfl rfl rfl rfl rfl rfl (by decide) rfl (by decide) (ok_X5_takeComparing hR  g153) ?_
                  show mr X _ _ 106 _ [.int q152.1] (MM RR q152.2) _
                  refine mr_istore (pc' := 108) (lv' := [(4, .int q152.1), (1, .int (1 : Int32)), (0, .ref 38), (2, .int p2), (3, .int p3)]) dX5_readTest_106 rfl (by decide) rfl ?_
                  refine mr_iload (pc' := 110) dX5_readTest_108 rfl rfl ?_
                  by_cases c155 : (0 : Int32) ≤ q152.1
                  · rw [if_pos c155] at h154
                    refine mr_if_ge_t (t := 129) dX5_readTest_110 (by decide) c155 ?_
                    refine mr_aload_n (pc' := 130) dX5_readTest_129 rfl rfl ?_
                    obtain ⟨q156, g157, h158⟩ := Option.bind_eq_some_iff.mp h154
                    refine mr_cv (pc' := 133) (a := 38) (d1 := 1) dX5_readTest_130 rfl rfl rfl rfl rfl rfl (by decide) rfl (by decide) (ok_X5_isRoomForOne hR  g157) ?_
                    show mr X _ _ 133 _ [.int q156.1] (MM RR q156.2) _
                    by_cases c159 : q156.1 = (0 : Int32)
                    · rw [if_pos c159] at h158
                      refine mr_if_ne_f (t := 138) (pc' := 136) dX5_readTest_133 (by decide) rfl (not_not_intro c159) ?_
                      refine mr_iconst (pc' := 137) (v := (0 : Int32)) dX5_readTest_136 rfl (by decide) ?_
                      obtain rfl := Option.some.inj h158
                      exact mr_zreturn dX5_readTest_137 rfl (by decide)
                    · rw [if_neg c159] at h158
                      refine mr_if_ne_t (t := 138) dX5_readTest_133 (by decide) c159 ?_
                      refine mr_iconst (pc' := 139) (v := (1 : Int32)) dX5_readTest_138 rfl (by decide) ?_
                      refine mr_istore_n (pc' := 140) (lv' := [(2, .int (1 : Int32)), (4, .int q152.1), (1, .int (1 : Int32)), (0, .ref 38), (3, .int p3)]) dX5_readTest_139 rfl (by decide) rfl ?_
                      refine mr_aload_n (pc' := 141) dX5_readTest_140 rfl rfl ?_
                      refine mr_tget (pc' := 144) rfl dX5_readTest_141 rfl ?_
                      refine mr_iload (pc' := 146) dX5_readTest_144 rfl rfl ?_
                      obtain ⟨a160, g161, h162⟩ := Option.bind_eq_some_iff.mp h158
                      refine mr_tald (pc' := 147) dX5_readTest_146 rfl g161 ?_
                      obtain ⟨q163, g164, h165⟩ := Option.bind_eq_some_iff.mp h162
                      refine mr_cv (pc' := 150) (a := 38) (d1 := 1) dX5_readTest_147 rfl rfl rfl rfl rfl rfl (by decide) rfl (by decide) (ok_X5_settle hR  g164) ?_
                      show mr X _ _ 150 _ [] (MM RR q163) _
                      refine mr_aload_n (pc' := 151) dX5_readTest_150 rfl rfl ?_
                      refine mr_iload (pc' := 153) dX5_readTest_151 rfl rfl ?_
                      obtain ⟨q166, g167, h168⟩ := Option.bind_eq_some_iff.mp h165
                      refine mr_cv (pc' := 156) (a := 38) (d1 := 0) dX5_readTest_153 rfl rfl rfl rfl rfl rfl (by decide) rfl (by decide) (ok_X5_hold hR  g167) ?_
                      show mr X _ _ 156 _ [] (MM RR q166) _
                      refine mr_iinc (pc' := 159) (x' := (p3 + (1 : Int32))) (lv' := [(3, .int (p3 + (1 : Int32))), (2, .int (1 : Int32)), (4, .int q152.1), (1, .int (1 : Int32)), (0, .ref 38)]) dX5_readTest_156 rfl (by decide) rfl rfl rfl ?_
                      refine mr_goto (t := 21) dX5_readTest_159 (by decide) ?_
                      exact mr_sub [(0, .ref 38), (1, .int (1 : Int32)), (2, .int (1 : Int32)), (3, .int (p3 + (1 : Int32)))] ⟨rfl, rfl, rfl, rfl, trivial⟩ rfl (ih _ _ _ _  h168)
                  · rw [if_neg c155] at h154
                    refine mr_if_ge_f (t := 129) (pc' := 113) dX5_readTest_110 (by decide) rfl c155 ?_
                    refine mr_aload_n (pc' := 114) dX5_readTest_113 rfl rfl ?_
                    refine mr_getR (pc' := 117) (ci := 5) (j := 0) (b := 1) hR dX5_readTest_114 rfl rfl rfl (by decide) (by decide) (by decide) rfl rfl ?_
                    refine mr_aload_n (pc' := 118) dX5_readTest_117 rfl rfl ?_
                    refine mr_getR (pc' := 121) (ci := 5) (j := 0) (b := 1) hR dX5_readTest_118 rfl rfl rfl (by decide) (by decide) (by decide) rfl rfl ?_
                    refine mr_getI (pc' := 124) (ci := 7) (j := 2) dX5_readTest_121 rfl rfl rfl (by decide) (by decide) rfl ?_
                    refine mr_iconst (pc' := 125) (v := (0 : Int32)) dX5_readTest_124 rfl (by decide) ?_
                    obtain ⟨q169, g170, h171⟩ := Option.bind_eq_some_iff.mp h154
                    refine mr_cv (pc' := 128) (a := 1) (d1 := 0) dX5_readTest_125 rfl rfl rfl rfl rfl rfl (by decide) rfl (by decide) (ok_X7_fail hR  g170) ?_
                    show mr X _ _ 128 _ [.int q169.1] (MM RR q169.2) _
                    obtain ⟨z172, g173, h174⟩ := Option.bind_eq_some_iff.mp h171
                    obtain ⟨g175, e176⟩ := mm_ifs g173
                    cases e176
                    cases h174
                    exact mr_zreturn dX5_readTest_128 rfl g175
              · rw [if_neg c141] at h18
                refine mr_if_eq_f (t := 97) (pc' := 77) dX5_readTest_74 (by decide) rfl c141 ?_
                refine mr_aload_n (pc' := 78) dX5_readTest_77 rfl rfl ?_
                obtain ⟨q177, g178, h179⟩ := Option.bind_eq_some_iff.mp h18
                refine mr_cv (pc' := 81) (a := 38) (d1 := 2) dX5_readTest_78 rfl rfl rfl rfl rfl rfl (by decide) rfl (by decide) (ok_X5_closeBrackets hR  g178) ?_
                show mr X _ _ 81 _ [] (MM RR q177) _
                refine mr_aload_n (pc' := 82) dX5_readTest_81 rfl rfl ?_
                obtain ⟨q180, g181, h182⟩ := Option.bind_eq_some_iff.mp h179
                refine mr_cv (pc' := 85) (a := 38) (d1 := 5) dX5_readTest_82 rfl rfl rfl rfl rfl rfl (by decide) rfl (by decide) (ok_X5_takeJoining hR  g181) ?_
                show mr X _ _ 85 _ [.int q180.1] (MM RR q180.2) _
                refine mr_istore (pc' := 87) (lv' := [(4, .int q180.1), (1, .int (1 : Int32)), (0, .ref 38), (2, .int p2), (3, .int p3)]) dX5_readTest_85 rfl (by decide) rfl ?_
                refine mr_iload (pc' := 89) dX5_readTest_87 rfl rfl ?_
                by_cases c183 : (0 : Int32) ≤ q180.1
                · rw [if_pos c183] at h182
                  refine mr_if_ge_t (t := 140) dX5_readTest_89 (by decide) c183 ?_
                  refine mr_aload_n (pc' := 141) dX5_readTest_140 rfl rfl ?_
                  refine mr_tget (pc' := 144) rfl dX5_readTest_141 rfl ?_
                  refine mr_iload (pc' := 146) dX5_readTest_144 rfl rfl ?_
                  obtain ⟨a184, g185, h186⟩ := Option.bind_eq_some_iff.mp h182
                  refine mr_tald (pc' := 147) dX5_readTest_146 rfl g185 ?_
                  obtain ⟨q187, g188, h189⟩ := Option.bind_eq_some_iff.mp h186
                  refine mr_cv (pc' := 150) (a := 38) (d1 := 1) dX5_readTest_147 rfl rfl rfl rfl rfl rfl (by decide) rfl (by decide) (ok_X5_settle hR  g188) ?_
                  show mr X _ _ 150 _ [] (MM RR q187) _
                  refine mr_aload_n (pc' := 151) dX5_readTest_150 rfl rfl ?_
                  refine mr_iload (pc' := 153) dX5_readTest_151 rfl rfl ?_
                  obtain ⟨q190, g191, h192⟩ := Option.bind_eq_some_iff.mp h189
                  refine mr_cv (pc' := 156) (a := 38) (d1 := 0) dX5_readTest_153 rfl rfl rfl rfl rfl rfl (by decide) rfl (by decide) (ok_X5_hold hR  g191) ?_
                  show mr X _ _ 156 _ [] (MM RR q190) _
                  refine mr_iinc (pc' := 159) (x' := (p3 + (1 : Int32))) (lv' := [(3, .int (p3 + (1 : Int32))), (4, .int q180.1), (1, .int (1 : Int32)), (0, .ref 38), (2, .int p2)]) dX5_readTest_156 rfl (by decide) rfl rfl rfl ?_
                  refine mr_goto (t := 21) dX5_readTest_159 (by decide) ?_
                  exact mr_sub [(0, .ref 38), (1, .int (1 : Int32)), (2, .int p2), (3, .int (p3 + (1 : Int32)))] ⟨rfl, rfl, rfl, rfl, trivial⟩ rfl (ih _ _ _ _  h192)
                · rw [if_neg c183] at h182
                  refine mr_if_ge_f (t := 140) (pc' := 92) dX5_readTest_89 (by decide) rfl c183 ?_
                  refine mr_aload_n (pc' := 93) dX5_readTest_92 rfl rfl ?_
                  obtain ⟨q193, g194, h195⟩ := Option.bind_eq_some_iff.mp h182
                  refine mr_cv (pc' := 96) (a := 38) (d1 := 2) dX5_readTest_93 rfl rfl rfl rfl rfl rfl (by decide) rfl (by decide) (ok_X5_isTestOver hR  g194) ?_
                  show mr X _ _ 96 _ [.int q193.1] (MM RR q193.2) _
                  obtain ⟨z196, g197, h198⟩ := Option.bind_eq_some_iff.mp h195
                  obtain ⟨g199, e200⟩ := mm_ifs g197
                  cases e200
                  cases h198
                  exact mr_zreturn dX5_readTest_96 rfl g199
      · rw [if_neg c11] at h
        refine mr_if_eq_f (t := 43) (pc' := 32) dX5_readTest_29 (by decide) rfl c11 ?_
        refine mr_iconst (pc' := 33) (v := (0 : Int32)) dX5_readTest_32 rfl (by decide) ?_
        refine mr_istore_n (pc' := 34) (lv' := [(2, .int (0 : Int32)), (0, .ref 38), (1, .int p1), (3, .int p3)]) dX5_readTest_33 rfl (by decide) rfl ?_
        refine mr_aload_n (pc' := 35) dX5_readTest_34 rfl rfl ?_
        obtain ⟨q201, g202, h203⟩ := Option.bind_eq_some_iff.mp h
        refine mr_cv (pc' := 38) (a := 38) (d1 := 5) dX5_readTest_35 rfl rfl rfl rfl rfl rfl (by decide) rfl (by decide) (ok_X5_readOpenings hR  g202) ?_
        show mr X _ _ 38 _ [.int q201.1] (MM RR q201.2) _
        by_cases c204 : q201.1 = (0 : Int32)
        · rw [if_pos c204] at h203
          refine mr_if_ne_f (t := 43) (pc' := 41) dX5_readTest_38 (by decide) rfl (not_not_intro c204) ?_
          refine mr_iconst (pc' := 42) (v := (0 : Int32)) dX5_readTest_41 rfl (by decide) ?_
          obtain rfl := Option.some.inj h203
          exact mr_zreturn dX5_readTest_42 rfl (by decide)
        · rw [if_neg c204] at h203
          refine mr_if_ne_t (t := 43) dX5_readTest_38 (by decide) c204 ?_
          refine mr_aload_n (pc' := 44) dX5_readTest_43 rfl rfl ?_
          obtain ⟨q205, g206, h207⟩ := Option.bind_eq_some_iff.mp h203
          refine mr_cv (pc' := 47) (a := 38) (d1 := 6) dX5_readTest_44 rfl rfl rfl rfl rfl rfl (by decide) rfl (by decide) (ok_X5_readValue hR  g206) ?_
          show mr X _ _ 47 _ [.int q205.1] (MM RR q205.2) _
          by_cases c208 : q205.1 = (0 : Int32)
          · rw [if_pos c208] at h207
            refine mr_if_ne_f (t := 52) (pc' := 50) dX5_readTest_47 (by decide) rfl (not_not_intro c208) ?_
            refine mr_iconst (pc' := 51) (v := (0 : Int32)) dX5_readTest_50 rfl (by decide) ?_
            obtain rfl := Option.some.inj h207
            exact mr_zreturn dX5_readTest_51 rfl (by decide)
          · rw [if_neg c208] at h207
            refine mr_if_ne_t (t := 52) dX5_readTest_47 (by decide) c208 ?_
            refine mr_aload_n (pc' := 53) dX5_readTest_52 rfl rfl ?_
            obtain ⟨q209, g210, h211⟩ := Option.bind_eq_some_iff.mp h207
            refine mr_cv (pc' := 56) (a := 38) (d1 := 2) dX5_readTest_53 rfl rfl rfl rfl rfl rfl (by decide) rfl (by decide) (ok_X5_takeReckoning hR  g210) ?_
            show mr X _ _ 56 _ [.int q209.1] (MM RR q209.2) _
            refine mr_istore (pc' := 58) (lv' := [(4, .int q209.1), (2, .int (0 : Int32)), (0, .ref 38), (1, .int p1), (3, .int p3)]) dX5_readTest_56 rfl (by decide) rfl ?_
            refine mr_iload (pc' := 60) dX5_readTest_58 rfl rfl ?_
            by_cases c212 : (0 : Int32) ≤ q209.1
            · rw [if_pos c212] at h211
              refine mr_if_ge_t (t := 71) dX5_readTest_60 (by decide) c212 ?_
              refine mr_iconst (pc' := 72) (v := (0 : Int32)) dX5_readTest_71 rfl (by decide) ?_
              refine mr_istore_n (pc' := 73) (lv' := [(1, .int (0 : Int32)), (4, .int q209.1), (2, .int (0 : Int32)), (0, .ref 38), (3, .int p3)]) dX5_readTest_72 rfl (by decide) rfl ?_
              refine mr_iload_n (pc' := 74) dX5_readTest_73 rfl rfl ?_
              by_cases c213 : (0 : Int32) = (0 : Int32)
              · rw [if_pos c213] at h211
                refine mr_if_eq_t (t := 97) dX5_readTest_74 (by decide) c213 ?_
                refine mr_iload (pc' := 99) dX5_readTest_97 rfl rfl ?_
                by_cases c214 : (0 : Int32) ≤ q209.1
                · rw [if_pos c214] at h211
                  refine mr_if_ge_t (t := 140) dX5_readTest_99 (by decide) c214 ?_
                  refine mr_aload_n (pc' := 141) dX5_readTest_140 rfl rfl ?_
                  refine mr_tget (pc' := 144) rfl dX5_readTest_141 rfl ?_
                  refine mr_iload (pc' := 146) dX5_readTest_144 rfl rfl ?_
                  obtain ⟨a215, g216, h217⟩ := Option.bind_eq_some_iff.mp h211
                  refine mr_tald (pc' := 147) dX5_readTest_146 rfl g216 ?_
                  obtain ⟨q218, g219, h220⟩ := Option.bind_eq_some_iff.mp h217
                  refine mr_cv (pc' := 150) (a := 38) (d1 := 1) dX5_readTest_147 rfl rfl rfl rfl rfl rfl (by decide) rfl (by decide) (ok_X5_settle hR  g219) ?_
                  show mr X _ _ 150 _ [] (MM RR q218) _
                  refine mr_aload_n (pc' := 151) dX5_readTest_150 rfl rfl ?_
                  refine mr_iload (pc' := 153) dX5_readTest_151 rfl rfl ?_
                  obtain ⟨q221, g222, h223⟩ := Option.bind_eq_some_iff.mp h220
                  refine mr_cv (pc' := 156) (a := 38) (d1 := 0) dX5_readTest_153 rfl rfl rfl rfl rfl rfl (by decide) rfl (by decide) (ok_X5_hold hR  g222) ?_
                  show mr X _ _ 156 _ [] (MM RR q221) _
                  refine mr_iinc (pc' := 159) (x' := (p3 + (1 : Int32))) (lv' := [(3, .int (p3 + (1 : Int32))), (1, .int (0 : Int32)), (4, .int q209.1), (2, .int (0 : Int32)), (0, .ref 38)]) dX5_readTest_156 rfl (by decide) rfl rfl rfl ?_
                  refine mr_goto (t := 21) dX5_readTest_159 (by decide) ?_
                  exact mr_sub [(0, .ref 38), (1, .int (0 : Int32)), (2, .int (0 : Int32)), (3, .int (p3 + (1 : Int32)))] ⟨rfl, rfl, rfl, rfl, trivial⟩ rfl (ih _ _ _ _  h223)
                · rw [if_neg c214] at h211
                  refine mr_if_ge_f (t := 140) (pc' := 102) dX5_readTest_99 (by decide) rfl c214 ?_
                  refine mr_aload_n (pc' := 103) dX5_readTest_102 rfl rfl ?_
                  obtain ⟨q224, g225, h226⟩ := Option.bind_eq_some_iff.mp h211
                  refine mr_cv (pc' := 106) (a := 38) (d1 := 2) dX5_readTest_103 rfl rfl rfl rfl rfl rfl (by decide) rfl (by decide) (ok_X5_takeComparing hR  g225) ?_
                  show mr X _ _ 106 _ [.int q224.1] (MM RR q224.2) _
                  refine mr_istore (pc' := 108) (lv' := [(4, .int q224.1), (1, .int (0 : Int32)), (2, .int (0 : Int32)), (0, .ref 38), (3, .int p3)]) dX5_readTest_106 rfl (by decide) rfl ?_
                  refine mr_iload (pc' := 110) dX5_readTest_108 rfl rfl ?_
                  by_cases c227 : (0 : Int32) ≤ q224.1
                  · rw [if_pos c227] at h226
                    refine mr_if_ge_t (t := 129) dX5_readTest_110 (by decide) c227 ?_
                    refine mr_aload_n (pc' := 130) dX5_readTest_129 rfl rfl ?_
                    obtain ⟨q228, g229, h230⟩ := Option.bind_eq_some_iff.mp h226
                    refine mr_cv (pc' := 133) (a := 38) (d1 := 1) dX5_readTest_130 rfl rfl rfl rfl rfl rfl (by decide) rfl (by decide) (ok_X5_isRoomForOne hR  g229) ?_
                    show mr X _ _ 133 _ [.int q228.1] (MM RR q228.2) _
                    by_cases c231 : q228.1 = (0 : Int32)
                    · rw [if_pos c231] at h230
                      refine mr_if_ne_f (t := 138) (pc' := 136) dX5_readTest_133 (by decide) rfl (not_not_intro c231) ?_
                      refine mr_iconst (pc' := 137) (v := (0 : Int32)) dX5_readTest_136 rfl (by decide) ?_
                      obtain rfl := Option.some.inj h230
                      exact mr_zreturn dX5_readTest_137 rfl (by decide)
                    · rw [if_neg c231] at h230
                      refine mr_if_ne_t (t := 138) dX5_readTest_133 (by decide) c231 ?_
                      refine mr_iconst (pc' := 139) (v := (1 : Int32)) dX5_readTest_138 rfl (by decide) ?_
                      refine mr_istore_n (pc' := 140) (lv' := [(2, .int (1 : Int32)), (4, .int q224.1), (1, .int (0 : Int32)), (0, .ref 38), (3, .int p3)]) dX5_readTest_139 rfl (by decide) rfl ?_
                      refine mr_aload_n (pc' := 141) dX5_readTest_140 rfl rfl ?_
                      refine mr_tget (pc' := 144) rfl dX5_readTest_141 rfl ?_
                      refine mr_iload (pc' := 146) dX5_readTest_144 rfl rfl ?_
                      obtain ⟨a232, g233, h234⟩ := Option.bind_eq_some_iff.mp h230
                      refine mr_tald (pc' := 147) dX5_readTest_146 rfl g233 ?_
                      obtain ⟨q235, g236, h237⟩ := Option.bind_eq_some_iff.mp h234
                      refine mr_cv (pc' := 150) (a := 38) (d1 := 1) dX5_readTest_147 rfl rfl rfl rfl rfl rfl (by decide) rfl (by decide) (ok_X5_settle hR  g236) ?_
                      show mr X _ _ 150 _ [] (MM RR q235) _
                      refine mr_aload_n (pc' := 151) dX5_readTest_150 rfl rfl ?_
                      refine mr_iload (pc' := 153) dX5_readTest_151 rfl rfl ?_
                      obtain ⟨q238, g239, h240⟩ := Option.bind_eq_some_iff.mp h237
                      refine mr_cv (pc' := 156) (a := 38) (d1 := 0) dX5_readTest_153 rfl rfl rfl rfl rfl rfl (by decide) rfl (by decide) (ok_X5_hold hR  g239) ?_
                      show mr X _ _ 156 _ [] (MM RR q238) _
                      refine mr_iinc (pc' := 159) (x' := (p3 + (1 : Int32))) (lv' := [(3, .int (p3 + (1 : Int32))), (2, .int (1 : Int32)), (4, .int q224.1), (1, .int (0 : Int32)), (0, .ref 38)]) dX5_readTest_156 rfl (by decide) rfl rfl rfl ?_
                      refine mr_goto (t := 21) dX5_readTest_159 (by decide) ?_
                      exact mr_sub [(0, .ref 38), (1, .int (0 : Int32)), (2, .int (1 : Int32)), (3, .int (p3 + (1 : Int32)))] ⟨rfl, rfl, rfl, rfl, trivial⟩ rfl (ih _ _ _ _  h240)
                  · rw [if_neg c227] at h226
                    refine mr_if_ge_f (t := 129) (pc' := 113) dX5_readTest_110 (by decide) rfl c227 ?_
                    refine mr_aload_n (pc' := 114) dX5_readTest_113 rfl rfl ?_
                    refine mr_getR (pc' := 117) (ci := 5) (j := 0) (b := 1) hR dX5_readTest_114 rfl rfl rfl (by decide) (by decide) (by decide) rfl rfl ?_
                    refine mr_aload_n (pc' := 118) dX5_readTest_117 rfl rfl ?_
                    refine mr_getR (pc' := 121) (ci := 5) (j := 0) (b := 1) hR dX5_readTest_118 rfl rfl rfl (by decide) (by decide) (by decide) rfl rfl ?_
                    refine mr_getI (pc' := 124) (ci := 7) (j := 2) dX5_readTest_121 rfl rfl rfl (by decide) (by decide) rfl ?_
                    refine mr_iconst (pc' := 125) (v := (0 : Int32)) dX5_readTest_124 rfl (by decide) ?_
                    obtain ⟨q241, g242, h243⟩ := Option.bind_eq_some_iff.mp h226
                    refine mr_cv (pc' := 128) (a := 1) (d1 := 0) dX5_readTest_125 rfl rfl rfl rfl rfl rfl (by decide) rfl (by decide) (ok_X7_fail hR  g242) ?_
                    show mr X _ _ 128 _ [.int q241.1] (MM RR q241.2) _
                    obtain ⟨z244, g245, h246⟩ := Option.bind_eq_some_iff.mp h243
                    obtain ⟨g247, e248⟩ := mm_ifs g245
                    cases e248
                    cases h246
                    exact mr_zreturn dX5_readTest_128 rfl g247
              · rw [if_neg c213] at h211
                refine mr_if_eq_f (t := 97) (pc' := 77) dX5_readTest_74 (by decide) rfl c213 ?_
                refine mr_aload_n (pc' := 78) dX5_readTest_77 rfl rfl ?_
                obtain ⟨q249, g250, h251⟩ := Option.bind_eq_some_iff.mp h211
                refine mr_cv (pc' := 81) (a := 38) (d1 := 2) dX5_readTest_78 rfl rfl rfl rfl rfl rfl (by decide) rfl (by decide) (ok_X5_closeBrackets hR  g250) ?_
                show mr X _ _ 81 _ [] (MM RR q249) _
                refine mr_aload_n (pc' := 82) dX5_readTest_81 rfl rfl ?_
                obtain ⟨q252, g253, h254⟩ := Option.bind_eq_some_iff.mp h251
                refine mr_cv (pc' := 85) (a := 38) (d1 := 5) dX5_readTest_82 rfl rfl rfl rfl rfl rfl (by decide) rfl (by decide) (ok_X5_takeJoining hR  g253) ?_
                show mr X _ _ 85 _ [.int q252.1] (MM RR q252.2) _
                refine mr_istore (pc' := 87) (lv' := [(4, .int q252.1), (1, .int (0 : Int32)), (2, .int (0 : Int32)), (0, .ref 38), (3, .int p3)]) dX5_readTest_85 rfl (by decide) rfl ?_
                refine mr_iload (pc' := 89) dX5_readTest_87 rfl rfl ?_
                by_cases c255 : (0 : Int32) ≤ q252.1
                · rw [if_pos c255] at h254
                  refine mr_if_ge_t (t := 140) dX5_readTest_89 (by decide) c255 ?_
                  refine mr_aload_n (pc' := 141) dX5_readTest_140 rfl rfl ?_
                  refine mr_tget (pc' := 144) rfl dX5_readTest_141 rfl ?_
                  refine mr_iload (pc' := 146) dX5_readTest_144 rfl rfl ?_
                  obtain ⟨a256, g257, h258⟩ := Option.bind_eq_some_iff.mp h254
                  refine mr_tald (pc' := 147) dX5_readTest_146 rfl g257 ?_
                  obtain ⟨q259, g260, h261⟩ := Option.bind_eq_some_iff.mp h258
                  refine mr_cv (pc' := 150) (a := 38) (d1 := 1) dX5_readTest_147 rfl rfl rfl rfl rfl rfl (by decide) rfl (by decide) (ok_X5_settle hR  g260) ?_
                  show mr X _ _ 150 _ [] (MM RR q259) _
                  refine mr_aload_n (pc' := 151) dX5_readTest_150 rfl rfl ?_
                  refine mr_iload (pc' := 153) dX5_readTest_151 rfl rfl ?_
                  obtain ⟨q262, g263, h264⟩ := Option.bind_eq_some_iff.mp h261
                  refine mr_cv (pc' := 156) (a := 38) (d1 := 0) dX5_readTest_153 rfl rfl rfl rfl rfl rfl (by decide) rfl (by decide) (ok_X5_hold hR  g263) ?_
                  show mr X _ _ 156 _ [] (MM RR q262) _
                  refine mr_iinc (pc' := 159) (x' := (p3 + (1 : Int32))) (lv' := [(3, .int (p3 + (1 : Int32))), (4, .int q252.1), (1, .int (0 : Int32)), (2, .int (0 : Int32)), (0, .ref 38)]) dX5_readTest_156 rfl (by decide) rfl rfl rfl ?_
                  refine mr_goto (t := 21) dX5_readTest_159 (by decide) ?_
                  exact mr_sub [(0, .ref 38), (1, .int (0 : Int32)), (2, .int (0 : Int32)), (3, .int (p3 + (1 : Int32)))] ⟨rfl, rfl, rfl, rfl, trivial⟩ rfl (ih _ _ _ _  h264)
                · rw [if_neg c255] at h254
                  refine mr_if_ge_f (t := 140) (pc' := 92) dX5_readTest_89 (by decide) rfl c255 ?_
                  refine mr_aload_n (pc' := 93) dX5_readTest_92 rfl rfl ?_
                  obtain ⟨q265, g266, h267⟩ := Option.bind_eq_some_iff.mp h254
                  refine mr_cv (pc' := 96) (a := 38) (d1 := 2) dX5_readTest_93 rfl rfl rfl rfl rfl rfl (by decide) rfl (by decide) (ok_X5_isTestOver hR  g266) ?_
                  show mr X _ _ 96 _ [.int q265.1] (MM RR q265.2) _
                  obtain ⟨z268, g269, h270⟩ := Option.bind_eq_some_iff.mp h267
                  obtain ⟨g271, e272⟩ := mm_ifs g269
                  cases e272
                  cases h270
                  exact mr_zreturn dX5_readTest_96 rfl g271
            · rw [if_neg c212] at h211
              refine mr_if_ge_f (t := 71) (pc' := 63) dX5_readTest_60 (by decide) rfl c212 ?_
              refine mr_iload_n (pc' := 64) dX5_readTest_63 rfl rfl ?_
              by_cases c273 : (0 : Int32) = (0 : Int32)
              · rw [if_pos c273] at h211
                refine mr_if_eq_t (t := 71) dX5_readTest_64 (by decide) c273 ?_
                refine mr_iconst (pc' := 72) (v := (0 : Int32)) dX5_readTest_71 rfl (by decide) ?_
                refine mr_istore_n (pc' := 73) (lv' := [(1, .int (0 : Int32)), (4, .int q209.1), (2, .int (0 : Int32)), (0, .ref 38), (3, .int p3)]) dX5_readTest_72 rfl (by decide) rfl ?_
                refine mr_iload_n (pc' := 74) dX5_readTest_73 rfl rfl ?_
                by_cases c274 : (0 : Int32) = (0 : Int32)
                · rw [if_pos c274] at h211
                  refine mr_if_eq_t (t := 97) dX5_readTest_74 (by decide) c274 ?_
                  refine mr_iload (pc' := 99) dX5_readTest_97 rfl rfl ?_
                  by_cases c275 : (0 : Int32) ≤ q209.1
                  · rw [if_pos c275] at h211
                    refine mr_if_ge_t (t := 140) dX5_readTest_99 (by decide) c275 ?_
                    refine mr_aload_n (pc' := 141) dX5_readTest_140 rfl rfl ?_
                    refine mr_tget (pc' := 144) rfl dX5_readTest_141 rfl ?_
                    refine mr_iload (pc' := 146) dX5_readTest_144 rfl rfl ?_
                    obtain ⟨a276, g277, h278⟩ := Option.bind_eq_some_iff.mp h211
                    refine mr_tald (pc' := 147) dX5_readTest_146 rfl g277 ?_
                    obtain ⟨q279, g280, h281⟩ := Option.bind_eq_some_iff.mp h278
                    refine mr_cv (pc' := 150) (a := 38) (d1 := 1) dX5_readTest_147 rfl rfl rfl rfl rfl rfl (by decide) rfl (by decide) (ok_X5_settle hR  g280) ?_
                    show mr X _ _ 150 _ [] (MM RR q279) _
                    refine mr_aload_n (pc' := 151) dX5_readTest_150 rfl rfl ?_
                    refine mr_iload (pc' := 153) dX5_readTest_151 rfl rfl ?_
                    obtain ⟨q282, g283, h284⟩ := Option.bind_eq_some_iff.mp h281
                    refine mr_cv (pc' := 156) (a := 38) (d1 := 0) dX5_readTest_153 rfl rfl rfl rfl rfl rfl (by decide) rfl (by decide) (ok_X5_hold hR  g283) ?_
                    show mr X _ _ 156 _ [] (MM RR q282) _
                    refine mr_iinc (pc' := 159) (x' := (p3 + (1 : Int32))) (lv' := [(3, .int (p3 + (1 : Int32))), (1, .int (0 : Int32)), (4, .int q209.1), (2, .int (0 : Int32)), (0, .ref 38)]) dX5_readTest_156 rfl (by decide) rfl rfl rfl ?_
                    refine mr_goto (t := 21) dX5_readTest_159 (by decide) ?_
                    exact mr_sub [(0, .ref 38), (1, .int (0 : Int32)), (2, .int (0 : Int32)), (3, .int (p3 + (1 : Int32)))] ⟨rfl, rfl, rfl, rfl, trivial⟩ rfl (ih _ _ _ _  h284)
                  · rw [if_neg c275] at h211
                    refine mr_if_ge_f (t := 140) (pc' := 102) dX5_readTest_99 (by decide) rfl c275 ?_
                    refine mr_aload_n (pc' := 103) dX5_readTest_102 rfl rfl ?_
                    obtain ⟨q285, g286, h287⟩ := Option.bind_eq_some_iff.mp h211
                    refine mr_cv (pc' := 106) (a := 38) (d1 := 2) dX5_readTest_103 rfl rfl rfl rfl rfl rfl (by decide) rfl (by decide) (ok_X5_takeComparing hR  g286) ?_
                    show mr X _ _ 106 _ [.int q285.1] (MM RR q285.2) _
                    refine mr_istore (pc' := 108) (lv' := [(4, .int q285.1), (1, .int (0 : Int32)), (2, .int (0 : Int32)), (0, .ref 38), (3, .int p3)]) dX5_readTest_106 rfl (by decide) rfl ?_
                    refine mr_iload (pc' := 110) dX5_readTest_108 rfl rfl ?_
                    by_cases c288 : (0 : Int32) ≤ q285.1
                    · rw [if_pos c288] at h287
                      refine mr_if_ge_t (t := 129) dX5_readTest_110 (by decide) c288 ?_
                      refine mr_aload_n (pc' := 130) dX5_readTest_129 rfl rfl ?_
                      obtain ⟨q289, g290, h291⟩ := Option.bind_eq_some_iff.mp h287
                      refine mr_cv (pc' := 133) (a := 38) (d1 := 1) dX5_readTest_130 rfl rfl rfl rfl rfl rfl (by decide) rfl (by decide) (ok_X5_isRoomForOne hR  g290) ?_
                      show mr X _ _ 133 _ [.int q289.1] (MM RR q289.2) _
                      by_cases c292 : q289.1 = (0 : Int32)
                      · rw [if_pos c292] at h291
                        refine mr_if_ne_f (t := 138) (pc' := 136) dX5_readTest_133 (by decide) rfl (not_not_intro c292) ?_
                        refine mr_iconst (pc' := 137) (v := (0 : Int32)) dX5_readTest_136 rfl (by decide) ?_
                        obtain rfl := Option.some.inj h291
                        exact mr_zreturn dX5_readTest_137 rfl (by decide)
                      · rw [if_neg c292] at h291
                        refine mr_if_ne_t (t := 138) dX5_readTest_133 (by decide) c292 ?_
                        refine mr_iconst (pc' := 139) (v := (1 : Int32)) dX5_readTest_138 rfl (by decide) ?_
                        refine mr_istore_n (pc' := 140) (lv' := [(2, .int (1 : Int32)), (4, .int q285.1), (1, .int (0 : Int32)), (0, .ref 38), (3, .int p3)]) dX5_readTest_139 rfl (by decide) rfl ?_
                        refine mr_aload_n (pc' := 141) dX5_readTest_140 rfl rfl ?_
                        refine mr_tget (pc' := 144) rfl dX5_readTest_141 rfl ?_
                        refine mr_iload (pc' := 146) dX5_readTest_144 rfl rfl ?_
                        obtain ⟨a293, g294, h295⟩ := Option.bind_eq_some_iff.mp h291
                        refine mr_tald (pc' := 147) dX5_readTest_146 rfl g294 ?_
                        obtain ⟨q296, g297, h298⟩ := Option.bind_eq_some_iff.mp h295
                        refine mr_cv (pc' := 150) (a := 38) (d1 := 1) dX5_readTest_147 rfl rfl rfl rfl rfl rfl (by decide) rfl (by decide) (ok_X5_settle hR  g297) ?_
                        show mr X _ _ 150 _ [] (MM RR q296) _
                        refine mr_aload_n (pc' := 151) dX5_readTest_150 rfl rfl ?_
                        refine mr_iload (pc' := 153) dX5_readTest_151 rfl rfl ?_
                        obtain ⟨q299, g300, h301⟩ := Option.bind_eq_some_iff.mp h298
                        refine mr_cv (pc' := 156) (a := 38) (d1 := 0) dX5_readTest_153 rfl rfl rfl rfl rfl rfl (by decide) rfl (by decide) (ok_X5_hold hR  g300) ?_
                        show mr X _ _ 156 _ [] (MM RR q299) _
                        refine mr_iinc (pc' := 159) (x' := (p3 + (1 : Int32))) (lv' := [(3, .int (p3 + (1 : Int32))), (2, .int (1 : Int32)), (4, .int q285.1), (1, .int (0 : Int32)), (0, .ref 38)]) dX5_readTest_156 rfl (by decide) rfl rfl rfl ?_
                        refine mr_goto (t := 21) dX5_readTest_159 (by decide) ?_
                        exact mr_sub [(0, .ref 38), (1, .int (0 : Int32)), (2, .int (1 : Int32)), (3, .int (p3 + (1 : Int32)))] ⟨rfl, rfl, rfl, rfl, trivial⟩ rfl (ih _ _ _ _  h301)
                    · rw [if_neg c288] at h287
                      refine mr_if_ge_f (t := 129) (pc' := 113) dX5_readTest_110 (by decide) rfl c288 ?_
                      refine mr_aload_n (pc' := 114) dX5_readTest_113 rfl rfl ?_
                      refine mr_getR (pc' := 117) (ci := 5) (j := 0) (b := 1) hR dX5_readTest_114 rfl rfl rfl (by decide) (by decide) (by decide) rfl rfl ?_
                      refine mr_aload_n (pc' := 118) dX5_readTest_117 rfl rfl ?_
                      refine mr_getR (pc' := 121) (ci := 5) (j := 0) (b := 1) hR dX5_readTest_118 rfl rfl rfl (by decide) (by decide) (by decide) rfl rfl ?_
                      refine mr_getI (pc' := 124) (ci := 7) (j := 2) dX5_readTest_121 rfl rfl rfl (by decide) (by decide) rfl ?_
                      refine mr_iconst (pc' := 125) (v := (0 : Int32)) dX5_readTest_124 rfl (by decide) ?_
                      obtain ⟨q302, g303, h304⟩ := Option.bind_eq_some_iff.mp h287
                      refine mr_cv (pc' := 128) (a := 1) (d1 := 0) dX5_readTest_125 rfl rfl rfl rfl rfl rfl (by decide) rfl (by decide) (ok_X7_fail hR  g303) ?_
                      show mr X _ _ 128 _ [.int q302.1] (MM RR q302.2) _
                      obtain ⟨z305, g306, h307⟩ := Option.bind_eq_some_iff.mp h304
                      obtain ⟨g308, e309⟩ := mm_ifs g306
                      cases e309
                      cases h307
                      exact mr_zreturn dX5_readTest_128 rfl g308
                · rw [if_neg c274] at h211
                  refine mr_if_eq_f (t := 97) (pc' := 77) dX5_readTest_74 (by decide) rfl c274 ?_
                  refine mr_aload_n (pc' := 78) dX5_readTest_77 rfl rfl ?_
                  obtain ⟨q310, g311, h312⟩ := Option.bind_eq_some_iff.mp h211
                  refine mr_cv (pc' := 81) (a := 38) (d1 := 2) dX5_readTest_78 rfl rfl rfl rfl rfl rfl (by decide) rfl (by decide) (ok_X5_closeBrackets hR  g311) ?_
                  show mr X _ _ 81 _ [] (MM RR q310) _
                  refine mr_aload_n (pc' := 82) dX5_readTest_81 rfl rfl ?_
                  obtain ⟨q313, g314, h315⟩ := Option.bind_eq_some_iff.mp h312
                  refine mr_cv (pc' := 85) (a := 38) (d1 := 5) dX5_readTest_82 rfl rfl rfl rfl rfl rfl (by decide) rfl (by decide) (ok_X5_takeJoining hR  g314) ?_
                  show mr X _ _ 85 _ [.int q313.1] (MM RR q313.2) _
                  refine mr_istore (pc' := 87) (lv' := [(4, .int q313.1), (1, .int (0 : Int32)), (2, .int (0 : Int32)), (0, .ref 38), (3, .int p3)]) dX5_readTest_85 rfl (by decide) rfl ?_
                  refine mr_iload (pc' := 89) dX5_readTest_87 rfl rfl ?_
                  by_cases c316 : (0 : Int32) ≤ q313.1
                  · rw [if_pos c316] at h315
                    refine mr_if_ge_t (t := 140) dX5_readTest_89 (by decide) c316 ?_
                    refine mr_aload_n (pc' := 141) dX5_readTest_140 rfl rfl ?_
                    refine mr_tget (pc' := 144) rfl dX5_readTest_141 rfl ?_
                    refine mr_iload (pc' := 146) dX5_readTest_144 rfl rfl ?_
                    obtain ⟨a317, g318, h319⟩ := Option.bind_eq_some_iff.mp h315
                    refine mr_tald (pc' := 147) dX5_readTest_146 rfl g318 ?_
                    obtain ⟨q320, g321, h322⟩ := Option.bind_eq_some_iff.mp h319
                    refine mr_cv (pc' := 150) (a := 38) (d1 := 1) dX5_readTest_147 rfl rfl rfl rfl rfl rfl (by decide) rfl (by decide) (ok_X5_settle hR  g321) ?_
                    show mr X _ _ 150 _ [] (MM RR q320) _
                    refine mr_aload_n (pc' := 151) dX5_readTest_150 rfl rfl ?_
                    refine mr_iload (pc' := 153) dX5_readTest_151 rfl rfl ?_
                    obtain ⟨q323, g324, h325⟩ := Option.bind_eq_some_iff.mp h322
                    refine mr_cv (pc' := 156) (a := 38) (d1 := 0) dX5_readTest_153 rfl rfl rfl rfl rfl rfl (by decide) rfl (by decide) (ok_X5_hold hR  g324) ?_
                    show mr X _ _ 156 _ [] (MM RR q323) _
                    refine mr_iinc (pc' := 159) (x' := (p3 + (1 : Int32))) (lv' := [(3, .int (p3 + (1 : Int32))), (4, .int q313.1), (1, .int (0 : Int32)), (2, .int (0 : Int32)), (0, .ref 38)]) dX5_readTest_156 rfl (by decide) rfl rfl rfl ?_
                    refine mr_goto (t := 21) dX5_readTest_159 (by decide) ?_
                    exact mr_sub [(0, .ref 38), (1, .int (0 : Int32)), (2, .int (0 : Int32)), (3, .int (p3 + (1 : Int32)))] ⟨rfl, rfl, rfl, rfl, trivial⟩ rfl (ih _ _ _ _  h325)
                  · rw [if_neg c316] at h315
                    refine mr_if_ge_f (t := 140) (pc' := 92) dX5_readTest_89 (by decide) rfl c316 ?_
                    refine mr_aload_n (pc' := 93) dX5_readTest_92 rfl rfl ?_
                    obtain ⟨q326, g327, h328⟩ := Option.bind_eq_some_iff.mp h315
                    refine mr_cv (pc' := 96) (a := 38) (d1 := 2) dX5_readTest_93 rfl rfl rfl rfl rfl rfl (by decide) rfl (by decide) (ok_X5_isTestOver hR  g327) ?_
                    show mr X _ _ 96 _ [.int q326.1] (MM RR q326.2) _
                    obtain ⟨z329, g330, h331⟩ := Option.bind_eq_some_iff.mp h328
                    obtain ⟨g332, e333⟩ := mm_ifs g330
                    cases e333
                    cases h331
                    exact mr_zreturn dX5_readTest_96 rfl g332
              · rw [if_neg c273] at h211
                refine mr_if_eq_f (t := 71) (pc' := 67) dX5_readTest_64 (by decide) rfl c273 ?_
                refine mr_iconst (pc' := 68) (v := (1 : Int32)) dX5_readTest_67 rfl (by decide) ?_
                refine mr_goto (t := 72) dX5_readTest_68 (by decide) ?_
                refine mr_istore_n (pc' := 73) (lv' := [(1, .int (1 : Int32)), (4, .int q209.1), (2, .int (0 : Int32)), (0, .ref 38), (3, .int p3)]) dX5_readTest_72 rfl (by decide) rfl ?_
                refine mr_iload_n (pc' := 74) dX5_readTest_73 rfl rfl ?_
                by_cases c334 : (1 : Int32) = (0 : Int32)
                · rw [if_pos c334] at h211
                  refine mr_if_eq_t (t := 97) dX5_readTest_74 (by decide) c334 ?_
                  refine mr_iload (pc' := 99) dX5_readTest_97 rfl rfl ?_
                  by_cases c335 : (0 : Int32) ≤ q209.1
                  · rw [if_pos c335] at h211
                    refine mr_if_ge_t (t := 140) dX5_readTest_99 (by decide) c335 ?_
                    refine mr_aload_n (pc' := 141) dX5_readTest_140 rfl rfl ?_
                    refine mr_tget (pc' := 144) rfl dX5_readTest_141 rfl ?_
                    refine mr_iload (pc' := 146) dX5_readTest_144 rfl rfl ?_
                    obtain ⟨a336, g337, h338⟩ := Option.bind_eq_some_iff.mp h211
                    refine mr_tald (pc' := 147) dX5_readTest_146 rfl g337 ?_
                    obtain ⟨q339, g340, h341⟩ := Option.bind_eq_some_iff.mp h338
                    refine mr_cv (pc' := 150) (a := 38) (d1 := 1) dX5_readTest_147 rfl rfl rfl rfl rfl rfl (by decide) rfl (by decide) (ok_X5_settle hR  g340) ?_
                    show mr X _ _ 150 _ [] (MM RR q339) _
                    refine mr_aload_n (pc' := 151) dX5_readTest_150 rfl rfl ?_
                    refine mr_iload (pc' := 153) dX5_readTest_151 rfl rfl ?_
                    obtain ⟨q342, g343, h344⟩ := Option.bind_eq_some_iff.mp h341
                    refine mr_cv (pc' := 156) (a := 38) (d1 := 0) dX5_readTest_153 rfl rfl rfl rfl rfl rfl (by decide) rfl (by decide) (ok_X5_hold hR  g343) ?_
                    show mr X _ _ 156 _ [] (MM RR q342) _
                    refine mr_iinc (pc' := 159) (x' := (p3 + (1 : Int32))) (lv' := [(3, .int (p3 + (1 : Int32))), (1, .int (1 : Int32)), (4, .int q209.1), (2, .int (0 : Int32)), (0, .ref 38)]) dX5_readTest_156 rfl (by decide) rfl rfl rfl ?_
                    refine mr_goto (t := 21) dX5_readTest_159 (by decide) ?_
                    exact mr_sub [(0, .ref 38), (1, .int (1 : Int32)), (2, .int (0 : Int32)), (3, .int (p3 + (1 : Int32)))] ⟨rfl, rfl, rfl, rfl, trivial⟩ rfl (ih _ _ _ _  h344)
                  · rw [if_neg c335] at h211
                    refine mr_if_ge_f (t := 140) (pc' := 102) dX5_readTest_99 (by decide) rfl c335 ?_
                    refine mr_aload_n (pc' := 103) dX5_readTest_102 rfl rfl ?_
                    obtain ⟨q345, g346, h347⟩ := Option.bind_eq_some_iff.mp h211
                    refine mr_cv (pc' := 106) (a := 38) (d1 := 2) dX5_readTest_103 rfl rfl rfl rfl rfl rfl (by decide) rfl (by decide) (ok_X5_takeComparing hR  g346) ?_
                    show mr X _ _ 106 _ [.int q345.1] (MM RR q345.2) _
                    refine mr_istore (pc' := 108) (lv' := [(4, .int q345.1), (1, .int (1 : Int32)), (2, .int (0 : Int32)), (0, .ref 38), (3, .int p3)]) dX5_readTest_106 rfl (by decide) rfl ?_
                    refine mr_iload (pc' := 110) dX5_readTest_108 rfl rfl ?_
                    by_cases c348 : (0 : Int32) ≤ q345.1
                    · rw [if_pos c348] at h347
                      refine mr_if_ge_t (t := 129) dX5_readTest_110 (by decide) c348 ?_
                      refine mr_aload_n (pc' := 130) dX5_readTest_129 rfl rfl ?_
                      obtain ⟨q349, g350, h351⟩ := Option.bind_eq_some_iff.mp h347
                      refine mr_cv (pc' := 133) (a := 38) (d1 := 1) dX5_readTest_130 rfl rfl rfl rfl rfl rfl (by decide) rfl (by decide) (ok_X5_isRoomForOne hR  g350) ?_
                      show mr X _ _ 133 _ [.int q349.1] (MM RR q349.2) _
                      by_cases c352 : q349.1 = (0 : Int32)
                      · rw [if_pos c352] at h351
                        refine mr_if_ne_f (t := 138) (pc' := 136) dX5_readTest_133 (by decide) rfl (not_not_intro c352) ?_
                        refine mr_iconst (pc' := 137) (v := (0 : Int32)) dX5_readTest_136 rfl (by decide) ?_
                        obtain rfl := Option.some.inj h351
                        exact mr_zreturn dX5_readTest_137 rfl (by decide)
                      · rw [if_neg c352] at h351
                        refine mr_if_ne_t (t := 138) dX5_readTest_133 (by decide) c352 ?_
                        refine mr_iconst (pc' := 139) (v := (1 : Int32)) dX5_readTest_138 rfl (by decide) ?_
                        refine mr_istore_n (pc' := 140) (lv' := [(2, .int (1 : Int32)), (4, .int q345.1), (1, .int (1 : Int32)), (0, .ref 38), (3, .int p3)]) dX5_readTest_139 rfl (by decide) rfl ?_
                        refine mr_aload_n (pc' := 141) dX5_readTest_140 rfl rfl ?_
                        refine mr_tget (pc' := 144) rfl dX5_readTest_141 rfl ?_
                        refine mr_iload (pc' := 146) dX5_readTest_144 rfl rfl ?_
                        obtain ⟨a353, g354, h355⟩ := Option.bind_eq_some_iff.mp h351
                        refine mr_tald (pc' := 147) dX5_readTest_146 rfl g354 ?_
                        obtain ⟨q356, g357, h358⟩ := Option.bind_eq_some_iff.mp h355
                        refine mr_cv (pc' := 150) (a := 38) (d1 := 1) dX5_readTest_147 rfl rfl rfl rfl rfl rfl (by decide) rfl (by decide) (ok_X5_settle hR  g357) ?_
                        show mr X _ _ 150 _ [] (MM RR q356) _
                        refine mr_aload_n (pc' := 151) dX5_readTest_150 rfl rfl ?_
                        refine mr_iload (pc' := 153) dX5_readTest_151 rfl rfl ?_
                        obtain ⟨q359, g360, h361⟩ := Option.bind_eq_some_iff.mp h358
                        refine mr_cv (pc' := 156) (a := 38) (d1 := 0) dX5_readTest_153 rfl rfl rfl rfl rfl rfl (by decide) rfl (by decide) (ok_X5_hold hR  g360) ?_
                        show mr X _ _ 156 _ [] (MM RR q359) _
                        refine mr_iinc (pc' := 159) (x' := (p3 + (1 : Int32))) (lv' := [(3, .int (p3 + (1 : Int32))), (2, .int (1 : Int32)), (4, .int q345.1), (1, .int (1 : Int32)), (0, .ref 38)]) dX5_readTest_156 rfl (by decide) rfl rfl rfl ?_
                        refine mr_goto (t := 21) dX5_readTest_159 (by decide) ?_
                        exact mr_sub [(0, .ref 38), (1, .int (1 : Int32)), (2, .int (1 : Int32)), (3, .int (p3 + (1 : Int32)))] ⟨rfl, rfl, rfl, rfl, trivial⟩ rfl (ih _ _ _ _  h361)
                    · rw [if_neg c348] at h347
                      refine mr_if_ge_f (t := 129) (pc' := 113) dX5_readTest_110 (by decide) rfl c348 ?_
                      refine mr_aload_n (pc' := 114) dX5_readTest_113 rfl rfl ?_
                      refine mr_getR (pc' := 117) (ci := 5) (j := 0) (b := 1) hR dX5_readTest_114 rfl rfl rfl (by decide) (by decide) (by decide) rfl rfl ?_
                      refine mr_aload_n (pc' := 118) dX5_readTest_117 rfl rfl ?_
                      refine mr_getR (pc' := 121) (ci := 5) (j := 0) (b := 1) hR dX5_readTest_118 rfl rfl rfl (by decide) (by decide) (by decide) rfl rfl ?_
                      refine mr_getI (pc' := 124) (ci := 7) (j := 2) dX5_readTest_121 rfl rfl rfl (by decide) (by decide) rfl ?_
                      refine mr_iconst (pc' := 125) (v := (0 : Int32)) dX5_readTest_124 rfl (by decide) ?_
                      obtain ⟨q362, g363, h364⟩ := Option.bind_eq_some_iff.mp h347
                      refine mr_cv (pc' := 128) (a := 1) (d1 := 0) dX5_readTest_125 rfl rfl rfl rfl rfl rfl (by decide) rfl (by decide) (ok_X7_fail hR  g363) ?_
                      show mr X _ _ 128 _ [.int q362.1] (MM RR q362.2) _
                      obtain ⟨z365, g366, h367⟩ := Option.bind_eq_some_iff.mp h364
                      obtain ⟨g368, e369⟩ := mm_ifs g366
                      cases e369
                      cases h367
                      exact mr_zreturn dX5_readTest_128 rfl g368
                · rw [if_neg c334] at h211
                  refine mr_if_eq_f (t := 97) (pc' := 77) dX5_readTest_74 (by decide) rfl c334 ?_
                  refine mr_aload_n (pc' := 78) dX5_readTest_77 rfl rfl ?_
                  obtain ⟨q370, g371, h372⟩ := Option.bind_eq_some_iff.mp h211
                  refine mr_cv (pc' := 81) (a := 38) (d1 := 2) dX5_readTest_78 rfl rfl rfl rfl rfl rfl (by decide) rfl (by decide) (ok_X5_closeBrackets hR  g371) ?_
                  show mr X _ _ 81 _ [] (MM RR q370) _
                  refine mr_aload_n (pc' := 82) dX5_readTest_81 rfl rfl ?_
                  obtain ⟨q373, g374, h375⟩ := Option.bind_eq_some_iff.mp h372
                  refine mr_cv (pc' := 85) (a := 38) (d1 := 5) dX5_readTest_82 rfl rfl rfl rfl rfl rfl (by decide) rfl (by decide) (ok_X5_takeJoining hR  g374) ?_
                  show mr X _ _ 85 _ [.int q373.1] (MM RR q373.2) _
                  refine mr_istore (pc' := 87) (lv' := [(4, .int q373.1), (1, .int (1 : Int32)), (2, .int (0 : Int32)), (0, .ref 38), (3, .int p3)]) dX5_readTest_85 rfl (by decide) rfl ?_
                  refine mr_iload (pc' := 89) dX5_readTest_87 rfl rfl ?_
                  by_cases c376 : (0 : Int32) ≤ q373.1
                  · rw [if_pos c376] at h375
                    refine mr_if_ge_t (t := 140) dX5_readTest_89 (by decide) c376 ?_
                    refine mr_aload_n (pc' := 141) dX5_readTest_140 rfl rfl ?_
                    refine mr_tget (pc' := 144) rfl dX5_readTest_141 rfl ?_
                    refine mr_iload (pc' := 146) dX5_readTest_144 rfl rfl ?_
                    obtain ⟨a377, g378, h379⟩ := Option.bind_eq_some_iff.mp h375
                    refine mr_tald (pc' := 147) dX5_readTest_146 rfl g378 ?_
                    obtain ⟨q380, g381, h382⟩ := Option.bind_eq_some_iff.mp h379
                    refine mr_cv (pc' := 150) (a := 38) (d1 := 1) dX5_readTest_147 rfl rfl rfl rfl rfl rfl (by decide) rfl (by decide) (ok_X5_settle hR  g381) ?_
                    show mr X _ _ 150 _ [] (MM RR q380) _
                    refine mr_aload_n (pc' := 151) dX5_readTest_150 rfl rfl ?_
                    refine mr_iload (pc' := 153) dX5_readTest_151 rfl rfl ?_
                    obtain ⟨q383, g384, h385⟩ := Option.bind_eq_some_iff.mp h382
                    refine mr_cv (pc' := 156) (a := 38) (d1 := 0) dX5_readTest_153 rfl rfl rfl rfl rfl rfl (by decide) rfl (by decide) (ok_X5_hold hR  g384) ?_
                    show mr X _ _ 156 _ [] (MM RR q383) _
                    refine mr_iinc (pc' := 159) (x' := (p3 + (1 : Int32))) (lv' := [(3, .int (p3 + (1 : Int32))), (4, .int q373.1), (1, .int (1 : Int32)), (2, .int (0 : Int32)), (0, .ref 38)]) dX5_readTest_156 rfl (by decide) rfl rfl rfl ?_
                    refine mr_goto (t := 21) dX5_readTest_159 (by decide) ?_
                    exact mr_sub [(0, .ref 38), (1, .int (1 : Int32)), (2, .int (0 : Int32)), (3, .int (p3 + (1 : Int32)))] ⟨rfl, rfl, rfl, rfl, trivial⟩ rfl (ih _ _ _ _  h385)
                  · rw [if_neg c376] at h375
                    refine mr_if_ge_f (t := 140) (pc' := 92) dX5_readTest_89 (by decide) rfl c376 ?_
                    refine mr_aload_n (pc' := 93) dX5_readTest_92 rfl rfl ?_
                    obtain ⟨q386, g387, h388⟩ := Option.bind_eq_some_iff.mp h375
                    refine mr_cv (pc' := 96) (a := 38) (d1 := 2) dX5_readTest_93 rfl rfl rfl rfl rfl rfl (by decide) rfl (by decide) (ok_X5_isTestOver hR  g387) ?_
                    show mr X _ _ 96 _ [.int q386.1] (MM RR q386.2) _
                    obtain ⟨z389, g390, h391⟩ := Option.bind_eq_some_iff.mp h388
                    obtain ⟨g392, e393⟩ := mm_ifs g390
                    cases e393
                    cases h391
                    exact mr_zreturn dX5_readTest_96 rfl g392
def f_X5_readTest  (S : fS) : Option (Int32 × fS) :=
  (some (pI S 38 4 (0 : Int32))).bind fun S1 =>
  (some (pI S1 38 5 (0 : Int32))).bind fun S4 =>
  (some (pI S4 38 6 (0 : Int32))).bind fun S7 =>
  lp_X5_readTest_21  (fun S394 => some ((0 : Int32), S394)) FU (1 : Int32) (0 : Int32) (0 : Int32) S7
set_option maxHeartbeats 4000000 in
set_option maxRecDepth 100000 in
theorem ok_X5_readTest {X : mm_C} {RR : Nat → Nat → Option Nat} (hR : RRok RR)   {S : fS} {r : Int32 × fS} (h : f_X5_readTest  S = some r) : mr X 7 mY_X5_readTest 0 (lv_args 0 [.ref 38]) [] (MM RR S) (some (.int r.1), MM RR r.2) := by
  unfold f_X5_readTest at h
  show mr X _ _ 0 [(0, .ref 38)] [] (MM RR S) _
  refine mr_aload_n (pc' := 1) dX5_readTest_0 rfl rfl ?_
  refine mr_iconst (pc' := 2) (v := (0 : Int32)) dX5_readTest_1 rfl (by decide) ?_
  obtain ⟨S1, g2, h3⟩ := Option.bind_eq_some_iff.mp h
  refine mr_putI (pc' := 5) (ci := 5) (j := 4) dX5_readTest_2 rfl rfl rfl (by decide) (by decide) rfl rfl ?_
  rw [Option.some.inj g2]
  refine mr_aload_n (pc' := 6) dX5_readTest_5 rfl rfl ?_
  refine mr_iconst (pc' := 7) (v := (0 : Int32)) dX5_readTest_6 rfl (by decide) ?_
  obtain ⟨S4, g5, h6⟩ := Option.bind_eq_some_iff.mp h3
  refine mr_putI (pc' := 10) (ci := 5) (j := 5) dX5_readTest_7 rfl rfl rfl (by decide) (by decide) rfl rfl ?_
  rw [Option.some.inj g5]
  refine mr_aload_n (pc' := 11) dX5_readTest_10 rfl rfl ?_
  refine mr_iconst (pc' := 12) (v := (0 : Int32)) dX5_readTest_11 rfl (by decide) ?_
  obtain ⟨S7, g8, h9⟩ := Option.bind_eq_some_iff.mp h6
  refine mr_putI (pc' := 15) (ci := 5) (j := 6) dX5_readTest_12 rfl rfl rfl (by decide) (by decide) rfl rfl ?_
  rw [Option.some.inj g8]
  refine mr_iconst (pc' := 16) (v := (1 : Int32)) dX5_readTest_15 rfl (by decide) ?_
  refine mr_istore_n (pc' := 17) (lv' := [(1, .int (1 : Int32)), (0, .ref 38)]) dX5_readTest_16 rfl (by decide) rfl ?_
  refine mr_iconst (pc' := 18) (v := (0 : Int32)) dX5_readTest_17 rfl (by decide) ?_
  refine mr_istore_n (pc' := 19) (lv' := [(2, .int (0 : Int32)), (1, .int (1 : Int32)), (0, .ref 38)]) dX5_readTest_18 rfl (by decide) rfl ?_
  refine mr_iconst (pc' := 20) (v := (0 : Int32)) dX5_readTest_19 rfl (by decide) ?_
  refine mr_istore_n (pc' := 21) (lv' := [(3, .int (0 : Int32)), (2, .int (0 : Int32)), (1, .int (1 : Int32)), (0, .ref 38)]) dX5_readTest_20 rfl (by decide) rfl ?_
  refine mr_sub [(0, .ref 38), (1, .int (1 : Int32)), (2, .int (0 : Int32)), (3, .int (0 : Int32))] ⟨rfl, rfl, rfl, rfl, trivial⟩ rfl ?_
  refine ok_lp_X5_readTest_21 hR  (fun S394 h395 => ?_) FU _ _ _ _  h9
  refine mr_iconst (pc' := 163) (v := (0 : Int32)) dX5_readTest_162 rfl (by decide) ?_
  obtain rfl := Option.some.inj h395
  exact mr_zreturn dX5_readTest_163 rfl (by decide)
def f_X5_readClause (v1 : Int32) (S : fS) : Option (Int32 × fS) :=
  (f_X7_takeWord 3 S).bind fun q1 =>
  if q1.1 = (0 : Int32) then ((f_X7_fail (q1.2.1 1 2) (0 : Int32) q1.2).bind fun q40 =>
  (bZ q40.1).bind fun z43 => some (z43, q40.2)) else
  (if v1 < (12 : Int32) then ((f_X7_takeNumber (0 : Int32) (9 : Int32) q1.2).bind fun q6 =>
  if (0 : Int32) ≤ q6.1 then ((f_X7_takeWord 4 q6.2).bind fun q10 =>
  if q10.1 = (0 : Int32) then (if q10.1 = (0 : Int32) then ((f_X4_write 40 (0 : Int32) q6.1 q10.2).bind fun q15 =>
  some ((1 : Int32), q15)) else
  ((f_X4_write 40 (1 : Int32) q6.1 q10.2).bind fun q18 =>
  some ((1 : Int32), q18))) else
  ((f_X5_readTest  q10.2).bind fun q21 =>
  if q21.1 = (0 : Int32) then (some ((0 : Int32), q21.2)) else
  (if q10.1 = (0 : Int32) then ((f_X4_write 40 (0 : Int32) q6.1 q21.2).bind fun q26 =>
  some ((1 : Int32), q26)) else
  ((f_X4_write 40 (1 : Int32) q6.1 q21.2).bind fun q29 =>
  some ((1 : Int32), q29))))) else
  (some ((0 : Int32), q6.2))) else
  ((f_X7_fail (q1.2.1 1 3) (4 : Int32) q1.2).bind fun q32 =>
  (bZ q32.1).bind fun z35 => some (z35, q32.2)))
set_option maxHeartbeats 4000000 in
set_option maxRecDepth 100000 in
theorem ok_X5_readClause {X : mm_C} {RR : Nat → Nat → Option Nat} (hR : RRok RR) {v1 : Int32}  {S : fS} {r : Int32 × fS} (h : f_X5_readClause v1 S = some r) : mr X 8 mY_X5_readClause 0 (lv_args 0 [.ref 38, .int v1]) [] (MM RR S) (some (.int r.1), MM RR r.2) := by
  unfold f_X5_readClause at h
  show mr X _ _ 0 [(0, .ref 38), (1, .int v1)] [] (MM RR S) _
  refine mr_aload_n (pc' := 1) dX5_readClause_0 rfl rfl ?_
  refine mr_getR (pc' := 4) (ci := 5) (j := 0) (b := 1) hR dX5_readClause_1 rfl rfl rfl (by decide) (by decide) (by decide) rfl rfl ?_
  refine mr_ldcS (pc' := 6) (i := 3) dX5_readClause_4 rfl rfl rfl ?_
  obtain ⟨q1, g2, h3⟩ := Option.bind_eq_some_iff.mp h
  refine mr_cv (pc' := 9) (a := 1) (d1 := 4) dX5_readClause_6 rfl rfl rfl rfl rfl rfl (by decide) rfl (by decide) (ok_X7_takeWord hR (by decide) g2) ?_
  show mr X _ _ 9 _ [.int q1.1] (MM RR q1.2) _
  by_cases c4 : q1.1 = (0 : Int32)
  · rw [if_pos c4] at h3
    refine mr_if_ne_f (t := 28) (pc' := 12) dX5_readClause_9 (by decide) rfl (not_not_intro c4) ?_
    refine mr_aload_n (pc' := 13) dX5_readClause_12 rfl rfl ?_
    refine mr_getR (pc' := 16) (ci := 5) (j := 0) (b := 1) hR dX5_readClause_13 rfl rfl rfl (by decide) (by decide) (by decide) rfl rfl ?_
    refine mr_aload_n (pc' := 17) dX5_readClause_16 rfl rfl ?_
    refine mr_getR (pc' := 20) (ci := 5) (j := 0) (b := 1) hR dX5_readClause_17 rfl rfl rfl (by decide) (by decide) (by decide) rfl rfl ?_
    refine mr_getI (pc' := 23) (ci := 7) (j := 2) dX5_readClause_20 rfl rfl rfl (by decide) (by decide) rfl ?_
    refine mr_iconst (pc' := 24) (v := (0 : Int32)) dX5_readClause_23 rfl (by decide) ?_
    obtain ⟨q40, g41, h42⟩ := Option.bind_eq_some_iff.mp h3
    refine mr_cv (pc' := 27) (a := 1) (d1 := 0) dX5_readClause_24 rfl rfl rfl rfl rfl rfl (by decide) rfl (by decide) (ok_X7_fail hR  g41) ?_
    show mr X _ _ 27 _ [.int q40.1] (MM RR q40.2) _
    obtain ⟨z43, g44, h45⟩ := Option.bind_eq_some_iff.mp h42
    obtain ⟨g46, e47⟩ := mm_ifs g44
    cases e47
    cases h45
    exact mr_zreturn dX5_readClause_27 rfl g46
  · rw [if_neg c4] at h3
    refine mr_if_ne_t (t := 28) dX5_readClause_9 (by decide) c4 ?_
    refine mr_iload_n (pc' := 29) dX5_readClause_28 rfl rfl ?_
    refine mr_bipush (pc' := 31) (v := (12 : Int32)) dX5_readClause_29 rfl (by decide) ?_
    by_cases c5 : v1 < (12 : Int32)
    · rw [if_pos c5] at h3
      refine mr_icmp_lt_t (t := 50) dX5_readClause_31 (by decide) c5 ?_
      refine mr_aload_n (pc' := 51) dX5_readClause_50 rfl rfl ?_
      refine mr_getR (pc' := 54) (ci := 5) (j := 0) (b := 1) hR dX5_readClause_51 rfl rfl rfl (by decide) (by decide) (by decide) rfl rfl ?_
      refine mr_iconst (pc' := 55) (v := (0 : Int32)) dX5_readClause_54 rfl (by decide) ?_
      refine mr_bipush (pc' := 57) (v := (9 : Int32)) dX5_readClause_55 rfl (by decide) ?_
      obtain ⟨q6, g7, h8⟩ := Option.bind_eq_some_iff.mp h3
      refine mr_cv (pc' := 60) (a := 1) (d1 := 2) dX5_readClause_57 rfl rfl rfl rfl rfl rfl (by decide) rfl (by decide) (ok_X7_takeNumber hR  g7) ?_
      show mr X _ _ 60 _ [.int q6.1] (MM RR q6.2) _
      refine mr_istore_n (pc' := 61) (lv' := [(2, .int q6.1), (0, .ref 38), (1, .int v1)]) dX5_readClause_60 rfl (by decide) rfl ?_
      refine mr_iload_n (pc' := 62) dX5_readClause_61 rfl rfl ?_
      by_cases c9 : (0 : Int32) ≤ q6.1
      · rw [if_pos c9] at h8
        refine mr_if_ge_t (t := 67) dX5_readClause_62 (by decide) c9 ?_
        refine mr_aload_n (pc' := 68) dX5_readClause_67 rfl rfl ?_
        refine mr_getR (pc' := 71) (ci := 5) (j := 0) (b := 1) hR dX5_readClause_68 rfl rfl rfl (by decide) (by decide) (by decide) rfl rfl ?_
        refine mr_ldcS (pc' := 73) (i := 4) dX5_readClause_71 rfl rfl rfl ?_
        obtain ⟨q10, g11, h12⟩ := Option.bind_eq_some_iff.mp h8
        refine mr_cv (pc' := 76) (a := 1) (d1 := 4) dX5_readClause_73 rfl rfl rfl rfl rfl rfl (by decide) rfl (by decide) (ok_X7_takeWord hR (by decide) g11) ?_
        show mr X _ _ 76 _ [.int q10.1] (MM RR q10.2) _
        refine mr_istore_n (pc' := 77) (lv' := [(3, .int q10.1), (2, .int q6.1), (0, .ref 38), (1, .int v1)]) dX5_readClause_76 rfl (by decide) rfl ?_
        refine mr_iload_n (pc' := 78) dX5_readClause_77 rfl rfl ?_
        by_cases c13 : q10.1 = (0 : Int32)
        · rw [if_pos c13] at h12
          refine mr_if_eq_t (t := 90) dX5_readClause_78 (by decide) c13 ?_
          refine mr_aload_n (pc' := 91) dX5_readClause_90 rfl rfl ?_
          refine mr_getR (pc' := 94) (ci := 5) (j := 2) (b := 40) hR dX5_readClause_91 rfl rfl rfl (by decide) (by decide) (by decide) rfl rfl ?_
          refine mr_iload_n (pc' := 95) dX5_readClause_94 rfl rfl ?_
          by_cases c14 : q10.1 = (0 : Int32)
          · rw [if_pos c14] at h12
            refine mr_if_eq_t (t := 102) dX5_readClause_95 (by decide) c14 ?_
            refine mr_iconst (pc' := 103) (v := (0 : Int32)) dX5_readClause_102 rfl (by decide) ?_
            refine mr_iload_n (pc' := 104) dX5_readClause_103 rfl rfl ?_
            obtain ⟨q15, g16, h17⟩ := Option.bind_eq_some_iff.mp h12
            refine mr_cv (pc' := 107) (a := 40) (d1 := 0) dX5_readClause_104 rfl rfl rfl rfl rfl rfl (by decide) rfl (by decide) (ok_X4_write hR rfl g16) ?_
            show mr X _ _ 107 _ [] (MM RR q15) _
            refine mr_iconst (pc' := 108) (v := (1 : Int32)) dX5_readClause_107 rfl (by decide) ?_
            obtain rfl := Option.some.inj h17
            exact mr_zreturn dX5_readClause_108 rfl (by decide)
          · rw [if_neg c14] at h12
            refine mr_if_eq_f (t := 102) (pc' := 98) dX5_readClause_95 (by decide) rfl c14 ?_
            refine mr_iconst (pc' := 99) (v := (1 : Int32)) dX5_readClause_98 rfl (by decide) ?_
            refine mr_goto (t := 103) dX5_readClause_99 (by decide) ?_
            refine mr_iload_n (pc' := 104) dX5_readClause_103 rfl rfl ?_
            obtain ⟨q18, g19, h20⟩ := Option.bind_eq_some_iff.mp h12
            refine mr_cv (pc' := 107) (a := 40) (d1 := 0) dX5_readClause_104 rfl rfl rfl rfl rfl rfl (by decide) rfl (by decide) (ok_X4_write hR rfl g19) ?_
            show mr X _ _ 107 _ [] (MM RR q18) _
            refine mr_iconst (pc' := 108) (v := (1 : Int32)) dX5_readClause_107 rfl (by decide) ?_
            obtain rfl := Option.some.inj h20
            exact mr_zreturn dX5_readClause_108 rfl (by decide)
        · rw [if_neg c13] at h12
          refine mr_if_eq_f (t := 90) (pc' := 81) dX5_readClause_78 (by decide) rfl c13 ?_
          refine mr_aload_n (pc' := 82) dX5_readClause_81 rfl rfl ?_
          obtain ⟨q21, g22, h23⟩ := Option.bind_eq_some_iff.mp h12
          refine mr_cv (pc' := 85) (a := 38) (d1 := 7) dX5_readClause_82 rfl rfl rfl rfl rfl rfl (by decide) rfl (by decide) (ok_X5_readTest hR  g22) ?_
          show mr X _ _ 85 _ [.int q21.1] (MM RR q21.2) _
          by_cases c24 : q21.1 = (0 : Int32)
          · rw [if_pos c24] at h23
            refine mr_if_ne_f (t := 90) (pc' := 88) dX5_readClause_85 (by decide) rfl (not_not_intro c24) ?_
            refine mr_iconst (pc' := 89) (v := (0 : Int32)) dX5_readClause_88 rfl (by decide) ?_
            obtain rfl := Option.some.inj h23
            exact mr_zreturn dX5_readClause_89 rfl (by decide)
          · rw [if_neg c24] at h23
            refine mr_if_ne_t (t := 90) dX5_readClause_85 (by decide) c24 ?_
            refine mr_aload_n (pc' := 91) dX5_readClause_90 rfl rfl ?_
            refine mr_getR (pc' := 94) (ci := 5) (j := 2) (b := 40) hR dX5_readClause_91 rfl rfl rfl (by decide) (by decide) (by decide) rfl rfl ?_
            refine mr_iload_n (pc' := 95) dX5_readClause_94 rfl rfl ?_
            by_cases c25 : q10.1 = (0 : Int32)
            · rw [if_pos c25] at h23
              refine mr_if_eq_t (t := 102) dX5_readClause_95 (by decide) c25 ?_
              refine mr_iconst (pc' := 103) (v := (0 : Int32)) dX5_readClause_102 rfl (by decide) ?_
              refine mr_iload_n (pc' := 104) dX5_readClause_103 rfl rfl ?_
              obtain ⟨q26, g27, h28⟩ := Option.bind_eq_some_iff.mp h23
              refine mr_cv (pc' := 107) (a := 40) (d1 := 0) dX5_readClause_104 rfl rfl rfl rfl rfl rfl (by decide) rfl (by decide) (ok_X4_write hR rfl g27) ?_
              show mr X _ _ 107 _ [] (MM RR q26) _
              refine mr_iconst (pc' := 108) (v := (1 : Int32)) dX5_readClause_107 rfl (by decide) ?_
              obtain rfl := Option.some.inj h28
              exact mr_zreturn dX5_readClause_108 rfl (by decide)
            · rw [if_neg c25] at h23
              refine mr_if_eq_f (t := 102) (pc' := 98) dX5_readClause_95 (by decide) rfl c25 ?_
              refine mr_iconst (pc' := 99) (v := (1 : Int32)) dX5_readClause_98 rfl (by decide) ?_
              refine mr_goto (t := 103) dX5_readClause_99 (by decide) ?_
              refine mr_iload_n (pc' := 104) dX5_readClause_103 rfl rfl ?_
              obtain ⟨q29, g30, h31⟩ := Option.bind_eq_some_iff.mp h23
              refine mr_cv (pc' := 107) (a := 40) (d1 := 0) dX5_readClause_104 rfl rfl rfl rfl rfl rfl (by decide) rfl (by decide) (ok_X4_write hR rfl g30) ?_
              show mr X _ _ 107 _ [] (MM RR q29) _
              refine mr_iconst (pc' := 108) (v := (1 : Int32)) dX5_readClause_107 rfl (by decide) ?_
              obtain rfl := Option.some.inj h31
              exact mr_zreturn dX5_readClause_108 rfl (by decide)
      · rw [if_neg c9] at h8
        refine mr_if_ge_f (t := 67) (pc' := 65) dX5_readClause_62 (by decide) rfl c9 ?_
        refine mr_iconst (pc' := 66) (v := (0 : Int32)) dX5_readClause_65 rfl (by decide) ?_
        obtain rfl := Option.some.inj h8
        exact mr_zreturn dX5_readClause_66 rfl (by decide)
    · rw [if_neg c5] at h3
      refine mr_icmp_lt_f (t := 50) (pc' := 34) dX5_readClause_31 (by decide) rfl c5 ?_
      refine mr_aload_n (pc' := 35) dX5_readClause_34 rfl rfl ?_
      refine mr_getR (pc' := 38) (ci := 5) (j := 0) (b := 1) hR dX5_readClause_35 rfl rfl rfl (by decide) (by decide) (by decide) rfl rfl ?_
      refine mr_aload_n (pc' := 39) dX5_readClause_38 rfl rfl ?_
      refine mr_getR (pc' := 42) (ci := 5) (j := 0) (b := 1) hR dX5_readClause_39 rfl rfl rfl (by decide) (by decide) (by decide) rfl rfl ?_
      refine mr_getI (pc' := 45) (ci := 7) (j := 3) dX5_readClause_42 rfl rfl rfl (by decide) (by decide) rfl ?_
      refine mr_iconst (pc' := 46) (v := (4 : Int32)) dX5_readClause_45 rfl (by decide) ?_
      obtain ⟨q32, g33, h34⟩ := Option.bind_eq_some_iff.mp h3
      refine mr_cv (pc' := 49) (a := 1) (d1 := 0) dX5_readClause_46 rfl rfl rfl rfl rfl rfl (by decide) rfl (by decide) (ok_X7_fail hR  g33) ?_
      show mr X _ _ 49 _ [.int q32.1] (MM RR q32.2) _
      obtain ⟨z35, g36, h37⟩ := Option.bind_eq_some_iff.mp h34
      obtain ⟨g38, e39⟩ := mm_ifs g36
      cases e39
      cases h37
      exact mr_zreturn dX5_readClause_49 rfl g38
def lp_X5_read_22  (K : fS → Option (Int32 × fS)) : Nat → Int32 → fS → Option (Int32 × fS)
  | 0, _, _ => none
  | n + 1, p1, S0 =>
    if (12 : Int32) < p1 then (K S0) else
    ((f_X5_readClause p1 S0).bind fun q11 =>
    if q11.1 = (0 : Int32) then (some ((0 : Int32), q11.2)) else
    ((f_X7_isAtEnd  q11.2).bind fun q15 =>
    if q15.1 = (0 : Int32) then ((f_X7_takeSign (59 : Int32) q15.2).bind fun q19 =>
    if q19.1 = (0 : Int32) then ((f_X7_fail (q19.2.1 1 2) (0 : Int32) q19.2).bind fun q23 =>
    (bZ q23.1).bind fun z26 => some (z26, q23.2)) else
    (lp_X5_read_22  K n (p1 + (1 : Int32)) q19.2)) else
    (some ((1 : Int32), q15.2))))
set_option maxHeartbeats 4000000 in
set_option maxRecDepth 100000 in
theorem ok_lp_X5_read_22 {X : mm_C} {RR : Nat → Nat → Option Nat} (hR : RRok RR)   {K : fS → Option (Int32 × fS)} {r : Int32 × fS} (hK : ∀ (Sk : fS), K Sk = some r → mr X 9 mY_X5_read 84 [] [] (MM RR Sk) (some (.int r.1), MM RR r.2)) : ∀ (n : Nat) (p1 : Int32) (S0 : fS), lp_X5_read_22  K n p1 S0 = some r → mr X 9 mY_X5_read 22 [(0, .ref 38), (1, .int p1)] [] (MM RR S0) (some (.int r.1), MM RR r.2) := by
  intro n
  induction n with
  | zero => intro p1 S0 h; exact mm_no h
  | succ n ih =>
    intro p1 S0 h
    unfold lp_X5_read_22 at h
    refine mr_iload_n (pc' := 23) dX5_read_22 rfl rfl ?_
    refine mr_bipush (pc' := 25) (v := (12 : Int32)) dX5_read_23 rfl (by decide) ?_
    by_cases c10 : (12 : Int32) < p1
    · rw [if_pos c10] at h
      refine mr_icmp_gt_t (t := 84) dX5_read_25 (by decide) c10 ?_
      exact mr_sub [] trivial rfl (hK _  h)
    · rw [if_neg c10] at h
      refine mr_icmp_gt_f (t := 84) (pc' := 28) dX5_read_25 (by decide) rfl c10 ?_
      refine mr_aload_n (pc' := 29) dX5_read_28 rfl rfl ?_
      refine mr_iload_n (pc' := 30) dX5_read_29 rfl rfl ?_
      obtain ⟨q11, g12, h13⟩ := Option.bind_eq_some_iff.mp h
      refine mr_cv (pc' := 33) (a := 38) (d1 := 8) dX5_read_30 rfl rfl rfl rfl rfl rfl (by decide) rfl (by decide) (ok_X5_readClause hR  g12) ?_
      show mr X _ _ 33 _ [.int q11.1] (MM RR q11.2) _
      by_cases c14 : q11.1 = (0 : Int32)
      · rw [if_pos c14] at h13
        refine mr_if_ne_f (t := 38) (pc' := 36) dX5_read_33 (by decide) rfl (not_not_intro c14) ?_
        refine mr_iconst (pc' := 37) (v := (0 : Int32)) dX5_read_36 rfl (by decide) ?_
        obtain rfl := Option.some.inj h13
        exact mr_zreturn dX5_read_37 rfl (by decide)
      · rw [if_neg c14] at h13
        refine mr_if_ne_t (t := 38) dX5_read_33 (by decide) c14 ?_
        refine mr_aload_n (pc' := 39) dX5_read_38 rfl rfl ?_
        refine mr_getR (pc' := 42) (ci := 5) (j := 0) (b := 1) hR dX5_read_39 rfl rfl rfl (by decide) (by decide) (by decide) rfl rfl ?_
        obtain ⟨q15, g16, h17⟩ := Option.bind_eq_some_iff.mp h13
        refine mr_cv (pc' := 45) (a := 1) (d1 := 1) dX5_read_42 rfl rfl rfl rfl rfl rfl (by decide) rfl (by decide) (ok_X7_isAtEnd hR  g16) ?_
        show mr X _ _ 45 _ [.int q15.1] (MM RR q15.2) _
        by_cases c18 : q15.1 = (0 : Int32)
        · rw [if_pos c18] at h17
          refine mr_if_eq_t (t := 50) dX5_read_45 (by decide) c18 ?_
          refine mr_aload_n (pc' := 51) dX5_read_50 rfl rfl ?_
          refine mr_getR (pc' := 54) (ci := 5) (j := 0) (b := 1) hR dX5_read_51 rfl rfl rfl (by decide) (by decide) (by decide) rfl rfl ?_
          refine mr_bipush (pc' := 56) (v := (59 : Int32)) dX5_read_54 rfl (by decide) ?_
          obtain ⟨q19, g20, h21⟩ := Option.bind_eq_some_iff.mp h17
          refine mr_cv (pc' := 59) (a := 1) (d1 := 1) dX5_read_56 rfl rfl rfl rfl rfl rfl (by decide) rfl (by decide) (ok_X7_takeSign hR  g20) ?_
          show mr X _ _ 59 _ [.int q19.1] (MM RR q19.2) _
          by_cases c22 : q19.1 = (0 : Int32)
          · rw [if_pos c22] at h21
            refine mr_if_ne_f (t := 78) (pc' := 62) dX5_read_59 (by decide) rfl (not_not_intro c22) ?_
            refine mr_aload_n (pc' := 63) dX5_read_62 rfl rfl ?_
            refine mr_getR (pc' := 66) (ci := 5) (j := 0) (b := 1) hR dX5_read_63 rfl rfl rfl (by decide) (by decide) (by decide) rfl rfl ?_
            refine mr_aload_n (pc' := 67) dX5_read_66 rfl rfl ?_
            refine mr_getR (pc' := 70) (ci := 5) (j := 0) (b := 1) hR dX5_read_67 rfl rfl rfl (by decide) (by decide) (by decide) rfl rfl ?_
            refine mr_getI (pc' := 73) (ci := 7) (j := 2) dX5_read_70 rfl rfl rfl (by decide) (by decide) rfl ?_
            refine mr_iconst (pc' := 74) (v := (0 : Int32)) dX5_read_73 rfl (by decide) ?_
            obtain ⟨q23, g24, h25⟩ := Option.bind_eq_some_iff.mp h21
            refine mr_cv (pc' := 77) (a := 1) (d1 := 0) dX5_read_74 rfl rfl rfl rfl rfl rfl (by decide) rfl (by decide) (ok_X7_fail hR  g24) ?_
            show mr X _ _ 77 _ [.int q23.1] (MM RR q23.2) _
            obtain ⟨z26, g27, h28⟩ := Option.bind_eq_some_iff.mp h25
            obtain ⟨g29, e30⟩ := mm_ifs g27
            cases e30
            cases h28
            exact mr_zreturn dX5_read_77 rfl g29
          · rw [if_neg c22] at h21
            refine mr_if_ne_t (t := 78) dX5_read_59 (by decide) c22 ?_
            refine mr_iinc (pc' := 81) (x' := (p1 + (1 : Int32))) (lv' := [(1, .int (p1 + (1 : Int32))), (0, .ref 38)]) dX5_read_78 rfl (by decide) rfl rfl rfl ?_
            refine mr_goto (t := 22) dX5_read_81 (by decide) ?_
            exact mr_sub [(0, .ref 38), (1, .int (p1 + (1 : Int32)))] ⟨rfl, rfl, trivial⟩ rfl (ih _ _  h21)
        · rw [if_neg c18] at h17
          refine mr_if_eq_f (t := 50) (pc' := 48) dX5_read_45 (by decide) rfl c18 ?_
          refine mr_iconst (pc' := 49) (v := (1 : Int32)) dX5_read_48 rfl (by decide) ?_
          obtain rfl := Option.some.inj h17
          exact mr_zreturn dX5_read_49 rfl (by decide)
def f_X5_read  (S : fS) : Option (Int32 × fS) :=
  (some (pI S 40 2 (0 : Int32))).bind fun S1 =>
  (some (pI S1 38 3 (0 : Int32))).bind fun S4 =>
  (f_X7_rewind  S4).bind fun q7 =>
  lp_X5_read_22  (fun S31 => some ((0 : Int32), S31)) FU (0 : Int32) q7
set_option maxHeartbeats 4000000 in
set_option maxRecDepth 100000 in
theorem ok_X5_read {X : mm_C} {RR : Nat → Nat → Option Nat} (hR : RRok RR)   {S : fS} {r : Int32 × fS} (h : f_X5_read  S = some r) : mr X 9 mY_X5_read 0 (lv_args 0 [.ref 38]) [] (MM RR S) (some (.int r.1), MM RR r.2) := by
  unfold f_X5_read at h
  show mr X _ _ 0 [(0, .ref 38)] [] (MM RR S) _
  refine mr_aload_n (pc' := 1) dX5_read_0 rfl rfl ?_
  refine mr_getR (pc' := 4) (ci := 5) (j := 2) (b := 40) hR dX5_read_1 rfl rfl rfl (by decide) (by decide) (by decide) rfl rfl ?_
  refine mr_iconst (pc' := 5) (v := (0 : Int32)) dX5_read_4 rfl (by decide) ?_
  obtain ⟨S1, g2, h3⟩ := Option.bind_eq_some_iff.mp h
  refine mr_putI (pc' := 8) (ci := 4) (j := 2) dX5_read_5 rfl rfl rfl (by decide) (by decide) rfl rfl ?_
  rw [Option.some.inj g2]
  refine mr_aload_n (pc' := 9) dX5_read_8 rfl rfl ?_
  refine mr_iconst (pc' := 10) (v := (0 : Int32)) dX5_read_9 rfl (by decide) ?_
  obtain ⟨S4, g5, h6⟩ := Option.bind_eq_some_iff.mp h3
  refine mr_putI (pc' := 13) (ci := 5) (j := 3) dX5_read_10 rfl rfl rfl (by decide) (by decide) rfl rfl ?_
  rw [Option.some.inj g5]
  refine mr_aload_n (pc' := 14) dX5_read_13 rfl rfl ?_
  refine mr_getR (pc' := 17) (ci := 5) (j := 0) (b := 1) hR dX5_read_14 rfl rfl rfl (by decide) (by decide) (by decide) rfl rfl ?_
  obtain ⟨q7, g8, h9⟩ := Option.bind_eq_some_iff.mp h6
  refine mr_cv (pc' := 20) (a := 1) (d1 := 0) dX5_read_17 rfl rfl rfl rfl rfl rfl (by decide) rfl (by decide) (ok_X7_rewind hR  g8) ?_
  show mr X _ _ 20 _ [] (MM RR q7) _
  refine mr_iconst (pc' := 21) (v := (0 : Int32)) dX5_read_20 rfl (by decide) ?_
  refine mr_istore_n (pc' := 22) (lv' := [(1, .int (0 : Int32)), (0, .ref 38)]) dX5_read_21 rfl (by decide) rfl ?_
  refine mr_sub [(0, .ref 38), (1, .int (0 : Int32))] ⟨rfl, rfl, trivial⟩ rfl ?_
  refine ok_lp_X5_read_22 hR  (fun S31 h32 => ?_) FU _ _  h9
  refine mr_iconst (pc' := 85) (v := (0 : Int32)) dX5_read_84 rfl (by decide) ?_
  obtain rfl := Option.some.inj h32
  exact mr_zreturn dX5_read_85 rfl (by decide)
def f_X4_copyFrom (v0 : Nat) (v1 : Nat) (S : fS) : Option (fS) :=
  (some (cI S (v1 + 1) (v0 + 1) 400)).bind fun S1 =>
  (some (pI S1 v0 2 (S1.1 v1 2))).bind fun S4 =>
  some S4
set_option maxHeartbeats 4000000 in
set_option maxRecDepth 100000 in
theorem ok_X4_copyFrom {X : mm_C} {RR : Nat → Nat → Option Nat} (hR : RRok RR) {v0 : Nat} {v1 : Nat} (t0 : tg v0 = 4) (t1 : tg v1 = 4) {S : fS} {r : fS} (h : f_X4_copyFrom v0 v1 S = some r) : mr X 0 mY_X4_copyFrom 0 (lv_args 0 [.ref v0, .ref v1]) [] (MM RR S) (none, MM RR r) := by
  unfold f_X4_copyFrom at h
  show mr X _ _ 0 [(0, .ref v0), (1, .ref v1)] [] (MM RR S) _
  refine mr_aload_n (pc' := 1) dX4_copyFrom_0 rfl rfl ?_
  refine mr_getR (pc' := 4) (ci := 4) (j := 0) (b := (v1 + 1)) hR dX4_copyFrom_1 rfl rfl t1 (by decide) (by decide) (by decide) rfl (ly4_0 t1).1 ?_
  refine mr_iconst (pc' := 5) (v := (0 : Int32)) dX4_copyFrom_4 rfl (by decide) ?_
  refine mr_aload_n (pc' := 6) dX4_copyFrom_5 rfl rfl ?_
  refine mr_getR (pc' := 9) (ci := 4) (j := 0) (b := (v0 + 1)) hR dX4_copyFrom_6 rfl rfl t0 (by decide) (by decide) (by decide) rfl (ly4_0 t0).1 ?_
  refine mr_iconst (pc' := 10) (v := (0 : Int32)) dX4_copyFrom_9 rfl (by decide) ?_
  refine mr_sipush (pc' := 13) (v := (400 : Int32)) dX4_copyFrom_10 rfl (by decide) ?_
  obtain ⟨S1, g2, h3⟩ := Option.bind_eq_some_iff.mp h
  refine mr_cpyI (pc' := 16) (n := 400) dX4_copyFrom_13 rfl rfl (by decide) ⟨(ly4_0 t1).2.1, Nat.le_of_eq (ly4_0 t1).2.2.symm⟩ ⟨(ly4_0 t0).2.1, Nat.le_of_eq (ly4_0 t0).2.2.symm⟩ (by decide) (by decide) ?_
  rw [Option.some.inj g2]
  refine mr_aload_n (pc' := 17) dX4_copyFrom_16 rfl rfl ?_
  refine mr_aload_n (pc' := 18) dX4_copyFrom_17 rfl rfl ?_
  refine mr_getI (pc' := 21) (ci := 4) (j := 2) dX4_copyFrom_18 rfl rfl t1 (by decide) (by decide) rfl ?_
  obtain ⟨S4, g5, h6⟩ := Option.bind_eq_some_iff.mp h3
  refine mr_putI (pc' := 24) (ci := 4) (j := 2) dX4_copyFrom_21 rfl rfl t0 (by decide) (by decide) rfl rfl ?_
  rw [Option.some.inj g5]
  obtain rfl := Option.some.inj h6
  exact mr_return dX4_copyFrom_24 rfl
def f_X10_rule  (S : fS) : Option (Int32 × fS) :=
  if (S.1 0 10) < (6 : Int32) then ((f_X5_read  S).bind fun q2 =>
  (some (pI q2.2 1 1 (0 : Int32))).bind fun S5 =>
  if q2.1 = (0 : Int32) then (some (((-2 : Int32) - (S5.1 1 4)), S5)) else
  ((gA23 (S5.1 0 10)).bind fun a9 =>
  (f_X4_copyFrom a9 40 S5).bind fun q12 =>
  (some (pI q12 0 10 ((q12.1 0 10) + (1 : Int32)))).bind fun S15 =>
  some (((S15.1 0 10) - (1 : Int32)), S15))) else
  (some ((-1 : Int32), S))
set_option maxHeartbeats 4000000 in
set_option maxRecDepth 100000 in
theorem ok_X10_rule {X : mm_C} {RR : Nat → Nat → Option Nat} (hR : RRok RR)   {S : fS} {r : Int32 × fS} (h : f_X10_rule  S = some r) : mr X 10 mY_X10_rule 0 (lv_args 0 [.ref 0]) [] (MM RR S) (some (.int r.1), MM RR r.2) := by
  unfold f_X10_rule at h
  show mr X _ _ 0 [(0, .ref 0)] [] (MM RR S) _
  refine mr_aload_n (pc' := 1) dX10_rule_0 rfl rfl ?_
  refine mr_getI (pc' := 4) (ci := 10) (j := 10) dX10_rule_1 rfl rfl rfl (by decide) (by decide) rfl ?_
  refine mr_bipush (pc' := 6) (v := (6 : Int32)) dX10_rule_4 rfl (by decide) ?_
  by_cases c1 : (S.1 0 10) < (6 : Int32)
  · rw [if_pos c1] at h
    refine mr_icmp_lt_t (t := 11) dX10_rule_6 (by decide) c1 ?_
    refine mr_aload_n (pc' := 12) dX10_rule_11 rfl rfl ?_
    refine mr_getR (pc' := 15) (ci := 10) (j := 7) (b := 38) hR dX10_rule_12 rfl rfl rfl (by decide) (by decide) (by decide) rfl rfl ?_
    obtain ⟨q2, g3, h4⟩ := Option.bind_eq_some_iff.mp h
    refine mr_cv (pc' := 18) (a := 38) (d1 := 9) dX10_rule_15 rfl rfl rfl rfl rfl rfl (by decide) rfl (by decide) (ok_X5_read hR  g3) ?_
    show mr X _ _ 18 _ [.int q2.1] (MM RR q2.2) _
    refine mr_istore_n (pc' := 19) (lv' := [(1, .int q2.1), (0, .ref 0)]) dX10_rule_18 rfl (by decide) rfl ?_
    refine mr_aload_n (pc' := 20) dX10_rule_19 rfl rfl ?_
    refine mr_getR (pc' := 23) (ci := 10) (j := 0) (b := 1) hR dX10_rule_20 rfl rfl rfl (by decide) (by decide) (by decide) rfl rfl ?_
    refine mr_iconst (pc' := 24) (v := (0 : Int32)) dX10_rule_23 rfl (by decide) ?_
    obtain ⟨S5, g6, h7⟩ := Option.bind_eq_some_iff.mp h4
    refine mr_putI (pc' := 27) (ci := 7) (j := 1) dX10_rule_24 rfl rfl rfl (by decide) (by decide) rfl rfl ?_
    rw [Option.some.inj g6]
    refine mr_iload_n (pc' := 28) dX10_rule_27 rfl rfl ?_
    by_cases c8 : q2.1 = (0 : Int32)
    · rw [if_pos c8] at h7
      refine mr_if_ne_f (t := 42) (pc' := 31) dX10_rule_28 (by decide) rfl (not_not_intro c8) ?_
      refine mr_bipush (pc' := 33) (v := (-2 : Int32)) dX10_rule_31 rfl (by decide) ?_
      refine mr_aload_n (pc' := 34) dX10_rule_33 rfl rfl ?_
      refine mr_getR (pc' := 37) (ci := 10) (j := 0) (b := 1) hR dX10_rule_34 rfl rfl rfl (by decide) (by decide) (by decide) rfl rfl ?_
      refine mr_getI (pc' := 40) (ci := 7) (j := 4) dX10_rule_37 rfl rfl rfl (by decide) (by decide) rfl ?_
      refine mr_isub (pc' := 41) dX10_rule_40 rfl ?_
      obtain rfl := Option.some.inj h7
      exact mr_ireturn dX10_rule_41 rfl
    · rw [if_neg c8] at h7
      refine mr_if_ne_t (t := 42) dX10_rule_28 (by decide) c8 ?_
      refine mr_aload_n (pc' := 43) dX10_rule_42 rfl rfl ?_
      refine mr_getR (pc' := 46) (ci := 10) (j := 3) (b := 23) hR dX10_rule_43 rfl rfl rfl (by decide) (by decide) (by decide) rfl rfl ?_
      refine mr_aload_n (pc' := 47) dX10_rule_46 rfl rfl ?_
      refine mr_getI (pc' := 50) (ci := 10) (j := 10) dX10_rule_47 rfl rfl rfl (by decide) (by decide) rfl ?_
      obtain ⟨a9, g10, h11⟩ := Option.bind_eq_some_iff.mp h7
      refine mr_aald23 (pc' := 51) hR dX10_rule_50 rfl g10 ?_
      refine mr_aload_n (pc' := 52) dX10_rule_51 rfl rfl ?_
      refine mr_getR (pc' := 55) (ci := 10) (j := 7) (b := 38) hR dX10_rule_52 rfl rfl rfl (by decide) (by decide) (by decide) rfl rfl ?_
      refine mr_getR (pc' := 58) (ci := 5) (j := 2) (b := 40) hR dX10_rule_55 rfl rfl rfl (by decide) (by decide) (by decide) rfl rfl ?_
      obtain ⟨q12, g13, h14⟩ := Option.bind_eq_some_iff.mp h11
      refine mr_cv (pc' := 61) (a := a9) (d1 := 0) dX10_rule_58 rfl rfl rfl rfl rfl (gA23_tg g10) (by decide) rfl (by decide) (ok_X4_copyFrom hR (gA23_tg g10) rfl g13) ?_
      show mr X _ _ 61 _ [] (MM RR q12) _
      refine mr_aload_n (pc' := 62) dX10_rule_61 rfl rfl ?_
      refine mr_dup_ref (pc' := 63) dX10_rule_62 rfl ?_
      refine mr_getI (pc' := 66) (ci := 10) (j := 10) dX10_rule_63 rfl rfl rfl (by decide) (by decide) rfl ?_
      refine mr_iconst (pc' := 67) (v := (1 : Int32)) dX10_rule_66 rfl (by decide) ?_
      refine mr_iadd (pc' := 68) dX10_rule_67 rfl ?_
      obtain ⟨S15, g16, h17⟩ := Option.bind_eq_some_iff.mp h14
      refine mr_putI (pc' := 71) (ci := 10) (j := 10) dX10_rule_68 rfl rfl rfl (by decide) (by decide) rfl rfl ?_
      rw [Option.some.inj g16]
      refine mr_aload_n (pc' := 72) dX10_rule_71 rfl rfl ?_
      refine mr_getI (pc' := 75) (ci := 10) (j := 10) dX10_rule_72 rfl rfl rfl (by decide) (by decide) rfl ?_
      refine mr_iconst (pc' := 76) (v := (1 : Int32)) dX10_rule_75 rfl (by decide) ?_
      refine mr_isub (pc' := 77) dX10_rule_76 rfl ?_
      obtain rfl := Option.some.inj h17
      exact mr_ireturn dX10_rule_77 rfl
  · rw [if_neg c1] at h
    refine mr_icmp_lt_f (t := 11) (pc' := 9) dX10_rule_6 (by decide) rfl c1 ?_
    refine mr_iconst (pc' := 10) (v := (-1 : Int32)) dX10_rule_9 rfl (by decide) ?_
    obtain rfl := Option.some.inj h
    exact mr_ireturn dX10_rule_10 rfl
def f_X10_isFloor (v1 : Int32) (S : fS) : Option (Int32) :=
  (f_X10_isFrom v1 (0 : Int32) ((S.1 4 6) - (1 : Int32)) S).bind fun q1 =>
  (bZ q1).bind fun z4 => some z4
set_option maxHeartbeats 4000000 in
set_option maxRecDepth 100000 in
theorem ok_X10_isFloor {X : mm_C} {RR : Nat → Nat → Option Nat} (hR : RRok RR) {v1 : Int32}  {S : fS} {r : Int32} (h : f_X10_isFloor v1 S = some r) : mr X 1 mY_X10_isFloor 0 (lv_args 0 [.ref 0, .int v1]) [] (MM RR S) (some (.int r), MM RR S) := by
  unfold f_X10_isFloor at h
  show mr X _ _ 0 [(0, .ref 0), (1, .int v1)] [] (MM RR S) _
  refine mr_iload_n (pc' := 1) dX10_isFloor_0 rfl rfl ?_
  refine mr_iconst (pc' := 2) (v := (0 : Int32)) dX10_isFloor_1 rfl (by decide) ?_
  refine mr_aload_n (pc' := 3) dX10_isFloor_2 rfl rfl ?_
  refine mr_getR (pc' := 6) (ci := 10) (j := 1) (b := 3) hR dX10_isFloor_3 rfl rfl rfl (by decide) (by decide) (by decide) rfl rfl ?_
  refine mr_getR (pc' := 9) (ci := 6) (j := 0) (b := 4) hR dX10_isFloor_6 rfl rfl rfl (by decide) (by decide) (by decide) rfl rfl ?_
  refine mr_getI (pc' := 12) (ci := 8) (j := 6) dX10_isFloor_9 rfl rfl rfl (by decide) (by decide) rfl ?_
  refine mr_iconst (pc' := 13) (v := (1 : Int32)) dX10_isFloor_12 rfl (by decide) ?_
  refine mr_isub (pc' := 14) dX10_isFloor_13 rfl ?_
  obtain ⟨q1, g2, h3⟩ := Option.bind_eq_some_iff.mp h
  refine mr_cs (pc' := 17) (d1 := 0) dX10_isFloor_14 rfl rfl rfl rfl (by decide) (Nat.le_of_ble_eq_true rfl) rfl rfl rfl (by decide) (ok_X10_isFrom hR  g2) ?_
  show mr X _ _ 17 _ [.int q1] (MM RR S) _
  obtain ⟨z4, g5, h6⟩ := Option.bind_eq_some_iff.mp h3
  obtain ⟨g7, e8⟩ := mm_ifs g5
  cases e8
  cases h6
  exact mr_zreturn dX10_isFloor_17 rfl g7
def lp_X0_standingOn_4 (p0 : Nat) (p1 : Int32) (S : fS) (K : Int32 → Option (Int32)) : Nat → Int32 → Int32 → Option (Int32)
  | 0, _, _ => none
  | n + 1, p2, p3 =>
    if (S.1 p0 5) ≤ p3 then (K p2) else
    ((gI S (p0 + 1) 8 p3).bind fun a2 =>
    if a2 = p1 then (lp_X0_standingOn_4 p0 p1 S K n (p2 + (1 : Int32)) (p3 + (1 : Int32))) else
    (lp_X0_standingOn_4 p0 p1 S K n (p2 + (0 : Int32)) (p3 + (1 : Int32))))
set_option maxHeartbeats 4000000 in
set_option maxRecDepth 100000 in
theorem ok_lp_X0_standingOn_4 {X : mm_C} {RR : Nat → Nat → Option Nat} (hR : RRok RR) {p0 : Nat} {p1 : Int32} (t0 : tg p0 = 0) {S : fS} {K : Int32 → Option (Int32)} {r : Int32} (hK : ∀ (k2 : Int32), K k2 = some r → mr X 0 mY_X0_standingOn 36 [(2, .int k2)] [] (MM RR S) (some (.int r), MM RR S)) : ∀ (n : Nat) (p2 : Int32) (p3 : Int32), lp_X0_standingOn_4 p0 p1 S K n p2 p3 = some r → mr X 0 mY_X0_standingOn 4 [(0, .ref p0), (1, .int p1), (2, .int p2), (3, .int p3)] [] (MM RR S) (some (.int r), MM RR S) := by
  intro n
  induction n with
  | zero => intro p2 p3 h; exact mm_no h
  | succ n ih =>
    intro p2 p3 h
    unfold lp_X0_standingOn_4 at h
    refine mr_iload_n (pc' := 5) dX0_standingOn_4 rfl rfl ?_
    refine mr_aload_n (pc' := 6) dX0_standingOn_5 rfl rfl ?_
    refine mr_getI (pc' := 9) (ci := 0) (j := 5) dX0_standingOn_6 rfl rfl t0 (by decide) (by decide) rfl ?_
    by_cases c1 : (S.1 p0 5) ≤ p3
    · rw [if_pos c1] at h
      refine mr_icmp_ge_t (t := 36) dX0_standingOn_9 (by decide) c1 ?_
      exact mr_sub [(2, .int p2)] ⟨rfl, trivial⟩ rfl (hK _  h)
    · rw [if_neg c1] at h
      refine mr_icmp_ge_f (t := 36) (pc' := 12) dX0_standingOn_9 (by decide) rfl c1 ?_
      refine mr_iload_n (pc' := 13) dX0_standingOn_12 rfl rfl ?_
      refine mr_aload_n (pc' := 14) dX0_standingOn_13 rfl rfl ?_
      refine mr_getR (pc' := 17) (ci := 0) (j := 0) (b := (p0 + 1)) hR dX0_standingOn_14 rfl rfl t0 (by decide) (by decide) (by decide) rfl (ly0_0 t0).1 ?_
      refine mr_iload_n (pc' := 18) dX0_standingOn_17 rfl rfl ?_
      obtain ⟨a2, g3, h4⟩ := Option.bind_eq_some_iff.mp h
      refine mr_iald (pc' := 19) dX0_standingOn_18 rfl (ly0_0 t0).2.1 (ly0_0 t0).2.2 g3 ?_
      refine mr_iload_n (pc' := 20) dX0_standingOn_19 rfl rfl ?_
      by_cases c5 : a2 = p1
      · rw [if_pos c5] at h4
        refine mr_icmp_ne_f (t := 27) (pc' := 23) dX0_standingOn_20 (by decide) rfl (not_not_intro c5) ?_
        refine mr_iconst (pc' := 24) (v := (1 : Int32)) dX0_standingOn_23 rfl (by decide) ?_
        refine mr_goto (t := 28) dX0_standingOn_24 (by decide) ?_
        refine mr_iadd (pc' := 29) dX0_standingOn_28 rfl ?_
        refine mr_istore_n (pc' := 30) (lv' := [(2, .int (p2 + (1 : Int32))), (0, .ref p0), (1, .int p1), (3, .int p3)]) dX0_standingOn_29 rfl (by decide) rfl ?_
        refine mr_iinc (pc' := 33) (x' := (p3 + (1 : Int32))) (lv' := [(3, .int (p3 + (1 : Int32))), (2, .int (p2 + (1 : Int32))), (0, .ref p0), (1, .int p1)]) dX0_standingOn_30 rfl (by decide) rfl rfl rfl ?_
        refine mr_goto (t := 4) dX0_standingOn_33 (by decide) ?_
        exact mr_sub [(0, .ref p0), (1, .int p1), (2, .int (p2 + (1 : Int32))), (3, .int (p3 + (1 : Int32)))] ⟨rfl, rfl, rfl, rfl, trivial⟩ rfl (ih _ _  h4)
      · rw [if_neg c5] at h4
        refine mr_icmp_ne_t (t := 27) dX0_standingOn_20 (by decide) c5 ?_
        refine mr_iconst (pc' := 28) (v := (0 : Int32)) dX0_standingOn_27 rfl (by decide) ?_
        refine mr_iadd (pc' := 29) dX0_standingOn_28 rfl ?_
        refine mr_istore_n (pc' := 30) (lv' := [(2, .int (p2 + (0 : Int32))), (0, .ref p0), (1, .int p1), (3, .int p3)]) dX0_standingOn_29 rfl (by decide) rfl ?_
        refine mr_iinc (pc' := 33) (x' := (p3 + (1 : Int32))) (lv' := [(3, .int (p3 + (1 : Int32))), (2, .int (p2 + (0 : Int32))), (0, .ref p0), (1, .int p1)]) dX0_standingOn_30 rfl (by decide) rfl rfl rfl ?_
        refine mr_goto (t := 4) dX0_standingOn_33 (by decide) ?_
        exact mr_sub [(0, .ref p0), (1, .int p1), (2, .int (p2 + (0 : Int32))), (3, .int (p3 + (1 : Int32)))] ⟨rfl, rfl, rfl, rfl, trivial⟩ rfl (ih _ _  h4)
def f_X0_standingOn (v0 : Nat) (v1 : Int32) (S : fS) : Option (Int32) :=
  lp_X0_standingOn_4 v0 v1 S (fun u6 => some u6) FU (0 : Int32) (0 : Int32)
set_option maxHeartbeats 4000000 in
set_option maxRecDepth 100000 in
theorem ok_X0_standingOn {X : mm_C} {RR : Nat → Nat → Option Nat} (hR : RRok RR) {v0 : Nat} {v1 : Int32} (t0 : tg v0 = 0) {S : fS} {r : Int32} (h : f_X0_standingOn v0 v1 S = some r) : mr X 0 mY_X0_standingOn 0 (lv_args 0 [.ref v0, .int v1]) [] (MM RR S) (some (.int r), MM RR S) := by
  unfold f_X0_standingOn at h
  show mr X _ _ 0 [(0, .ref v0), (1, .int v1)] [] (MM RR S) _
  refine mr_iconst (pc' := 1) (v := (0 : Int32)) dX0_standingOn_0 rfl (by decide) ?_
  refine mr_istore_n (pc' := 2) (lv' := [(2, .int (0 : Int32)), (0, .ref v0), (1, .int v1)]) dX0_standingOn_1 rfl (by decide) rfl ?_
  refine mr_iconst (pc' := 3) (v := (0 : Int32)) dX0_standingOn_2 rfl (by decide) ?_
  refine mr_istore_n (pc' := 4) (lv' := [(3, .int (0 : Int32)), (2, .int (0 : Int32)), (0, .ref v0), (1, .int v1)]) dX0_standingOn_3 rfl (by decide) rfl ?_
  refine mr_sub [(0, .ref v0), (1, .int v1), (2, .int (0 : Int32)), (3, .int (0 : Int32))] ⟨rfl, rfl, rfl, rfl, trivial⟩ rfl ?_
  refine ok_lp_X0_standingOn_4 hR t0 (fun u6 h7 => ?_) FU _ _  h
  refine mr_iload_n (pc' := 37) dX0_standingOn_36 rfl rfl ?_
  obtain rfl := Option.some.inj h7
  exact mr_ireturn dX0_standingOn_37 rfl
def f_J9_abs_067f4 (v0 : Int64) (S : fS) : Option (Int64) :=
  if (0 : Int64) ≤ v0 then (some v0) else
  (some (-v0))
set_option maxHeartbeats 4000000 in
set_option maxRecDepth 100000 in
theorem ok_J9_abs_067f4 {X : mm_C} {RR : Nat → Nat → Option Nat} (hR : RRok RR) {v0 : Int64}  {S : fS} {r : Int64} (h : f_J9_abs_067f4 v0 S = some r) : mr X 0 mY_J9_abs_067f4 0 (lv_args 0 [.long v0]) [] (MM RR S) (some (.long r), MM RR S) := by
  unfold f_J9_abs_067f4 at h
  show mr X _ _ 0 [(0, .long v0)] [] (MM RR S) _
  refine mr_lload_n (pc' := 1) dJ9_abs_067f4_0 rfl rfl ?_
  refine mr_lconst (pc' := 2) (v := (0 : Int64)) dJ9_abs_067f4_1 rfl (by decide) ?_
  by_cases c1 : (0 : Int64) ≤ v0
  · rw [if_pos c1] at h
    refine mr_lcmp_ge_t (t := 11) dJ9_abs_067f4_2 rfl dJ9_abs_067f4_3 (by decide) c1 ?_
    refine mr_lload_n (pc' := 12) dJ9_abs_067f4_11 rfl rfl ?_
    obtain rfl := Option.some.inj h
    exact mr_lreturn dJ9_abs_067f4_12 rfl
  · rw [if_neg c1] at h
    refine mr_lcmp_ge_f (t := 11) (pc' := 6) dJ9_abs_067f4_2 rfl dJ9_abs_067f4_3 (by decide) rfl c1 ?_
    refine mr_lload_n (pc' := 7) dJ9_abs_067f4_6 rfl rfl ?_
    refine mr_lneg (pc' := 8) dJ9_abs_067f4_7 rfl ?_
    refine mr_goto (t := 12) dJ9_abs_067f4_8 (by decide) ?_
    obtain rfl := Option.some.inj h
    exact mr_lreturn dJ9_abs_067f4_12 rfl
def lp_X10_commonDivisor_15  (S : fS) (K : Int64 → Option (Int64)) : Nat → Int64 → Int64 → Int32 → Option (Int64)
  | 0, _, _, _ => none
  | n + 1, p4, p6, p8 =>
    if (128 : Int32) ≤ p8 then (K p4) else
    (if p6 = (0 : Int64) then (K p4) else
    ((rL p4 p6).bind fun a9 =>
    lp_X10_commonDivisor_15  S K n p6 a9 (p8 + (1 : Int32))))
set_option maxHeartbeats 4000000 in
set_option maxRecDepth 100000 in
theorem ok_lp_X10_commonDivisor_15 {X : mm_C} {RR : Nat → Nat → Option Nat} (hR : RRok RR)   {S : fS} {K : Int64 → Option (Int64)} {r : Int64} (hK : ∀ (k4 : Int64), K k4 = some r → mr X 1 mY_X10_commonDivisor 51 [(4, .long k4)] [] (MM RR S) (some (.long r), MM RR S)) : ∀ (n : Nat) (p4 : Int64) (p6 : Int64) (p8 : Int32), lp_X10_commonDivisor_15  S K n p4 p6 p8 = some r → mr X 1 mY_X10_commonDivisor 15 [(4, .long p4), (6, .long p6), (8, .int p8)] [] (MM RR S) (some (.long r), MM RR S) := by
  intro n
  induction n with
  | zero => intro p4 p6 p8 h; exact mm_no h
  | succ n ih =>
    intro p4 p6 p8 h
    unfold lp_X10_commonDivisor_15 at h
    refine mr_iload (pc' := 17) dX10_commonDivisor_15 rfl rfl ?_
    refine mr_sipush (pc' := 20) (v := (128 : Int32)) dX10_commonDivisor_17 rfl (by decide) ?_
    by_cases c7 : (128 : Int32) ≤ p8
    · rw [if_pos c7] at h
      refine mr_icmp_ge_t (t := 51) dX10_commonDivisor_20 (by decide) c7 ?_
      exact mr_sub [(4, .long p4)] ⟨rfl, trivial⟩ rfl (hK _  h)
    · rw [if_neg c7] at h
      refine mr_icmp_ge_f (t := 51) (pc' := 23) dX10_commonDivisor_20 (by decide) rfl c7 ?_
      refine mr_lload (pc' := 25) dX10_commonDivisor_23 rfl rfl ?_
      refine mr_lconst (pc' := 26) (v := (0 : Int64)) dX10_commonDivisor_25 rfl (by decide) ?_
      by_cases c8 : p6 = (0 : Int64)
      · rw [if_pos c8] at h
        refine mr_lcmp_eq_t (t := 51) dX10_commonDivisor_26 rfl dX10_commonDivisor_27 (by decide) c8 ?_
        exact mr_sub [(4, .long p4)] ⟨rfl, trivial⟩ rfl (hK _  h)
      · rw [if_neg c8] at h
        refine mr_lcmp_eq_f (t := 51) (pc' := 30) dX10_commonDivisor_26 rfl dX10_commonDivisor_27 (by decide) rfl c8 ?_
        refine mr_lload (pc' := 32) dX10_commonDivisor_30 rfl rfl ?_
        refine mr_lload (pc' := 34) dX10_commonDivisor_32 rfl rfl ?_
        obtain ⟨a9, g10, h11⟩ := Option.bind_eq_some_iff.mp h
        refine mr_lrem (pc' := 35) dX10_commonDivisor_34 rfl g10 ?_
        refine mr_lstore (pc' := 37) (lv' := [(9, .long a9), (4, .long p4), (6, .long p6), (8, .int p8)]) dX10_commonDivisor_35 rfl (by decide) rfl ?_
        refine mr_lload (pc' := 39) dX10_commonDivisor_37 rfl rfl ?_
        refine mr_lstore (pc' := 41) (lv' := [(4, .long p6), (9, .long a9), (6, .long p6), (8, .int p8)]) dX10_commonDivisor_39 rfl (by decide) rfl ?_
        refine mr_lload (pc' := 43) dX10_commonDivisor_41 rfl rfl ?_
        refine mr_lstore (pc' := 45) (lv' := [(6, .long a9), (4, .long p6), (9, .long a9), (8, .int p8)]) dX10_commonDivisor_43 rfl (by decide) rfl ?_
        refine mr_iinc (pc' := 48) (x' := (p8 + (1 : Int32))) (lv' := [(8, .int (p8 + (1 : Int32))), (6, .long a9), (4, .long p6), (9, .long a9)]) dX10_commonDivisor_45 rfl (by decide) rfl rfl rfl ?_
        refine mr_goto (t := 15) dX10_commonDivisor_48 (by decide) ?_
        exact mr_sub [(4, .long p6), (6, .long a9), (8, .int (p8 + (1 : Int32)))] ⟨rfl, rfl, rfl, trivial⟩ rfl (ih _ _ _  h11)
def f_X10_commonDivisor (v0 : Int64) (v2 : Int64) (S : fS) : Option (Int64) :=
  (f_J9_abs_067f4 v0 S).bind fun q1 =>
  (f_J9_abs_067f4 v2 S).bind fun q4 =>
  lp_X10_commonDivisor_15  S (fun u12 => some u12) FU q1 q4 (0 : Int32)
set_option maxHeartbeats 4000000 in
set_option maxRecDepth 100000 in
theorem ok_X10_commonDivisor {X : mm_C} {RR : Nat → Nat → Option Nat} (hR : RRok RR) {v0 : Int64} {v2 : Int64}  {S : fS} {r : Int64} (h : f_X10_commonDivisor v0 v2 S = some r) : mr X 1 mY_X10_commonDivisor 0 (lv_args 0 [.long v0, .long v2]) [] (MM RR S) (some (.long r), MM RR S) := by
  unfold f_X10_commonDivisor at h
  show mr X _ _ 0 [(0, .long v0), (2, .long v2)] [] (MM RR S) _
  refine mr_lload_n (pc' := 1) dX10_commonDivisor_0 rfl rfl ?_
  obtain ⟨q1, g2, h3⟩ := Option.bind_eq_some_iff.mp h
  refine mr_cs (pc' := 4) (d1 := 0) dX10_commonDivisor_1 rfl rfl rfl rfl (by decide) (Nat.le_of_ble_eq_true rfl) rfl rfl rfl (by decide) (ok_J9_abs_067f4 hR  g2) ?_
  show mr X _ _ 4 _ [.long q1] (MM RR S) _
  refine mr_lstore (pc' := 6) (lv' := [(4, .long q1), (0, .long v0), (2, .long v2)]) dX10_commonDivisor_4 rfl (by decide) rfl ?_
  refine mr_lload_n (pc' := 7) dX10_commonDivisor_6 rfl rfl ?_
  obtain ⟨q4, g5, h6⟩ := Option.bind_eq_some_iff.mp h3
  refine mr_cs (pc' := 10) (d1 := 0) dX10_commonDivisor_7 rfl rfl rfl rfl (by decide) (Nat.le_of_ble_eq_true rfl) rfl rfl rfl (by decide) (ok_J9_abs_067f4 hR  g5) ?_
  show mr X _ _ 10 _ [.long q4] (MM RR S) _
  refine mr_lstore (pc' := 12) (lv' := [(6, .long q4), (4, .long q1), (0, .long v0), (2, .long v2)]) dX10_commonDivisor_10 rfl (by decide) rfl ?_
  refine mr_iconst (pc' := 13) (v := (0 : Int32)) dX10_commonDivisor_12 rfl (by decide) ?_
  refine mr_istore (pc' := 15) (lv' := [(8, .int (0 : Int32)), (6, .long q4), (4, .long q1), (0, .long v0), (2, .long v2)]) dX10_commonDivisor_13 rfl (by decide) rfl ?_
  refine mr_sub [(4, .long q1), (6, .long q4), (8, .int (0 : Int32))] ⟨rfl, rfl, rfl, trivial⟩ rfl ?_
  refine ok_lp_X10_commonDivisor_15 hR  (fun u12 h13 => ?_) FU _ _ _  h6
  refine mr_lload (pc' := 53) dX10_commonDivisor_51 rfl rfl ?_
  obtain rfl := Option.some.inj h13
  exact mr_lreturn dX10_commonDivisor_53 rfl
def f_X10_lowest (v0 : Int64) (v2 : Int64) (v4 : Int32) (S : fS) : Option (Int64) :=
  (f_X10_commonDivisor v0 v2 S).bind fun q1 =>
  if q1 = (0 : Int64) then (some (-1 : Int64)) else
  (if v4 = (0 : Int32) then ((dL v0 q1).bind fun a9 =>
  some a9) else
  ((dL v2 q1).bind fun a6 =>
  some a6))
set_option maxHeartbeats 4000000 in
set_option maxRecDepth 100000 in
theorem ok_X10_lowest {X : mm_C} {RR : Nat → Nat → Option Nat} (hR : RRok RR) {v0 : Int64} {v2 : Int64} {v4 : Int32}  {S : fS} {r : Int64} (h : f_X10_lowest v0 v2 v4 S = some r) : mr X 2 mY_X10_lowest 0 (lv_args 0 [.long v0, .long v2, .int v4]) [] (MM RR S) (some (.long r), MM RR S) := by
  unfold f_X10_lowest at h
  show mr X _ _ 0 [(0, .long v0), (2, .long v2), (4, .int v4)] [] (MM RR S) _
  refine mr_lload_n (pc' := 1) dX10_lowest_0 rfl rfl ?_
  refine mr_lload_n (pc' := 2) dX10_lowest_1 rfl rfl ?_
  obtain ⟨q1, g2, h3⟩ := Option.bind_eq_some_iff.mp h
  refine mr_cs (pc' := 5) (d1 := 1) dX10_lowest_2 rfl rfl rfl rfl (by decide) (Nat.le_of_ble_eq_true rfl) rfl rfl rfl (by decide) (ok_X10_commonDivisor hR  g2) ?_
  show mr X _ _ 5 _ [.long q1] (MM RR S) _
  refine mr_lstore (pc' := 7) (lv' := [(5, .long q1), (0, .long v0), (2, .long v2), (4, .int v4)]) dX10_lowest_5 rfl (by decide) rfl ?_
  refine mr_lload (pc' := 9) dX10_lowest_7 rfl rfl ?_
  refine mr_lconst (pc' := 10) (v := (0 : Int64)) dX10_lowest_9 rfl (by decide) ?_
  by_cases c4 : q1 = (0 : Int64)
  · rw [if_pos c4] at h3
    refine mr_lcmp_ne_f (t := 18) (pc' := 14) dX10_lowest_10 rfl dX10_lowest_11 (by decide) rfl (not_not_intro c4) ?_
    refine mr_ldc2 (pc' := 17) (v := (-1 : Int64)) dX10_lowest_14 rfl rfl ?_
    obtain rfl := Option.some.inj h3
    exact mr_lreturn dX10_lowest_17 rfl
  · rw [if_neg c4] at h3
    refine mr_lcmp_ne_t (t := 18) dX10_lowest_10 rfl dX10_lowest_11 (by decide) c4 ?_
    refine mr_iload (pc' := 20) dX10_lowest_18 rfl rfl ?_
    by_cases c5 : v4 = (0 : Int32)
    · rw [if_pos c5] at h3
      refine mr_if_ne_f (t := 27) (pc' := 23) dX10_lowest_20 (by decide) rfl (not_not_intro c5) ?_
      refine mr_lload_n (pc' := 24) dX10_lowest_23 rfl rfl ?_
      refine mr_goto (t := 28) dX10_lowest_24 (by decide) ?_
      refine mr_lload (pc' := 30) dX10_lowest_28 rfl rfl ?_
      obtain ⟨a9, g10, h11⟩ := Option.bind_eq_some_iff.mp h3
      refine mr_ldiv (pc' := 31) dX10_lowest_30 rfl g10 ?_
      obtain rfl := Option.some.inj h11
      exact mr_lreturn dX10_lowest_31 rfl
    · rw [if_neg c5] at h3
      refine mr_if_ne_t (t := 27) dX10_lowest_20 (by decide) c5 ?_
      refine mr_lload_n (pc' := 28) dX10_lowest_27 rfl rfl ?_
      refine mr_lload (pc' := 30) dX10_lowest_28 rfl rfl ?_
      obtain ⟨a6, g7, h8⟩ := Option.bind_eq_some_iff.mp h3
      refine mr_ldiv (pc' := 31) dX10_lowest_30 rfl g7 ?_
      obtain rfl := Option.some.inj h8
      exact mr_lreturn dX10_lowest_31 rfl
def f_X10_floor (v1 : Int32) (v2 : Int32) (S : fS) : Option (Int32) :=
  (f_X10_isFloor v1 S).bind fun q1 =>
  if q1 = (0 : Int32) then (some (-1 : Int32)) else
  ((f_X10_isFrom v2 (0 : Int32) (2 : Int32) S).bind fun q5 =>
  if q5 = (0 : Int32) then (some (-1 : Int32)) else
  (if v2 = (2 : Int32) then ((f_X0_standingOn 11 v1 S).bind fun q16 =>
  some q16) else
  ((gL S 5 10 v1).bind fun a10 =>
  (f_X10_lowest a10 (232792560 : Int64) v2 S).bind fun q13 =>
  some (Int64.toInt32 q13))))
set_option maxHeartbeats 4000000 in
set_option maxRecDepth 100000 in
theorem ok_X10_floor {X : mm_C} {RR : Nat → Nat → Option Nat} (hR : RRok RR) {v1 : Int32} {v2 : Int32}  {S : fS} {r : Int32} (h : f_X10_floor v1 v2 S = some r) : mr X 3 mY_X10_floor 0 (lv_args 0 [.ref 0, .int v1, .int v2]) [] (MM RR S) (some (.int r), MM RR S) := by
  unfold f_X10_floor at h
  show mr X _ _ 0 [(0, .ref 0), (1, .int v1), (2, .int v2)] [] (MM RR S) _
  refine mr_aload_n (pc' := 1) dX10_floor_0 rfl rfl ?_
  refine mr_iload_n (pc' := 2) dX10_floor_1 rfl rfl ?_
  obtain ⟨q1, g2, h3⟩ := Option.bind_eq_some_iff.mp h
  refine mr_cv (pc' := 5) (a := 0) (d1 := 1) dX10_floor_2 rfl rfl rfl rfl rfl rfl (by decide) rfl (by decide) (ok_X10_isFloor hR  g2) ?_
  show mr X _ _ 5 _ [.int q1] (MM RR S) _
  by_cases c4 : q1 = (0 : Int32)
  · rw [if_pos c4] at h3
    refine mr_if_eq_t (t := 17) dX10_floor_5 (by decide) c4 ?_
    refine mr_iconst (pc' := 18) (v := (-1 : Int32)) dX10_floor_17 rfl (by decide) ?_
    obtain rfl := Option.some.inj h3
    exact mr_ireturn dX10_floor_18 rfl
  · rw [if_neg c4] at h3
    refine mr_if_eq_f (t := 17) (pc' := 8) dX10_floor_5 (by decide) rfl c4 ?_
    refine mr_iload_n (pc' := 9) dX10_floor_8 rfl rfl ?_
    refine mr_iconst (pc' := 10) (v := (0 : Int32)) dX10_floor_9 rfl (by decide) ?_
    refine mr_iconst (pc' := 11) (v := (2 : Int32)) dX10_floor_10 rfl (by decide) ?_
    obtain ⟨q5, g6, h7⟩ := Option.bind_eq_some_iff.mp h3
    refine mr_cs (pc' := 14) (d1 := 0) dX10_floor_11 rfl rfl rfl rfl (by decide) (Nat.le_of_ble_eq_true rfl) rfl rfl rfl (by decide) (ok_X10_isFrom hR  g6) ?_
    show mr X _ _ 14 _ [.int q5] (MM RR S) _
    by_cases c8 : q5 = (0 : Int32)
    · rw [if_pos c8] at h7
      refine mr_if_ne_f (t := 19) (pc' := 17) dX10_floor_14 (by decide) rfl (not_not_intro c8) ?_
      refine mr_iconst (pc' := 18) (v := (-1 : Int32)) dX10_floor_17 rfl (by decide) ?_
      obtain rfl := Option.some.inj h7
      exact mr_ireturn dX10_floor_18 rfl
    · rw [if_neg c8] at h7
      refine mr_if_ne_t (t := 19) dX10_floor_14 (by decide) c8 ?_
      refine mr_iload_n (pc' := 20) dX10_floor_19 rfl rfl ?_
      refine mr_iconst (pc' := 21) (v := (2 : Int32)) dX10_floor_20 rfl (by decide) ?_
      by_cases c9 : v2 = (2 : Int32)
      · rw [if_pos c9] at h7
        refine mr_icmp_ne_f (t := 36) (pc' := 24) dX10_floor_21 (by decide) rfl (not_not_intro c9) ?_
        refine mr_aload_n (pc' := 25) dX10_floor_24 rfl rfl ?_
        refine mr_getR (pc' := 28) (ci := 10) (j := 1) (b := 3) hR dX10_floor_25 rfl rfl rfl (by decide) (by decide) (by decide) rfl rfl ?_
        refine mr_getR (pc' := 31) (ci := 6) (j := 1) (b := 11) hR dX10_floor_28 rfl rfl rfl (by decide) (by decide) (by decide) rfl rfl ?_
        refine mr_iload_n (pc' := 32) dX10_floor_31 rfl rfl ?_
        obtain ⟨q16, g17, h18⟩ := Option.bind_eq_some_iff.mp h7
        refine mr_cv (pc' := 35) (a := 11) (d1 := 0) dX10_floor_32 rfl rfl rfl rfl rfl rfl (by decide) rfl (by decide) (ok_X0_standingOn hR rfl g17) ?_
        show mr X _ _ 35 _ [.int q16] (MM RR S) _
        obtain rfl := Option.some.inj h18
        exact mr_ireturn dX10_floor_35 rfl
      · rw [if_neg c9] at h7
        refine mr_icmp_ne_t (t := 36) dX10_floor_21 (by decide) c9 ?_
        refine mr_aload_n (pc' := 37) dX10_floor_36 rfl rfl ?_
        refine mr_getR (pc' := 40) (ci := 10) (j := 1) (b := 3) hR dX10_floor_37 rfl rfl rfl (by decide) (by decide) (by decide) rfl rfl ?_
        refine mr_getR (pc' := 43) (ci := 6) (j := 0) (b := 4) hR dX10_floor_40 rfl rfl rfl (by decide) (by decide) (by decide) rfl rfl ?_
        refine mr_getR (pc' := 46) (ci := 8) (j := 0) (b := 5) hR dX10_floor_43 rfl rfl rfl (by decide) (by decide) (by decide) rfl rfl ?_
        refine mr_iload_n (pc' := 47) dX10_floor_46 rfl rfl ?_
        obtain ⟨a10, g11, h12⟩ := Option.bind_eq_some_iff.mp h7
        refine mr_lald (pc' := 48) dX10_floor_47 rfl rfl rfl g11 ?_
        refine mr_ldc2 (pc' := 51) (v := (232792560 : Int64)) dX10_floor_48 rfl rfl ?_
        refine mr_iload_n (pc' := 52) dX10_floor_51 rfl rfl ?_
        obtain ⟨q13, g14, h15⟩ := Option.bind_eq_some_iff.mp h12
        refine mr_cs (pc' := 55) (d1 := 2) dX10_floor_52 rfl rfl rfl rfl (by decide) (Nat.le_of_ble_eq_true rfl) rfl rfl rfl (by decide) (ok_X10_lowest hR  g14) ?_
        show mr X _ _ 55 _ [.long q13] (MM RR S) _
        refine mr_l2i (pc' := 56) dX10_floor_55 rfl ?_
        obtain rfl := Option.some.inj h15
        exact mr_ireturn dX10_floor_56 rfl
