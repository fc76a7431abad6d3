def f_X10_waiting (v1 : Int32) (v2 : Int32) (v3 : Int32) (S : fS) : Option (Int32 × fS) :=
  (f_X10_isStanding v1 S).bind fun q1 =>
  if q1 = (0 : Int32) then (some ((-1 : Int32), S)) else
  ((f_X10_isFrom v2 (0 : Int32) (120 : Int32) S).bind fun q5 =>
  if q5 = (0 : Int32) then (some ((-1 : Int32), S)) else
  ((gI S 12 8 v1).bind fun a9 =>
  (f_X1_measure 4 a9 v2 v3 S).bind fun q12 =>
  (f_X1_bestFloor 4 v2 v3 q12).bind fun q15 =>
  some (q15, q12)))
set_option maxHeartbeats 4000000 in
set_option maxRecDepth 100000 in
theorem ok_X10_waiting {X : mm_C} {RR : Nat → Nat → Option Nat} (hR : RRok RR) {v1 : Int32} {v2 : Int32} {v3 : Int32}  {S : fS} {r : Int32 × fS} (h : f_X10_waiting v1 v2 v3 S = some r) : mr X 4 mY_X10_waiting 0 (lv_args 0 [.ref 0, .int v1, .int v2, .int v3]) [] (MM RR S) (some (.int r.1), MM RR r.2) := by
  unfold f_X10_waiting at h
  show mr X _ _ 0 [(0, .ref 0), (1, .int v1), (2, .int v2), (3, .int v3)] [] (MM RR S) _
  refine mr_aload_n (pc' := 1) dX10_waiting_0 rfl rfl ?_
  refine mr_iload_n (pc' := 2) dX10_waiting_1 rfl rfl ?_
  obtain ⟨q1, g2, h3⟩ := Option.bind_eq_some_iff.mp h
  refine mr_cv (pc' := 5) (a := 0) (d1 := 2) dX10_waiting_2 rfl rfl rfl rfl rfl rfl (by decide) rfl (by decide) (ok_X10_isStanding hR  g2) ?_
  show mr X _ _ 5 _ [.int q1] (MM RR S) _
  by_cases c4 : q1 = (0 : Int32)
  · rw [if_pos c4] at h3
    refine mr_if_eq_t (t := 18) dX10_waiting_5 (by decide) c4 ?_
    refine mr_iconst (pc' := 19) (v := (-1 : Int32)) dX10_waiting_18 rfl (by decide) ?_
    obtain rfl := Option.some.inj h3
    exact mr_ireturn dX10_waiting_19 rfl
  · rw [if_neg c4] at h3
    refine mr_if_eq_f (t := 18) (pc' := 8) dX10_waiting_5 (by decide) rfl c4 ?_
    refine mr_iload_n (pc' := 9) dX10_waiting_8 rfl rfl ?_
    refine mr_iconst (pc' := 10) (v := (0 : Int32)) dX10_waiting_9 rfl (by decide) ?_
    refine mr_bipush (pc' := 12) (v := (120 : Int32)) dX10_waiting_10 rfl (by decide) ?_
    obtain ⟨q5, g6, h7⟩ := Option.bind_eq_some_iff.mp h3
    refine mr_cs (pc' := 15) (d1 := 0) dX10_waiting_12 rfl rfl rfl rfl (by decide) (Nat.le_of_ble_eq_true rfl) rfl rfl rfl (by decide) (ok_X10_isFrom hR  g6) ?_
    show mr X _ _ 15 _ [.int q5] (MM RR S) _
    by_cases c8 : q5 = (0 : Int32)
    · rw [if_pos c8] at h7
      refine mr_if_ne_f (t := 20) (pc' := 18) dX10_waiting_15 (by decide) rfl (not_not_intro c8) ?_
      refine mr_iconst (pc' := 19) (v := (-1 : Int32)) dX10_waiting_18 rfl (by decide) ?_
      obtain rfl := Option.some.inj h7
      exact mr_ireturn dX10_waiting_19 rfl
    · rw [if_neg c8] at h7
      refine mr_if_ne_t (t := 20) dX10_waiting_15 (by decide) c8 ?_
      refine mr_aload_n (pc' := 21) dX10_waiting_20 rfl rfl ?_
      refine mr_getR (pc' := 24) (ci := 10) (j := 8) (b := 43) hR dX10_waiting_21 rfl rfl rfl (by decide) (by decide) (by decide) rfl rfl ?_
      refine mr_aload_n (pc' := 25) dX10_waiting_24 rfl rfl ?_
      refine mr_getR (pc' := 28) (ci := 10) (j := 1) (b := 3) hR dX10_waiting_25 rfl rfl rfl (by decide) (by decide) (by decide) rfl rfl ?_
      refine mr_getR (pc' := 31) (ci := 6) (j := 0) (b := 4) hR dX10_waiting_28 rfl rfl rfl (by decide) (by decide) (by decide) rfl rfl ?_
      refine mr_aload_n (pc' := 32) dX10_waiting_31 rfl rfl ?_
      refine mr_getR (pc' := 35) (ci := 10) (j := 1) (b := 3) hR dX10_waiting_32 rfl rfl rfl (by decide) (by decide) (by decide) rfl rfl ?_
      refine mr_getR (pc' := 38) (ci := 6) (j := 1) (b := 11) hR dX10_waiting_35 rfl rfl rfl (by decide) (by decide) (by decide) rfl rfl ?_
      refine mr_getR (pc' := 41) (ci := 0) (j := 0) (b := 12) hR dX10_waiting_38 rfl rfl rfl (by decide) (by decide) (by decide) rfl rfl ?_
      refine mr_iload_n (pc' := 42) dX10_waiting_41 rfl rfl ?_
      obtain ⟨a9, g10, h11⟩ := Option.bind_eq_some_iff.mp h7
      refine mr_iald (pc' := 43) dX10_waiting_42 rfl rfl rfl g10 ?_
      refine mr_iload_n (pc' := 44) dX10_waiting_43 rfl rfl ?_
      refine mr_iload_n (pc' := 45) dX10_waiting_44 rfl rfl ?_
      obtain ⟨q12, g13, h14⟩ := Option.bind_eq_some_iff.mp h11
      refine mr_cv (pc' := 48) (a := 43) (d1 := 3) dX10_waiting_45 rfl rfl rfl rfl rfl rfl (by decide) rfl (by decide) (ok_X1_measure hR rfl g13) ?_
      show mr X _ _ 48 _ [] (MM RR q12) _
      refine mr_aload_n (pc' := 49) dX10_waiting_48 rfl rfl ?_
      refine mr_getR (pc' := 52) (ci := 10) (j := 8) (b := 43) hR dX10_waiting_49 rfl rfl rfl (by decide) (by decide) (by decide) rfl rfl ?_
      refine mr_aload_n (pc' := 53) dX10_waiting_52 rfl rfl ?_
      refine mr_getR (pc' := 56) (ci := 10) (j := 1) (b := 3) hR dX10_waiting_53 rfl rfl rfl (by decide) (by decide) (by decide) rfl rfl ?_
      refine mr_getR (pc' := 59) (ci := 6) (j := 0) (b := 4) hR dX10_waiting_56 rfl rfl rfl (by decide) (by decide) (by decide) rfl rfl ?_
      refine mr_iload_n (pc' := 60) dX10_waiting_59 rfl rfl ?_
      refine mr_iload_n (pc' := 61) dX10_waiting_60 rfl rfl ?_
      obtain ⟨q15, g16, h17⟩ := Option.bind_eq_some_iff.mp h14
      refine mr_cv (pc' := 64) (a := 43) (d1 := 1) dX10_waiting_61 rfl rfl rfl rfl rfl rfl (by decide) rfl (by decide) (ok_X1_bestFloor hR rfl g16) ?_
      show mr X _ _ 64 _ [.int q15] (MM RR q12) _
      obtain rfl := Option.some.inj h17
      exact mr_ireturn dX10_waiting_64 rfl
def f_X10_when (v1 : Int32) (v2 : Int32) (v3 : Int32) (v4 : Int32) (S : fS) : Option (Int64) :=
  (f_X10_isThing v1 S).bind fun q1 =>
  if q1 = (0 : Int32) then (some (-1 : Int64)) else
  ((f_X10_isFloor v2 S).bind fun q5 =>
  if q5 = (0 : Int32) then (some (-1 : Int64)) else
  ((f_X10_isFrom v3 (0 : Int32) (9999 : Int32) S).bind fun q9 =>
  if q9 = (0 : Int32) then (some (-1 : Int64)) else
  ((f_X10_isPart v4 S).bind fun q13 =>
  if q13 = (0 : Int32) then (some (-1 : Int64)) else
  ((gL S 16 8 v1).bind fun a17 =>
  if (0 : Int64) ≤ (((Int32.toInt64 v3) * (232792560 : Int64)) - a17) then ((gL S 5 10 v2).bind fun a21 =>
  (f_X10_lowest (((Int32.toInt64 v3) * (232792560 : Int64)) - a17) a21 v4 S).bind fun q24 =>
  some q24) else
  (some (-2 : Int64))))))
set_option maxHeartbeats 4000000 in
set_option maxRecDepth 100000 in
theorem ok_X10_when {X : mm_C} {RR : Nat → Nat → Option Nat} (hR : RRok RR) {v1 : Int32} {v2 : Int32} {v3 : Int32} {v4 : Int32}  {S : fS} {r : Int64} (h : f_X10_when v1 v2 v3 v4 S = some r) : mr X 3 mY_X10_when 0 (lv_args 0 [.ref 0, .int v1, .int v2, .int v3, .int v4]) [] (MM RR S) (some (.long r), MM RR S) := by
  unfold f_X10_when at h
  show mr X _ _ 0 [(0, .ref 0), (1, .int v1), (2, .int v2), (3, .int v3), (4, .int v4)] [] (MM RR S) _
  refine mr_aload_n (pc' := 1) dX10_when_0 rfl rfl ?_
  refine mr_iload_n (pc' := 2) dX10_when_1 rfl rfl ?_
  obtain ⟨q1, g2, h3⟩ := Option.bind_eq_some_iff.mp h
  refine mr_cv (pc' := 5) (a := 0) (d1 := 1) dX10_when_2 rfl rfl rfl rfl rfl rfl (by decide) rfl (by decide) (ok_X10_isThing hR  g2) ?_
  show mr X _ _ 5 _ [.int q1] (MM RR S) _
  by_cases c4 : q1 = (0 : Int32)
  · rw [if_pos c4] at h3
    refine mr_if_eq_t (t := 35) dX10_when_5 (by decide) c4 ?_
    refine mr_ldc2 (pc' := 38) (v := (-1 : Int64)) dX10_when_35 rfl rfl ?_
    obtain rfl := Option.some.inj h3
    exact mr_lreturn dX10_when_38 rfl
  · rw [if_neg c4] at h3
    refine mr_if_eq_f (t := 35) (pc' := 8) dX10_when_5 (by decide) rfl c4 ?_
    refine mr_aload_n (pc' := 9) dX10_when_8 rfl rfl ?_
    refine mr_iload_n (pc' := 10) dX10_when_9 rfl rfl ?_
    obtain ⟨q5, g6, h7⟩ := Option.bind_eq_some_iff.mp h3
    refine mr_cv (pc' := 13) (a := 0) (d1 := 1) dX10_when_10 rfl rfl rfl rfl rfl rfl (by decide) rfl (by decide) (ok_X10_isFloor hR  g6) ?_
    show mr X _ _ 13 _ [.int q5] (MM RR S) _
    by_cases c8 : q5 = (0 : Int32)
    · rw [if_pos c8] at h7
      refine mr_if_eq_t (t := 35) dX10_when_13 (by decide) c8 ?_
      refine mr_ldc2 (pc' := 38) (v := (-1 : Int64)) dX10_when_35 rfl rfl ?_
      obtain rfl := Option.some.inj h7
      exact mr_lreturn dX10_when_38 rfl
    · rw [if_neg c8] at h7
      refine mr_if_eq_f (t := 35) (pc' := 16) dX10_when_13 (by decide) rfl c8 ?_
      refine mr_iload_n (pc' := 17) dX10_when_16 rfl rfl ?_
      refine mr_iconst (pc' := 18) (v := (0 : Int32)) dX10_when_17 rfl (by decide) ?_
      refine mr_sipush (pc' := 21) (v := (9999 : Int32)) dX10_when_18 rfl (by decide) ?_
      obtain ⟨q9, g10, h11⟩ := Option.bind_eq_some_iff.mp h7
      refine mr_cs (pc' := 24) (d1 := 0) dX10_when_21 rfl rfl rfl rfl (by decide) (Nat.le_of_ble_eq_true rfl) rfl rfl rfl (by decide) (ok_X10_isFrom hR  g10) ?_
      show mr X _ _ 24 _ [.int q9] (MM RR S) _
      by_cases c12 : q9 = (0 : Int32)
      · rw [if_pos c12] at h11
        refine mr_if_eq_t (t := 35) dX10_when_24 (by decide) c12 ?_
        refine mr_ldc2 (pc' := 38) (v := (-1 : Int64)) dX10_when_35 rfl rfl ?_
        obtain rfl := Option.some.inj h11
        exact mr_lreturn dX10_when_38 rfl
      · rw [if_neg c12] at h11
        refine mr_if_eq_f (t := 35) (pc' := 27) dX10_when_24 (by decide) rfl c12 ?_
        refine mr_iload (pc' := 29) dX10_when_27 rfl rfl ?_
        obtain ⟨q13, g14, h15⟩ := Option.bind_eq_some_iff.mp h11
        refine mr_cs (pc' := 32) (d1 := 1) dX10_when_29 rfl rfl rfl rfl (by decide) (Nat.le_of_ble_eq_true rfl) rfl rfl rfl (by decide) (ok_X10_isPart hR  g14) ?_
        show mr X _ _ 32 _ [.int q13] (MM RR S) _
        by_cases c16 : q13 = (0 : Int32)
        · rw [if_pos c16] at h15
          refine mr_if_ne_f (t := 39) (pc' := 35) dX10_when_32 (by decide) rfl (not_not_intro c16) ?_
          refine mr_ldc2 (pc' := 38) (v := (-1 : Int64)) dX10_when_35 rfl rfl ?_
          obtain rfl := Option.some.inj h15
          exact mr_lreturn dX10_when_38 rfl
        · rw [if_neg c16] at h15
          refine mr_if_ne_t (t := 39) dX10_when_32 (by decide) c16 ?_
          refine mr_iload_n (pc' := 40) dX10_when_39 rfl rfl ?_
          refine mr_i2l (pc' := 41) dX10_when_40 rfl ?_
          refine mr_ldc2 (pc' := 44) (v := (232792560 : Int64)) dX10_when_41 rfl rfl ?_
          refine mr_lmul (pc' := 45) dX10_when_44 rfl ?_
          refine mr_aload_n (pc' := 46) dX10_when_45 rfl rfl ?_
          refine mr_getR (pc' := 49) (ci := 10) (j := 1) (b := 3) hR dX10_when_46 rfl rfl rfl (by decide) (by decide) (by decide) rfl rfl ?_
          refine mr_getR (pc' := 52) (ci := 6) (j := 1) (b := 11) hR dX10_when_49 rfl rfl rfl (by decide) (by decide) (by decide) rfl rfl ?_
          refine mr_getR (pc' := 55) (ci := 0) (j := 4) (b := 16) hR dX10_when_52 rfl rfl rfl (by decide) (by decide) (by decide) rfl rfl ?_
          refine mr_iload_n (pc' := 56) dX10_when_55 rfl rfl ?_
          obtain ⟨a17, g18, h19⟩ := Option.bind_eq_some_iff.mp h15
          refine mr_lald (pc' := 57) dX10_when_56 rfl rfl rfl g18 ?_
          refine mr_lsub (pc' := 58) dX10_when_57 rfl ?_
          refine mr_lstore (pc' := 60) (lv' := [(5, .long (((Int32.toInt64 v3) * (232792560 : Int64)) - a17)), (0, .ref 0), (1, .int v1), (2, .int v2), (3, .int v3), (4, .int v4)]) dX10_when_58 rfl (by decide) rfl ?_
          refine mr_lload (pc' := 62) dX10_when_60 rfl rfl ?_
          refine mr_lconst (pc' := 63) (v := (0 : Int64)) dX10_when_62 rfl (by decide) ?_
          by_cases c20 : (0 : Int64) ≤ (((Int32.toInt64 v3) * (232792560 : Int64)) - a17)
          · rw [if_pos c20] at h19
            refine mr_lcmp_ge_t (t := 71) dX10_when_63 rfl dX10_when_64 (by decide) c20 ?_
            refine mr_lload (pc' := 73) dX10_when_71 rfl rfl ?_
            refine mr_aload_n (pc' := 74) dX10_when_73 rfl rfl ?_
            refine mr_getR (pc' := 77) (ci := 10) (j := 1) (b := 3) hR dX10_when_74 rfl rfl rfl (by decide) (by decide) (by decide) rfl rfl ?_
            refine mr_getR (pc' := 80) (ci := 6) (j := 0) (b := 4) hR dX10_when_77 rfl rfl rfl (by decide) (by decide) (by decide) rfl rfl ?_
            refine mr_getR (pc' := 83) (ci := 8) (j := 0) (b := 5) hR dX10_when_80 rfl rfl rfl (by decide) (by decide) (by decide) rfl rfl ?_
            refine mr_iload_n (pc' := 84) dX10_when_83 rfl rfl ?_
            obtain ⟨a21, g22, h23⟩ := Option.bind_eq_some_iff.mp h19
            refine mr_lald (pc' := 85) dX10_when_84 rfl rfl rfl g22 ?_
            refine mr_iload (pc' := 87) dX10_when_85 rfl rfl ?_
            obtain ⟨q24, g25, h26⟩ := Option.bind_eq_some_iff.mp h23
            refine mr_cs (pc' := 90) (d1 := 2) dX10_when_87 rfl rfl rfl rfl (by decide) (Nat.le_of_ble_eq_true rfl) rfl rfl rfl (by decide) (ok_X10_lowest hR  g25) ?_
            show mr X _ _ 90 _ [.long q24] (MM RR S) _
            obtain rfl := Option.some.inj h26
            exact mr_lreturn dX10_when_90 rfl
          · rw [if_neg c20] at h19
            refine mr_lcmp_ge_f (t := 71) (pc' := 67) dX10_when_63 rfl dX10_when_64 (by decide) rfl c20 ?_
            refine mr_ldc2 (pc' := 70) (v := (-2 : Int64)) dX10_when_67 rfl rfl ?_
            obtain rfl := Option.some.inj h19
            exact mr_lreturn dX10_when_70 rfl
def f_X10_shown (v1 : Int32) (v2 : Int32) (v3 : Int32) (S : fS) : Option (Int32) :=
  (f_X10_isFloor v1 S).bind fun q1 =>
  if q1 = (0 : Int32) then (some (-1 : Int32)) else
  ((f_X10_isHour v2 S).bind fun q5 =>
  if q5 = (0 : Int32) then (some (-1 : Int32)) else
  ((f_X10_isFrom v3 (0 : Int32) (1 : Int32) S).bind fun q9 =>
  if q9 = (0 : Int32) then (some (-1 : Int32)) else
  ((f_X8_clockAt 4 v1 v2 S).bind fun q13 =>
  if v3 = (0 : Int32) then ((dL q13 (5587021440 : Int64)).bind fun a23 =>
  some (Int64.toInt32 a23)) else
  ((rL q13 (5587021440 : Int64)).bind fun a17 =>
  (dL a17 (232792560 : Int64)).bind fun a20 =>
  some (Int64.toInt32 a20)))))
set_option maxHeartbeats 4000000 in
set_option maxRecDepth 100000 in
theorem ok_X10_shown {X : mm_C} {RR : Nat → Nat → Option Nat} (hR : RRok RR) {v1 : Int32} {v2 : Int32} {v3 : Int32}  {S : fS} {r : Int32} (h : f_X10_shown v1 v2 v3 S = some r) : mr X 2 mY_X10_shown 0 (lv_args 0 [.ref 0, .int v1, .int v2, .int v3]) [] (MM RR S) (some (.int r), MM RR S) := by
  unfold f_X10_shown at h
  show mr X _ _ 0 [(0, .ref 0), (1, .int v1), (2, .int v2), (3, .int v3)] [] (MM RR S) _
  refine mr_aload_n (pc' := 1) dX10_shown_0 rfl rfl ?_
  refine mr_iload_n (pc' := 2) dX10_shown_1 rfl rfl ?_
  obtain ⟨q1, g2, h3⟩ := Option.bind_eq_some_iff.mp h
  refine mr_cv (pc' := 5) (a := 0) (d1 := 1) dX10_shown_2 rfl rfl rfl rfl rfl rfl (by decide) rfl (by decide) (ok_X10_isFloor hR  g2) ?_
  show mr X _ _ 5 _ [.int q1] (MM RR S) _
  by_cases c4 : q1 = (0 : Int32)
  · rw [if_pos c4] at h3
    refine mr_if_eq_t (t := 24) dX10_shown_5 (by decide) c4 ?_
    refine mr_iconst (pc' := 25) (v := (-1 : Int32)) dX10_shown_24 rfl (by decide) ?_
    obtain rfl := Option.some.inj h3
    exact mr_ireturn dX10_shown_25 rfl
  · rw [if_neg c4] at h3
    refine mr_if_eq_f (t := 24) (pc' := 8) dX10_shown_5 (by decide) rfl c4 ?_
    refine mr_iload_n (pc' := 9) dX10_shown_8 rfl rfl ?_
    obtain ⟨q5, g6, h7⟩ := Option.bind_eq_some_iff.mp h3
    refine mr_cs (pc' := 12) (d1 := 1) dX10_shown_9 rfl rfl rfl rfl (by decide) (Nat.le_of_ble_eq_true rfl) rfl rfl rfl (by decide) (ok_X10_isHour hR  g6) ?_
    show mr X _ _ 12 _ [.int q5] (MM RR S) _
    by_cases c8 : q5 = (0 : Int32)
    · rw [if_pos c8] at h7
      refine mr_if_eq_t (t := 24) dX10_shown_12 (by decide) c8 ?_
      refine mr_iconst (pc' := 25) (v := (-1 : Int32)) dX10_shown_24 rfl (by decide) ?_
      obtain rfl := Option.some.inj h7
      exact mr_ireturn dX10_shown_25 rfl
    · rw [if_neg c8] at h7
      refine mr_if_eq_f (t := 24) (pc' := 15) dX10_shown_12 (by decide) rfl c8 ?_
      refine mr_iload_n (pc' := 16) dX10_shown_15 rfl rfl ?_
      refine mr_iconst (pc' := 17) (v := (0 : Int32)) dX10_shown_16 rfl (by decide) ?_
      refine mr_iconst (pc' := 18) (v := (1 : Int32)) dX10_shown_17 rfl (by decide) ?_
      obtain ⟨q9, g10, h11⟩ := Option.bind_eq_some_iff.mp h7
      refine mr_cs (pc' := 21) (d1 := 0) dX10_shown_18 rfl rfl rfl rfl (by decide) (Nat.le_of_ble_eq_true rfl) rfl rfl rfl (by decide) (ok_X10_isFrom hR  g10) ?_
      show mr X _ _ 21 _ [.int q9] (MM RR S) _
      by_cases c12 : q9 = (0 : Int32)
      · rw [if_pos c12] at h11
        refine mr_if_ne_f (t := 26) (pc' := 24) dX10_shown_21 (by decide) rfl (not_not_intro c12) ?_
        refine mr_iconst (pc' := 25) (v := (-1 : Int32)) dX10_shown_24 rfl (by decide) ?_
        obtain rfl := Option.some.inj h11
        exact mr_ireturn dX10_shown_25 rfl
      · rw [if_neg c12] at h11
        refine mr_if_ne_t (t := 26) dX10_shown_21 (by decide) c12 ?_
        refine mr_aload_n (pc' := 27) dX10_shown_26 rfl rfl ?_
        refine mr_getR (pc' := 30) (ci := 10) (j := 1) (b := 3) hR dX10_shown_27 rfl rfl rfl (by decide) (by decide) (by decide) rfl rfl ?_
        refine mr_getR (pc' := 33) (ci := 6) (j := 0) (b := 4) hR dX10_shown_30 rfl rfl rfl (by decide) (by decide) (by decide) rfl rfl ?_
        refine mr_iload_n (pc' := 34) dX10_shown_33 rfl rfl ?_
        refine mr_iload_n (pc' := 35) dX10_shown_34 rfl rfl ?_
        obtain ⟨q13, g14, h15⟩ := Option.bind_eq_some_iff.mp h11
        refine mr_cv (pc' := 38) (a := 4) (d1 := 0) dX10_shown_35 rfl rfl rfl rfl rfl rfl (by decide) rfl (by decide) (ok_X8_clockAt hR rfl g14) ?_
        show mr X _ _ 38 _ [.long q13] (MM RR S) _
        refine mr_lstore (pc' := 40) (lv' := [(4, .long q13), (0, .ref 0), (1, .int v1), (2, .int v2), (3, .int v3)]) dX10_shown_38 rfl (by decide) rfl ?_
        refine mr_iload_n (pc' := 41) dX10_shown_40 rfl rfl ?_
        by_cases c16 : v3 = (0 : Int32)
        · rw [if_pos c16] at h15
          refine mr_if_ne_f (t := 53) (pc' := 44) dX10_shown_41 (by decide) rfl (not_not_intro c16) ?_
          refine mr_lload (pc' := 46) dX10_shown_44 rfl rfl ?_
          refine mr_ldc2 (pc' := 49) (v := (5587021440 : Int64)) dX10_shown_46 rfl rfl ?_
          obtain ⟨a23, g24, h25⟩ := Option.bind_eq_some_iff.mp h15
          refine mr_ldiv (pc' := 50) dX10_shown_49 rfl g24 ?_
          refine mr_goto (t := 63) dX10_shown_50 (by decide) ?_
          refine mr_l2i (pc' := 64) dX10_shown_63 rfl ?_
          obtain rfl := Option.some.inj h25
          exact mr_ireturn dX10_shown_64 rfl
        · rw [if_neg c16] at h15
          refine mr_if_ne_t (t := 53) dX10_shown_41 (by decide) c16 ?_
          refine mr_lload (pc' := 55) dX10_shown_53 rfl rfl ?_
          refine mr_ldc2 (pc' := 58) (v := (5587021440 : Int64)) dX10_shown_55 rfl rfl ?_
          obtain ⟨a17, g18, h19⟩ := Option.bind_eq_some_iff.mp h15
          refine mr_lrem (pc' := 59) dX10_shown_58 rfl g18 ?_
          refine mr_ldc2 (pc' := 62) (v := (232792560 : Int64)) dX10_shown_59 rfl rfl ?_
          obtain ⟨a20, g21, h22⟩ := Option.bind_eq_some_iff.mp h19
          refine mr_ldiv (pc' := 63) dX10_shown_62 rfl g21 ?_
          refine mr_l2i (pc' := 64) dX10_shown_63 rfl ?_
          obtain rfl := Option.some.inj h22
          exact mr_ireturn dX10_shown_64 rfl
def f_X10_noonsUpTo (v0 : Int64) (S : fS) : Option (Int64) :=
  if (2793510720 : Int64) ≤ v0 then ((dL (v0 - (2793510720 : Int64)) (5587021440 : Int64)).bind fun a2 =>
  some (a2 + (1 : Int64))) else
  (some (0 : Int64))
set_option maxHeartbeats 4000000 in
set_option maxRecDepth 100000 in
theorem ok_X10_noonsUpTo {X : mm_C} {RR : Nat → Nat → Option Nat} (hR : RRok RR) {v0 : Int64}  {S : fS} {r : Int64} (h : f_X10_noonsUpTo v0 S = some r) : mr X 0 mY_X10_noonsUpTo 0 (lv_args 0 [.long v0]) [] (MM RR S) (some (.long r), MM RR S) := by
  unfold f_X10_noonsUpTo at h
  show mr X _ _ 0 [(0, .long v0)] [] (MM RR S) _
  refine mr_lload_n (pc' := 1) dX10_noonsUpTo_0 rfl rfl ?_
  refine mr_ldc2 (pc' := 4) (v := (2793510720 : Int64)) dX10_noonsUpTo_1 rfl rfl ?_
  by_cases c1 : (2793510720 : Int64) ≤ v0
  · rw [if_pos c1] at h
    refine mr_lcmp_ge_t (t := 12) dX10_noonsUpTo_4 rfl dX10_noonsUpTo_5 (by decide) c1 ?_
    refine mr_lload_n (pc' := 13) dX10_noonsUpTo_12 rfl rfl ?_
    refine mr_ldc2 (pc' := 16) (v := (2793510720 : Int64)) dX10_noonsUpTo_13 rfl rfl ?_
    refine mr_lsub (pc' := 17) dX10_noonsUpTo_16 rfl ?_
    refine mr_ldc2 (pc' := 20) (v := (5587021440 : Int64)) dX10_noonsUpTo_17 rfl rfl ?_
    obtain ⟨a2, g3, h4⟩ := Option.bind_eq_some_iff.mp h
    refine mr_ldiv (pc' := 21) dX10_noonsUpTo_20 rfl g3 ?_
    refine mr_lconst (pc' := 22) (v := (1 : Int64)) dX10_noonsUpTo_21 rfl (by decide) ?_
    refine mr_ladd (pc' := 23) dX10_noonsUpTo_22 rfl ?_
    obtain rfl := Option.some.inj h4
    exact mr_lreturn dX10_noonsUpTo_23 rfl
  · rw [if_neg c1] at h
    refine mr_lcmp_ge_f (t := 12) (pc' := 8) dX10_noonsUpTo_4 rfl dX10_noonsUpTo_5 (by decide) rfl c1 ?_
    refine mr_lconst (pc' := 9) (v := (0 : Int64)) dX10_noonsUpTo_8 rfl (by decide) ?_
    refine mr_goto (t := 23) dX10_noonsUpTo_9 (by decide) ?_
    obtain rfl := Option.some.inj h
    exact mr_lreturn dX10_noonsUpTo_23 rfl
def f_X10_noonsIn (v1 : Int32) (v2 : Int32) (v3 : Int32) (S : fS) : Option (Int32) :=
  (f_X10_isFloor v1 S).bind fun q1 =>
  if q1 = (0 : Int32) then (some (-1 : Int32)) else
  ((f_X10_isHour v2 S).bind fun q5 =>
  if q5 = (0 : Int32) then (some (-1 : Int32)) else
  ((f_X10_isFrom v3 v2 (9999 : Int32) S).bind fun q9 =>
  if q9 = (0 : Int32) then (some (-1 : Int32)) else
  ((f_X8_clockAt 4 v1 v2 S).bind fun q13 =>
  (f_X8_clockAt 4 v1 v3 S).bind fun q16 =>
  (f_X10_noonsUpTo q16 S).bind fun q19 =>
  (f_X10_noonsUpTo (q13 - (1 : Int64)) S).bind fun q22 =>
  some (Int64.toInt32 (q19 - q22)))))
set_option maxHeartbeats 4000000 in
set_option maxRecDepth 100000 in
theorem ok_X10_noonsIn {X : mm_C} {RR : Nat → Nat → Option Nat} (hR : RRok RR) {v1 : Int32} {v2 : Int32} {v3 : Int32}  {S : fS} {r : Int32} (h : f_X10_noonsIn v1 v2 v3 S = some r) : mr X 2 mY_X10_noonsIn 0 (lv_args 0 [.ref 0, .int v1, .int v2, .int v3]) [] (MM RR S) (some (.int r), MM RR S) := by
  unfold f_X10_noonsIn at h
  show mr X _ _ 0 [(0, .ref 0), (1, .int v1), (2, .int v2), (3, .int v3)] [] (MM RR S) _
  refine mr_aload_n (pc' := 1) dX10_noonsIn_0 rfl rfl ?_
  refine mr_iload_n (pc' := 2) dX10_noonsIn_1 rfl rfl ?_
  obtain ⟨q1, g2, h3⟩ := Option.bind_eq_some_iff.mp h
  refine mr_cv (pc' := 5) (a := 0) (d1 := 1) dX10_noonsIn_2 rfl rfl rfl rfl rfl rfl (by decide) rfl (by decide) (ok_X10_isFloor hR  g2) ?_
  show mr X _ _ 5 _ [.int q1] (MM RR S) _
  by_cases c4 : q1 = (0 : Int32)
  · rw [if_pos c4] at h3
    refine mr_if_eq_t (t := 26) dX10_noonsIn_5 (by decide) c4 ?_
    refine mr_iconst (pc' := 27) (v := (-1 : Int32)) dX10_noonsIn_26 rfl (by decide) ?_
    obtain rfl := Option.some.inj h3
    exact mr_ireturn dX10_noonsIn_27 rfl
  · rw [if_neg c4] at h3
    refine mr_if_eq_f (t := 26) (pc' := 8) dX10_noonsIn_5 (by decide) rfl c4 ?_
    refine mr_iload_n (pc' := 9) dX10_noonsIn_8 rfl rfl ?_
    obtain ⟨q5, g6, h7⟩ := Option.bind_eq_some_iff.mp h3
    refine mr_cs (pc' := 12) (d1 := 1) dX10_noonsIn_9 rfl rfl rfl rfl (by decide) (Nat.le_of_ble_eq_true rfl) rfl rfl rfl (by decide) (ok_X10_isHour hR  g6) ?_
    show mr X _ _ 12 _ [.int q5] (MM RR S) _
    by_cases c8 : q5 = (0 : Int32)
    · rw [if_pos c8] at h7
      refine mr_if_eq_t (t := 26) dX10_noonsIn_12 (by decide) c8 ?_
      refine mr_iconst (pc' := 27) (v := (-1 : Int32)) dX10_noonsIn_26 rfl (by decide) ?_
      obtain rfl := Option.some.inj h7
      exact mr_ireturn dX10_noonsIn_27 rfl
    · rw [if_neg c8] at h7
      refine mr_if_eq_f (t := 26) (pc' := 15) dX10_noonsIn_12 (by decide) rfl c8 ?_
      refine mr_iload_n (pc' := 16) dX10_noonsIn_15 rfl rfl ?_
      refine mr_iload_n (pc' := 17) dX10_noonsIn_16 rfl rfl ?_
      refine mr_sipush (pc' := 20) (v := (9999 : Int32)) dX10_noonsIn_17 rfl (by decide) ?_
      obtain ⟨q9, g10, h11⟩ := Option.bind_eq_some_iff.mp h7
      refine mr_cs (pc' := 23) (d1 := 0) dX10_noonsIn_20 rfl rfl rfl rfl (by decide) (Nat.le_of_ble_eq_true rfl) rfl rfl rfl (by decide) (ok_X10_isFrom hR  g10) ?_
      show mr X _ _ 23 _ [.int q9] (MM RR S) _
      by_cases c12 : q9 = (0 : Int32)
      · rw [if_pos c12] at h11
        refine mr_if_ne_f (t := 28) (pc' := 26) dX10_noonsIn_23 (by decide) rfl (not_not_intro c12) ?_
        refine mr_iconst (pc' := 27) (v := (-1 : Int32)) dX10_noonsIn_26 rfl (by decide) ?_
        obtain rfl := Option.some.inj h11
        exact mr_ireturn dX10_noonsIn_27 rfl
      · rw [if_neg c12] at h11
        refine mr_if_ne_t (t := 28) dX10_noonsIn_23 (by decide) c12 ?_
        refine mr_aload_n (pc' := 29) dX10_noonsIn_28 rfl rfl ?_
        refine mr_getR (pc' := 32) (ci := 10) (j := 1) (b := 3) hR dX10_noonsIn_29 rfl rfl rfl (by decide) (by decide) (by decide) rfl rfl ?_
        refine mr_getR (pc' := 35) (ci := 6) (j := 0) (b := 4) hR dX10_noonsIn_32 rfl rfl rfl (by decide) (by decide) (by decide) rfl rfl ?_
        refine mr_iload_n (pc' := 36) dX10_noonsIn_35 rfl rfl ?_
        refine mr_iload_n (pc' := 37) dX10_noonsIn_36 rfl rfl ?_
        obtain ⟨q13, g14, h15⟩ := Option.bind_eq_some_iff.mp h11
        refine mr_cv (pc' := 40) (a := 4) (d1 := 0) dX10_noonsIn_37 rfl rfl rfl rfl rfl rfl (by decide) rfl (by decide) (ok_X8_clockAt hR rfl g14) ?_
        show mr X _ _ 40 _ [.long q13] (MM RR S) _
        refine mr_lconst (pc' := 41) (v := (1 : Int64)) dX10_noonsIn_40 rfl (by decide) ?_
        refine mr_lsub (pc' := 42) dX10_noonsIn_41 rfl ?_
        refine mr_lstore (pc' := 44) (lv' := [(4, .long (q13 - (1 : Int64))), (0, .ref 0), (1, .int v1), (2, .int v2), (3, .int v3)]) dX10_noonsIn_42 rfl (by decide) rfl ?_
        refine mr_aload_n (pc' := 45) dX10_noonsIn_44 rfl rfl ?_
        refine mr_getR (pc' := 48) (ci := 10) (j := 1) (b := 3) hR dX10_noonsIn_45 rfl rfl rfl (by decide) (by decide) (by decide) rfl rfl ?_
        refine mr_getR (pc' := 51) (ci := 6) (j := 0) (b := 4) hR dX10_noonsIn_48 rfl rfl rfl (by decide) (by decide) (by decide) rfl rfl ?_
        refine mr_iload_n (pc' := 52) dX10_noonsIn_51 rfl rfl ?_
        refine mr_iload_n (pc' := 53) dX10_noonsIn_52 rfl rfl ?_
        obtain ⟨q16, g17, h18⟩ := Option.bind_eq_some_iff.mp h15
        refine mr_cv (pc' := 56) (a := 4) (d1 := 0) dX10_noonsIn_53 rfl rfl rfl rfl rfl rfl (by decide) rfl (by decide) (ok_X8_clockAt hR rfl g17) ?_
        show mr X _ _ 56 _ [.long q16] (MM RR S) _
        obtain ⟨q19, g20, h21⟩ := Option.bind_eq_some_iff.mp h18
        refine mr_cs (pc' := 59) (d1 := 0) dX10_noonsIn_56 rfl rfl rfl rfl (by decide) (Nat.le_of_ble_eq_true rfl) rfl rfl rfl (by decide) (ok_X10_noonsUpTo hR  g20) ?_
        show mr X _ _ 59 _ [.long q19] (MM RR S) _
        refine mr_lload (pc' := 61) dX10_noonsIn_59 rfl rfl ?_
        obtain ⟨q22, g23, h24⟩ := Option.bind_eq_some_iff.mp h21
        refine mr_cs (pc' := 64) (d1 := 0) dX10_noonsIn_61 rfl rfl rfl rfl (by decide) (Nat.le_of_ble_eq_true rfl) rfl rfl rfl (by decide) (ok_X10_noonsUpTo hR  g23) ?_
        show mr X _ _ 64 _ [.long q22, .long q19] (MM RR S) _
        refine mr_lsub (pc' := 65) dX10_noonsIn_64 rfl ?_
        refine mr_l2i (pc' := 66) dX10_noonsIn_65 rfl ?_
        obtain rfl := Option.some.inj h24
        exact mr_ireturn dX10_noonsIn_66 rfl
def f_X10_due (v1 : Int32) (v2 : Int32) (S : fS) : Option (Int32) :=
  (f_X10_isFloor v1 S).bind fun q1 =>
  if q1 = (0 : Int32) then (some (-1 : Int32)) else
  ((f_X10_isFrom v2 (0 : Int32) (9999 : Int32) S).bind fun q5 =>
  if q5 = (0 : Int32) then (some (-1 : Int32)) else
  ((gL S 5 10 v1).bind fun a9 =>
  (f_X10_upwards ((Int32.toInt64 v2) * (5587021440 : Int64)) a9 S).bind fun q12 =>
  some (Int64.toInt32 q12)))
set_option maxHeartbeats 4000000 in
set_option maxRecDepth 100000 in
theorem ok_X10_due {X : mm_C} {RR : Nat → Nat → Option Nat} (hR : RRok RR) {v1 : Int32} {v2 : Int32}  {S : fS} {r : Int32} (h : f_X10_due v1 v2 S = some r) : mr X 2 mY_X10_due 0 (lv_args 0 [.ref 0, .int v1, .int v2]) [] (MM RR S) (some (.int r), MM RR S) := by
  unfold f_X10_due at h
  show mr X _ _ 0 [(0, .ref 0), (1, .int v1), (2, .int v2)] [] (MM RR S) _
  refine mr_aload_n (pc' := 1) dX10_due_0 rfl rfl ?_
  refine mr_iload_n (pc' := 2) dX10_due_1 rfl rfl ?_
  obtain ⟨q1, g2, h3⟩ := Option.bind_eq_some_iff.mp h
  refine mr_cv (pc' := 5) (a := 0) (d1 := 1) dX10_due_2 rfl rfl rfl rfl rfl rfl (by decide) rfl (by decide) (ok_X10_isFloor hR  g2) ?_
  show mr X _ _ 5 _ [.int q1] (MM RR S) _
  by_cases c4 : q1 = (0 : Int32)
  · rw [if_pos c4] at h3
    refine mr_if_eq_t (t := 19) dX10_due_5 (by decide) c4 ?_
    refine mr_iconst (pc' := 20) (v := (-1 : Int32)) dX10_due_19 rfl (by decide) ?_
    obtain rfl := Option.some.inj h3
    exact mr_ireturn dX10_due_20 rfl
  · rw [if_neg c4] at h3
    refine mr_if_eq_f (t := 19) (pc' := 8) dX10_due_5 (by decide) rfl c4 ?_
    refine mr_iload_n (pc' := 9) dX10_due_8 rfl rfl ?_
    refine mr_iconst (pc' := 10) (v := (0 : Int32)) dX10_due_9 rfl (by decide) ?_
    refine mr_sipush (pc' := 13) (v := (9999 : Int32)) dX10_due_10 rfl (by decide) ?_
    obtain ⟨q5, g6, h7⟩ := Option.bind_eq_some_iff.mp h3
    refine mr_cs (pc' := 16) (d1 := 0) dX10_due_13 rfl rfl rfl rfl (by decide) (Nat.le_of_ble_eq_true rfl) rfl rfl rfl (by decide) (ok_X10_isFrom hR  g6) ?_
    show mr X _ _ 16 _ [.int q5] (MM RR S) _
    by_cases c8 : q5 = (0 : Int32)
    · rw [if_pos c8] at h7
      refine mr_if_ne_f (t := 21) (pc' := 19) dX10_due_16 (by decide) rfl (not_not_intro c8) ?_
      refine mr_iconst (pc' := 20) (v := (-1 : Int32)) dX10_due_19 rfl (by decide) ?_
      obtain rfl := Option.some.inj h7
      exact mr_ireturn dX10_due_20 rfl
    · rw [if_neg c8] at h7
      refine mr_if_ne_t (t := 21) dX10_due_16 (by decide) c8 ?_
      refine mr_iload_n (pc' := 22) dX10_due_21 rfl rfl ?_
      refine mr_i2l (pc' := 23) dX10_due_22 rfl ?_
      refine mr_ldc2 (pc' := 26) (v := (5587021440 : Int64)) dX10_due_23 rfl rfl ?_
      refine mr_lmul (pc' := 27) dX10_due_26 rfl ?_
      refine mr_aload_n (pc' := 28) dX10_due_27 rfl rfl ?_
      refine mr_getR (pc' := 31) (ci := 10) (j := 1) (b := 3) hR dX10_due_28 rfl rfl rfl (by decide) (by decide) (by decide) rfl rfl ?_
      refine mr_getR (pc' := 34) (ci := 6) (j := 0) (b := 4) hR dX10_due_31 rfl rfl rfl (by decide) (by decide) (by decide) rfl rfl ?_
      refine mr_getR (pc' := 37) (ci := 8) (j := 0) (b := 5) hR dX10_due_34 rfl rfl rfl (by decide) (by decide) (by decide) rfl rfl ?_
      refine mr_iload_n (pc' := 38) dX10_due_37 rfl rfl ?_
      obtain ⟨a9, g10, h11⟩ := Option.bind_eq_some_iff.mp h7
      refine mr_lald (pc' := 39) dX10_due_38 rfl rfl rfl g10 ?_
      obtain ⟨q12, g13, h14⟩ := Option.bind_eq_some_iff.mp h11
      refine mr_cs (pc' := 42) (d1 := 0) dX10_due_39 rfl rfl rfl rfl (by decide) (Nat.le_of_ble_eq_true rfl) rfl rfl rfl (by decide) (ok_X10_upwards hR  g13) ?_
      show mr X _ _ 42 _ [.long q12] (MM RR S) _
      refine mr_l2i (pc' := 43) dX10_due_42 rfl ?_
      obtain rfl := Option.some.inj h14
      exact mr_ireturn dX10_due_43 rfl
def lp_X8_isWayAround_22 (p0 : Nat) (p1 : Int32) (p3 : Int32) (S : fS) (K : Int32 → Option (Int32)) : Nat → Int32 → Int32 → Option (Int32)
  | 0, _, _ => none
  | n + 1, p2, p4 =>
    if (S.1 p0 7) ≤ p4 then (K p2) else
    ((gI S (p0 + 2) 12 p4).bind fun a6 =>
    (gI S (p0 + 3) 12 p4).bind fun a9 =>
    if p4 = p1 then (lp_X8_isWayAround_22 p0 p1 p3 S K n p2 (p4 + (1 : Int32))) else
    (if (p2 &&& (((1 : Int32) <<< (a6 &&& 31)) ||| ((1 : Int32) <<< (a9 &&& 31)))) = (0 : Int32) then (lp_X8_isWayAround_22 p0 p1 p3 S K n p2 (p4 + (1 : Int32))) else
    (lp_X8_isWayAround_22 p0 p1 p3 S K n (p2 ||| (((1 : Int32) <<< (a6 &&& 31)) ||| ((1 : Int32) <<< (a9 &&& 31)))) (p4 + (1 : Int32)))))
set_option maxHeartbeats 4000000 in
set_option maxRecDepth 100000 in
theorem ok_lp_X8_isWayAround_22 {X : mm_C} {RR : Nat → Nat → Option Nat} (hR : RRok RR) {p0 : Nat} {p1 : Int32} {p3 : Int32} (t0 : tg p0 = 8) {S : fS} {K : Int32 → Option (Int32)} {r : Int32} (hK : ∀ (k2 : Int32), K k2 = some r → mr X 0 mY_X8_isWayAround 76 [(0, .ref p0), (1, .int p1), (2, .int k2), (3, .int p3)] [] (MM RR S) (some (.int r), MM RR S)) : ∀ (n : Nat) (p2 : Int32) (p4 : Int32), lp_X8_isWayAround_22 p0 p1 p3 S K n p2 p4 = some r → mr X 0 mY_X8_isWayAround 22 [(0, .ref p0), (1, .int p1), (2, .int p2), (3, .int p3), (4, .int p4)] [] (MM RR S) (some (.int r), MM RR S) := by
  intro n
  induction n with
  | zero => intro p2 p4 h; exact mm_no h
  | succ n ih =>
    intro p2 p4 h
    unfold lp_X8_isWayAround_22 at h
    refine mr_iload (pc' := 24) dX8_isWayAround_22 rfl rfl ?_
    refine mr_aload_n (pc' := 25) dX8_isWayAround_24 rfl rfl ?_
    refine mr_getI (pc' := 28) (ci := 8) (j := 7) dX8_isWayAround_25 rfl rfl t0 (by decide) (by decide) rfl ?_
    by_cases c5 : (S.1 p0 7) ≤ p4
    · rw [if_pos c5] at h
      refine mr_icmp_ge_t (t := 76) dX8_isWayAround_28 (by decide) c5 ?_
      exact mr_sub [(0, .ref p0), (1, .int p1), (2, .int p2), (3, .int p3)] ⟨rfl, rfl, rfl, rfl, trivial⟩ rfl (hK _  h)
    · rw [if_neg c5] at h
      refine mr_icmp_ge_f (t := 76) (pc' := 31) dX8_isWayAround_28 (by decide) rfl c5 ?_
      refine mr_iconst (pc' := 32) (v := (1 : Int32)) dX8_isWayAround_31 rfl (by decide) ?_
      refine mr_aload_n (pc' := 33) dX8_isWayAround_32 rfl rfl ?_
      refine mr_getR (pc' := 36) (ci := 8) (j := 1) (b := (p0 + 2)) hR dX8_isWayAround_33 rfl rfl t0 (by decide) (by decide) (by decide) rfl (ly8_1 t0).1 ?_
      refine mr_iload (pc' := 38) dX8_isWayAround_36 rfl rfl ?_
      obtain ⟨a6, g7, h8⟩ := Option.bind_eq_some_iff.mp h
      refine mr_iald (pc' := 39) dX8_isWayAround_38 rfl (ly8_1 t0).2.1 (ly8_1 t0).2.2 g7 ?_
      refine mr_ishl (pc' := 40) dX8_isWayAround_39 rfl ?_
      refine mr_iconst (pc' := 41) (v := (1 : Int32)) dX8_isWayAround_40 rfl (by decide) ?_
      refine mr_aload_n (pc' := 42) dX8_isWayAround_41 rfl rfl ?_
      refine mr_getR (pc' := 45) (ci := 8) (j := 2) (b := (p0 + 3)) hR dX8_isWayAround_42 rfl rfl t0 (by decide) (by decide) (by decide) rfl (ly8_2 t0).1 ?_
      refine mr_iload (pc' := 47) dX8_isWayAround_45 rfl rfl ?_
      obtain ⟨a9, g10, h11⟩ := Option.bind_eq_some_iff.mp h8
      refine mr_iald (pc' := 48) dX8_isWayAround_47 rfl (ly8_2 t0).2.1 (ly8_2 t0).2.2 g10 ?_
      refine mr_ishl (pc' := 49) dX8_isWayAround_48 rfl ?_
      refine mr_ior (pc' := 50) dX8_isWayAround_49 rfl ?_
      refine mr_istore (pc' := 52) (lv' := [(5, .int (((1 : Int32) <<< (a6 &&& 31)) ||| ((1 : Int32) <<< (a9 &&& 31)))), (0, .ref p0), (1, .int p1), (2, .int p2), (3, .int p3), (4, .int p4)]) dX8_isWayAround_50 rfl (by decide) rfl ?_
      refine mr_iload (pc' := 54) dX8_isWayAround_52 rfl rfl ?_
      refine mr_iload_n (pc' := 55) dX8_isWayAround_54 rfl rfl ?_
      by_cases c12 : p4 = p1
      · rw [if_pos c12] at h11
        refine mr_icmp_eq_t (t := 70) dX8_isWayAround_55 (by decide) c12 ?_
        refine mr_iinc (pc' := 73) (x' := (p4 + (1 : Int32))) (lv' := [(4, .int (p4 + (1 : Int32))), (5, .int (((1 : Int32) <<< (a6 &&& 31)) ||| ((1 : Int32) <<< (a9 &&& 31)))), (0, .ref p0), (1, .int p1), (2, .int p2), (3, .int p3)]) dX8_isWayAround_70 rfl (by decide) rfl rfl rfl ?_
        refine mr_goto (t := 22) dX8_isWayAround_73 (by decide) ?_
        exact mr_sub [(0, .ref p0), (1, .int p1), (2, .int p2), (3, .int p3), (4, .int (p4 + (1 : Int32)))] ⟨rfl, rfl, rfl, rfl, rfl, trivial⟩ rfl (ih _ _  h11)
      · rw [if_neg c12] at h11
        refine mr_icmp_eq_f (t := 70) (pc' := 58) dX8_isWayAround_55 (by decide) rfl c12 ?_
        refine mr_iload_n (pc' := 59) dX8_isWayAround_58 rfl rfl ?_
        refine mr_iload (pc' := 61) dX8_isWayAround_59 rfl rfl ?_
        refine mr_iand (pc' := 62) dX8_isWayAround_61 rfl ?_
        by_cases c13 : (p2 &&& (((1 : Int32) <<< (a6 &&& 31)) ||| ((1 : Int32) <<< (a9 &&& 31)))) = (0 : Int32)
        · rw [if_pos c13] at h11
          refine mr_if_eq_t (t := 70) dX8_isWayAround_62 (by decide) c13 ?_
          refine mr_iinc (pc' := 73) (x' := (p4 + (1 : Int32))) (lv' := [(4, .int (p4 + (1 : Int32))), (5, .int (((1 : Int32) <<< (a6 &&& 31)) ||| ((1 : Int32) <<< (a9 &&& 31)))), (0, .ref p0), (1, .int p1), (2, .int p2), (3, .int p3)]) dX8_isWayAround_70 rfl (by decide) rfl rfl rfl ?_
          refine mr_goto (t := 22) dX8_isWayAround_73 (by decide) ?_
          exact mr_sub [(0, .ref p0), (1, .int p1), (2, .int p2), (3, .int p3), (4, .int (p4 + (1 : Int32)))] ⟨rfl, rfl, rfl, rfl, rfl, trivial⟩ rfl (ih _ _  h11)
        · rw [if_neg c13] at h11
          refine mr_if_eq_f (t := 70) (pc' := 65) dX8_isWayAround_62 (by decide) rfl c13 ?_
          refine mr_iload_n (pc' := 66) dX8_isWayAround_65 rfl rfl ?_
          refine mr_iload (pc' := 68) dX8_isWayAround_66 rfl rfl ?_
          refine mr_ior (pc' := 69) dX8_isWayAround_68 rfl ?_
          refine mr_istore_n (pc' := 70) (lv' := [(2, .int (p2 ||| (((1 : Int32) <<< (a6 &&& 31)) ||| ((1 : Int32) <<< (a9 &&& 31))))), (5, .int (((1 : Int32) <<< (a6 &&& 31)) ||| ((1 : Int32) <<< (a9 &&& 31)))), (0, .ref p0), (1, .int p1), (3, .int p3), (4, .int p4)]) dX8_isWayAround_69 rfl (by decide) rfl ?_
          refine mr_iinc (pc' := 73) (x' := (p4 + (1 : Int32))) (lv' := [(4, .int (p4 + (1 : Int32))), (2, .int (p2 ||| (((1 : Int32) <<< (a6 &&& 31)) ||| ((1 : Int32) <<< (a9 &&& 31))))), (5, .int (((1 : Int32) <<< (a6 &&& 31)) ||| ((1 : Int32) <<< (a9 &&& 31)))), (0, .ref p0), (1, .int p1), (3, .int p3)]) dX8_isWayAround_70 rfl (by decide) rfl rfl rfl ?_
          refine mr_goto (t := 22) dX8_isWayAround_73 (by decide) ?_
          exact mr_sub [(0, .ref p0), (1, .int p1), (2, .int (p2 ||| (((1 : Int32) <<< (a6 &&& 31)) ||| ((1 : Int32) <<< (a9 &&& 31))))), (3, .int p3), (4, .int (p4 + (1 : Int32)))] ⟨rfl, rfl, rfl, rfl, rfl, trivial⟩ rfl (ih _ _  h11)
def lp_X8_isWayAround_11 (p0 : Nat) (p1 : Int32) (S : fS) (K : Int32 → Option (Int32)) : Nat → Int32 → Int32 → Option (Int32)
  | 0, _, _ => none
  | n + 1, p2, p3 =>
    if (S.1 p0 6) ≤ p3 then (K p2) else
    (lp_X8_isWayAround_22 p0 p1 p3 S (fun u14 => lp_X8_isWayAround_11 p0 p1 S K n u14 (p3 + (1 : Int32))) FU p2 (0 : Int32))
set_option maxHeartbeats 4000000 in
set_option maxRecDepth 100000 in
theorem ok_lp_X8_isWayAround_11 {X : mm_C} {RR : Nat → Nat → Option Nat} (hR : RRok RR) {p0 : Nat} {p1 : Int32} (t0 : tg p0 = 8) {S : fS} {K : Int32 → Option (Int32)} {r : Int32} (hK : ∀ (k2 : Int32), K k2 = some r → mr X 0 mY_X8_isWayAround 82 [(0, .ref p0), (1, .int p1), (2, .int k2)] [] (MM RR S) (some (.int r), MM RR S)) : ∀ (n : Nat) (p2 : Int32) (p3 : Int32), lp_X8_isWayAround_11 p0 p1 S K n p2 p3 = some r → mr X 0 mY_X8_isWayAround 11 [(0, .ref p0), (1, .int p1), (2, .int p2), (3, .int p3)] [] (MM RR S) (some (.int r), MM RR S) := by
  intro n
  induction n with
  | zero => intro p2 p3 h; exact mm_no h
  | succ n ih =>
    intro p2 p3 h
    unfold lp_X8_isWayAround_11 at h
    refine mr_iload_n (pc' := 12) dX8_isWayAround_11 rfl rfl ?_
    refine mr_aload_n (pc' := 13) dX8_isWayAround_12 rfl rfl ?_
    refine mr_getI (pc' := 16) (ci := 8) (j := 6) dX8_isWayAround_13 rfl rfl t0 (by decide) (by decide) rfl ?_
    by_cases c4 : (S.1 p0 6) ≤ p3
    · rw [if_pos c4] at h
      refine mr_icmp_ge_t (t := 82) dX8_isWayAround_16 (by decide) c4 ?_
      exact mr_sub [(0, .ref p0), (1, .int p1), (2, .int p2)] ⟨rfl, rfl, rfl, trivial⟩ rfl (hK _  h)
    · rw [if_neg c4] at h
      refine mr_icmp_ge_f (t := 82) (pc' := 19) dX8_isWayAround_16 (by decide) rfl c4 ?_
      refine mr_iconst (pc' := 20) (v := (0 : Int32)) dX8_isWayAround_19 rfl (by decide) ?_
      refine mr_istore (pc' := 22) (lv' := [(4, .int (0 : Int32)), (0, .ref p0), (1, .int p1), (2, .int p2), (3, .int p3)]) dX8_isWayAround_20 rfl (by decide) rfl ?_
      refine mr_sub [(0, .ref p0), (1, .int p1), (2, .int p2), (3, .int p3), (4, .int (0 : Int32))] ⟨rfl, rfl, rfl, rfl, rfl, trivial⟩ rfl ?_
      refine ok_lp_X8_isWayAround_22 hR t0 (fun u14 h15 => ?_) FU _ _  h
      refine mr_iinc (pc' := 79) (x' := (p3 + (1 : Int32))) (lv' := [(3, .int (p3 + (1 : Int32))), (0, .ref p0), (1, .int p1), (2, .int u14)]) dX8_isWayAround_76 rfl (by decide) rfl rfl rfl ?_
      refine mr_goto (t := 11) dX8_isWayAround_79 (by decide) ?_
      exact mr_sub [(0, .ref p0), (1, .int p1), (2, .int u14), (3, .int (p3 + (1 : Int32)))] ⟨rfl, rfl, rfl, rfl, trivial⟩ rfl (ih _ _  h15)
def f_X8_isWayAround (v0 : Nat) (v1 : Int32) (S : fS) : Option (Int32) :=
  (gI S (v0 + 2) 12 v1).bind fun a1 =>
  lp_X8_isWayAround_11 v0 v1 S (fun u16 => (gI S (v0 + 3) 12 v1).bind fun a18 =>
  if (u16 &&& ((1 : Int32) <<< (a18 &&& 31))) = (0 : Int32) then (some (0 : Int32)) else
  (some (1 : Int32))) FU ((1 : Int32) <<< (a1 &&& 31)) (0 : Int32)
set_option maxHeartbeats 4000000 in
set_option maxRecDepth 100000 in
theorem ok_X8_isWayAround {X : mm_C} {RR : Nat → Nat → Option Nat} (hR : RRok RR) {v0 : Nat} {v1 : Int32} (t0 : tg v0 = 8) {S : fS} {r : Int32} (h : f_X8_isWayAround v0 v1 S = some r) : mr X 0 mY_X8_isWayAround 0 (lv_args 0 [.ref v0, .int v1]) [] (MM RR S) (some (.int r), MM RR S) := by
  unfold f_X8_isWayAround at h
  show mr X _ _ 0 [(0, .ref v0), (1, .int v1)] [] (MM RR S) _
  refine mr_iconst (pc' := 1) (v := (1 : Int32)) dX8_isWayAround_0 rfl (by decide) ?_
  refine mr_aload_n (pc' := 2) dX8_isWayAround_1 rfl rfl ?_
  refine mr_getR (pc' := 5) (ci := 8) (j := 1) (b := (v0 + 2)) hR dX8_isWayAround_2 rfl rfl t0 (by decide) (by decide) (by decide) rfl (ly8_1 t0).1 ?_
  refine mr_iload_n (pc' := 6) dX8_isWayAround_5 rfl rfl ?_
  obtain ⟨a1, g2, h3⟩ := Option.bind_eq_some_iff.mp h
  refine mr_iald (pc' := 7) dX8_isWayAround_6 rfl (ly8_1 t0).2.1 (ly8_1 t0).2.2 g2 ?_
  refine mr_ishl (pc' := 8) dX8_isWayAround_7 rfl ?_
  refine mr_istore_n (pc' := 9) (lv' := [(2, .int ((1 : Int32) <<< (a1 &&& 31))), (0, .ref v0), (1, .int v1)]) dX8_isWayAround_8 rfl (by decide) rfl ?_
  refine mr_iconst (pc' := 10) (v := (0 : Int32)) dX8_isWayAround_9 rfl (by decide) ?_
  refine mr_istore_n (pc' := 11) (lv' := [(3, .int (0 : Int32)), (2, .int ((1 : Int32) <<< (a1 &&& 31))), (0, .ref v0), (1, .int v1)]) dX8_isWayAround_10 rfl (by decide) rfl ?_
  refine mr_sub [(0, .ref v0), (1, .int v1), (2, .int ((1 : Int32) <<< (a1 &&& 31))), (3, .int (0 : Int32))] ⟨rfl, rfl, rfl, rfl, trivial⟩ rfl ?_
  refine ok_lp_X8_isWayAround_11 hR t0 (fun u16 h17 => ?_) FU _ _  h3
  refine mr_iload_n (pc' := 83) dX8_isWayAround_82 rfl rfl ?_
  refine mr_iconst (pc' := 84) (v := (1 : Int32)) dX8_isWayAround_83 rfl (by decide) ?_
  refine mr_aload_n (pc' := 85) dX8_isWayAround_84 rfl rfl ?_
  refine mr_getR (pc' := 88) (ci := 8) (j := 2) (b := (v0 + 3)) hR dX8_isWayAround_85 rfl rfl t0 (by decide) (by decide) (by decide) rfl (ly8_2 t0).1 ?_
  refine mr_iload_n (pc' := 89) dX8_isWayAround_88 rfl rfl ?_
  obtain ⟨a18, g19, h20⟩ := Option.bind_eq_some_iff.mp h17
  refine mr_iald (pc' := 90) dX8_isWayAround_89 rfl (ly8_2 t0).2.1 (ly8_2 t0).2.2 g19 ?_
  refine mr_ishl (pc' := 91) dX8_isWayAround_90 rfl ?_
  refine mr_iand (pc' := 92) dX8_isWayAround_91 rfl ?_
  by_cases c21 : (u16 &&& ((1 : Int32) <<< (a18 &&& 31))) = (0 : Int32)
  · rw [if_pos c21] at h20
    refine mr_if_eq_t (t := 99) dX8_isWayAround_92 (by decide) c21 ?_
    refine mr_iconst (pc' := 100) (v := (0 : Int32)) dX8_isWayAround_99 rfl (by decide) ?_
    obtain rfl := Option.some.inj h20
    exact mr_zreturn dX8_isWayAround_100 rfl (by decide)
  · rw [if_neg c21] at h20
    refine mr_if_eq_f (t := 99) (pc' := 95) dX8_isWayAround_92 (by decide) rfl c21 ?_
    refine mr_iconst (pc' := 96) (v := (1 : Int32)) dX8_isWayAround_95 rfl (by decide) ?_
    refine mr_goto (t := 100) dX8_isWayAround_96 (by decide) ?_
    obtain rfl := Option.some.inj h20
    exact mr_zreturn dX8_isWayAround_100 rfl (by decide)
def lp_X10_needed_4  (S : fS) (K : Int32 → Option (Int32)) : Nat → Int32 → Int32 → Option (Int32)
  | 0, _, _ => none
  | n + 1, p1, p2 =>
    if (S.1 4 7) ≤ p2 then (K p1) else
    ((f_X8_isWayAround 4 p2 S).bind fun q2 =>
    if q2 = (0 : Int32) then (lp_X10_needed_4  S K n (p1 ||| ((1 : Int32) <<< (p2 &&& 31))) (p2 + (1 : Int32))) else
    (lp_X10_needed_4  S K n p1 (p2 + (1 : Int32))))
set_option maxHeartbeats 4000000 in
set_option maxRecDepth 100000 in
theorem ok_lp_X10_needed_4 {X : mm_C} {RR : Nat → Nat → Option Nat} (hR : RRok RR)   {S : fS} {K : Int32 → Option (Int32)} {r : Int32} (hK : ∀ (k1 : Int32), K k1 = some r → mr X 1 mY_X10_needed 44 [(1, .int k1)] [] (MM RR S) (some (.int r), MM RR S)) : ∀ (n : Nat) (p1 : Int32) (p2 : Int32), lp_X10_needed_4  S K n p1 p2 = some r → mr X 1 mY_X10_needed 4 [(0, .ref 0), (1, .int p1), (2, .int p2)] [] (MM RR S) (some (.int r), MM RR S) := by
  intro n
  induction n with
  | zero => intro p1 p2 h; exact mm_no h
  | succ n ih =>
    intro p1 p2 h
    unfold lp_X10_needed_4 at h
    refine mr_iload_n (pc' := 5) dX10_needed_4 rfl rfl ?_
    refine mr_aload_n (pc' := 6) dX10_needed_5 rfl rfl ?_
    refine mr_getR (pc' := 9) (ci := 10) (j := 1) (b := 3) hR dX10_needed_6 rfl rfl rfl (by decide) (by decide) (by decide) rfl rfl ?_
    refine mr_getR (pc' := 12) (ci := 6) (j := 0) (b := 4) hR dX10_needed_9 rfl rfl rfl (by decide) (by decide) (by decide) rfl rfl ?_
    refine mr_getI (pc' := 15) (ci := 8) (j := 7) dX10_needed_12 rfl rfl rfl (by decide) (by decide) rfl ?_
    by_cases c1 : (S.1 4 7) ≤ p2
    · rw [if_pos c1] at h
      refine mr_icmp_ge_t (t := 44) dX10_needed_15 (by decide) c1 ?_
      exact mr_sub [(1, .int p1)] ⟨rfl, trivial⟩ rfl (hK _  h)
    · rw [if_neg c1] at h
      refine mr_icmp_ge_f (t := 44) (pc' := 18) dX10_needed_15 (by decide) rfl c1 ?_
      refine mr_aload_n (pc' := 19) dX10_needed_18 rfl rfl ?_
      refine mr_getR (pc' := 22) (ci := 10) (j := 1) (b := 3) hR dX10_needed_19 rfl rfl rfl (by decide) (by decide) (by decide) rfl rfl ?_
      refine mr_getR (pc' := 25) (ci := 6) (j := 0) (b := 4) hR dX10_needed_22 rfl rfl rfl (by decide) (by decide) (by decide) rfl rfl ?_
      refine mr_iload_n (pc' := 26) dX10_needed_25 rfl rfl ?_
      obtain ⟨q2, g3, h4⟩ := Option.bind_eq_some_iff.mp h
      refine mr_cv (pc' := 29) (a := 4) (d1 := 0) dX10_needed_26 rfl rfl rfl rfl rfl rfl (by decide) rfl (by decide) (ok_X8_isWayAround hR rfl g3) ?_
      show mr X _ _ 29 _ [.int q2] (MM RR S) _
      by_cases c5 : q2 = (0 : Int32)
      · rw [if_pos c5] at h4
        refine mr_if_ne_f (t := 38) (pc' := 32) dX10_needed_29 (by decide) rfl (not_not_intro c5) ?_
        refine mr_iload_n (pc' := 33) dX10_needed_32 rfl rfl ?_
        refine mr_iconst (pc' := 34) (v := (1 : Int32)) dX10_needed_33 rfl (by decide) ?_
        refine mr_iload_n (pc' := 35) dX10_needed_34 rfl rfl ?_
        refine mr_ishl (pc' := 36) dX10_needed_35 rfl ?_
        refine mr_ior (pc' := 37) dX10_needed_36 rfl ?_
        refine mr_istore_n (pc' := 38) (lv' := [(1, .int (p1 ||| ((1 : Int32) <<< (p2 &&& 31)))), (0, .ref 0), (2, .int p2)]) dX10_needed_37 rfl (by decide) rfl ?_
        refine mr_iinc (pc' := 41) (x' := (p2 + (1 : Int32))) (lv' := [(2, .int (p2 + (1 : Int32))), (1, .int (p1 ||| ((1 : Int32) <<< (p2 &&& 31)))), (0, .ref 0)]) dX10_needed_38 rfl (by decide) rfl rfl rfl ?_
        refine mr_goto (t := 4) dX10_needed_41 (by decide) ?_
        exact mr_sub [(0, .ref 0), (1, .int (p1 ||| ((1 : Int32) <<< (p2 &&& 31)))), (2, .int (p2 + (1 : Int32)))] ⟨rfl, rfl, rfl, trivial⟩ rfl (ih _ _  h4)
      · rw [if_neg c5] at h4
        refine mr_if_ne_t (t := 38) dX10_needed_29 (by decide) c5 ?_
        refine mr_iinc (pc' := 41) (x' := (p2 + (1 : Int32))) (lv' := [(2, .int (p2 + (1 : Int32))), (0, .ref 0), (1, .int p1)]) dX10_needed_38 rfl (by decide) rfl rfl rfl ?_
        refine mr_goto (t := 4) dX10_needed_41 (by decide) ?_
        exact mr_sub [(0, .ref 0), (1, .int p1), (2, .int (p2 + (1 : Int32)))] ⟨rfl, rfl, rfl, trivial⟩ rfl (ih _ _  h4)
def f_X10_needed  (S : fS) : Option (Int32) :=
  lp_X10_needed_4  S (fun u6 => some u6) FU (0 : Int32) (0 : Int32)
set_option maxHeartbeats 4000000 in
set_option maxRecDepth 100000 in
theorem ok_X10_needed {X : mm_C} {RR : Nat → Nat → Option Nat} (hR : RRok RR)   {S : fS} {r : Int32} (h : f_X10_needed  S = some r) : mr X 1 mY_X10_needed 0 (lv_args 0 [.ref 0]) [] (MM RR S) (some (.int r), MM RR S) := by
  unfold f_X10_needed at h
  show mr X _ _ 0 [(0, .ref 0)] [] (MM RR S) _
  refine mr_iconst (pc' := 1) (v := (0 : Int32)) dX10_needed_0 rfl (by decide) ?_
  refine mr_istore_n (pc' := 2) (lv' := [(1, .int (0 : Int32)), (0, .ref 0)]) dX10_needed_1 rfl (by decide) rfl ?_
  refine mr_iconst (pc' := 3) (v := (0 : Int32)) dX10_needed_2 rfl (by decide) ?_
  refine mr_istore_n (pc' := 4) (lv' := [(2, .int (0 : Int32)), (1, .int (0 : Int32)), (0, .ref 0)]) dX10_needed_3 rfl (by decide) rfl ?_
  refine mr_sub [(0, .ref 0), (1, .int (0 : Int32)), (2, .int (0 : Int32))] ⟨rfl, rfl, rfl, trivial⟩ rfl ?_
  refine ok_lp_X10_needed_4 hR  (fun u6 h7 => ?_) FU _ _  h
  refine mr_iload_n (pc' := 45) dX10_needed_44 rfl rfl ?_
  obtain rfl := Option.some.inj h7
  exact mr_ireturn dX10_needed_45 rfl
def f_X10_elder (v1 : Int32) (v2 : Int32) (v3 : Int32) (S : fS) : Option (Int64 × fS) :=
  (f_X10_isRuleOrNone v1 S).bind fun q1 =>
  if q1 = (0 : Int32) then (some ((-1 : Int64), S)) else
  ((f_X10_isFrom v2 (0 : Int32) (200 : Int32) S).bind fun q5 =>
  if q5 = (0 : Int32) then (some ((-1 : Int64), S)) else
  (if (S.1 11 5) = (0 : Int32) then (some ((-1 : Int64), S)) else
  ((f_X10_isFrom v3 (0 : Int32) (3 : Int32) S).bind fun q10 =>
  if q10 = (0 : Int32) then (some ((-1 : Int64), S)) else
  ((f_X10_lookAhead v1 v2 S).bind fun q14 =>
  (f_X0_eldest 31 q14).bind fun q17 =>
  (f_X0_youngest 31 q14).bind fun q20 =>
  if (2 : Int32) ≤ v3 then ((gL q14 36 8 q17).bind fun a24 =>
  (gL q14 36 8 q20).bind fun a27 =>
  (f_X10_lowest (a24 - a27) (232792560 : Int64) (v3 - (2 : Int32)) q14).bind fun q30 =>
  some (q30, q14)) else
  (if v3 = (0 : Int32) then (some ((Int32.toInt64 q17), q14)) else
  (some ((Int32.toInt64 q20), q14)))))))
set_option maxHeartbeats 4000000 in
set_option maxRecDepth 100000 in
theorem ok_X10_elder {X : mm_C} {RR : Nat → Nat → Option Nat} (hR : RRok RR) {v1 : Int32} {v2 : Int32} {v3 : Int32}  {S : fS} {r : Int64 × fS} (h : f_X10_elder v1 v2 v3 S = some r) : mr X 6 mY_X10_elder 0 (lv_args 0 [.ref 0, .int v1, .int v2, .int v3]) [] (MM RR S) (some (.long r.1), MM RR r.2) := by
  unfold f_X10_elder at h
  show mr X _ _ 0 [(0, .ref 0), (1, .int v1), (2, .int v2), (3, .int v3)] [] (MM RR S) _
  refine mr_aload_n (pc' := 1) dX10_elder_0 rfl rfl ?_
  refine mr_iload_n (pc' := 2) dX10_elder_1 rfl rfl ?_
  obtain ⟨q1, g2, h3⟩ := Option.bind_eq_some_iff.mp h
  refine mr_cv (pc' := 5) (a := 0) (d1 := 1) dX10_elder_2 rfl rfl rfl rfl rfl rfl (by decide) rfl (by decide) (ok_X10_isRuleOrNone hR  g2) ?_
  show mr X _ _ 5 _ [.int q1] (MM RR S) _
  by_cases c4 : q1 = (0 : Int32)
  · rw [if_pos c4] at h3
    refine mr_if_eq_t (t := 19) dX10_elder_5 (by decide) c4 ?_
    refine mr_ldc2 (pc' := 22) (v := (-1 : Int64)) dX10_elder_19 rfl rfl ?_
    obtain rfl := Option.some.inj h3
    exact mr_lreturn dX10_elder_22 rfl
  · rw [if_neg c4] at h3
    refine mr_if_eq_f (t := 19) (pc' := 8) dX10_elder_5 (by decide) rfl c4 ?_
    refine mr_iload_n (pc' := 9) dX10_elder_8 rfl rfl ?_
    refine mr_iconst (pc' := 10) (v := (0 : Int32)) dX10_elder_9 rfl (by decide) ?_
    refine mr_sipush (pc' := 13) (v := (200 : Int32)) dX10_elder_10 rfl (by decide) ?_
    obtain ⟨q5, g6, h7⟩ := Option.bind_eq_some_iff.mp h3
    refine mr_cs (pc' := 16) (d1 := 0) dX10_elder_13 rfl rfl rfl rfl (by decide) (Nat.le_of_ble_eq_true rfl) rfl rfl rfl (by decide) (ok_X10_isFrom hR  g6) ?_
    show mr X _ _ 16 _ [.int q5] (MM RR S) _
    by_cases c8 : q5 = (0 : Int32)
    · rw [if_pos c8] at h7
      refine mr_if_ne_f (t := 23) (pc' := 19) dX10_elder_16 (by decide) rfl (not_not_intro c8) ?_
      refine mr_ldc2 (pc' := 22) (v := (-1 : Int64)) dX10_elder_19 rfl rfl ?_
      obtain rfl := Option.some.inj h7
      exact mr_lreturn dX10_elder_22 rfl
    · rw [if_neg c8] at h7
      refine mr_if_ne_t (t := 23) dX10_elder_16 (by decide) c8 ?_
      refine mr_aload_n (pc' := 24) dX10_elder_23 rfl rfl ?_
      refine mr_getR (pc' := 27) (ci := 10) (j := 1) (b := 3) hR dX10_elder_24 rfl rfl rfl (by decide) (by decide) (by decide) rfl rfl ?_
      refine mr_getR (pc' := 30) (ci := 6) (j := 1) (b := 11) hR dX10_elder_27 rfl rfl rfl (by decide) (by decide) (by decide) rfl rfl ?_
      refine mr_getI (pc' := 33) (ci := 0) (j := 5) dX10_elder_30 rfl rfl rfl (by decide) (by decide) rfl ?_
      by_cases c9 : (S.1 11 5) = (0 : Int32)
      · rw [if_pos c9] at h7
        refine mr_if_eq_t (t := 45) dX10_elder_33 (by decide) c9 ?_
        refine mr_ldc2 (pc' := 48) (v := (-1 : Int64)) dX10_elder_45 rfl rfl ?_
        obtain rfl := Option.some.inj h7
        exact mr_lreturn dX10_elder_48 rfl
      · rw [if_neg c9] at h7
        refine mr_if_eq_f (t := 45) (pc' := 36) dX10_elder_33 (by decide) rfl c9 ?_
        refine mr_iload_n (pc' := 37) dX10_elder_36 rfl rfl ?_
        refine mr_iconst (pc' := 38) (v := (0 : Int32)) dX10_elder_37 rfl (by decide) ?_
        refine mr_iconst (pc' := 39) (v := (3 : Int32)) dX10_elder_38 rfl (by decide) ?_
        obtain ⟨q10, g11, h12⟩ := Option.bind_eq_some_iff.mp h7
        refine mr_cs (pc' := 42) (d1 := 0) dX10_elder_39 rfl rfl rfl rfl (by decide) (Nat.le_of_ble_eq_true rfl) rfl rfl rfl (by decide) (ok_X10_isFrom hR  g11) ?_
        show mr X _ _ 42 _ [.int q10] (MM RR S) _
        by_cases c13 : q10 = (0 : Int32)
        · rw [if_pos c13] at h12
          refine mr_if_ne_f (t := 49) (pc' := 45) dX10_elder_42 (by decide) rfl (not_not_intro c13) ?_
          refine mr_ldc2 (pc' := 48) (v := (-1 : Int64)) dX10_elder_45 rfl rfl ?_
          obtain rfl := Option.some.inj h12
          exact mr_lreturn dX10_elder_48 rfl
        · rw [if_neg c13] at h12
          refine mr_if_ne_t (t := 49) dX10_elder_42 (by decide) c13 ?_
          refine mr_aload_n (pc' := 50) dX10_elder_49 rfl rfl ?_
          refine mr_iload_n (pc' := 51) dX10_elder_50 rfl rfl ?_
          refine mr_iload_n (pc' := 52) dX10_elder_51 rfl rfl ?_
          obtain ⟨q14, g15, h16⟩ := Option.bind_eq_some_iff.mp h12
          refine mr_cv (pc' := 55) (a := 0) (d1 := 5) dX10_elder_52 rfl rfl rfl rfl rfl rfl (by decide) rfl (by decide) (ok_X10_lookAhead hR  g15) ?_
          show mr X _ _ 55 _ [] (MM RR q14) _
          refine mr_aload_n (pc' := 56) dX10_elder_55 rfl rfl ?_
          refine mr_getR (pc' := 59) (ci := 10) (j := 5) (b := 31) hR dX10_elder_56 rfl rfl rfl (by decide) (by decide) (by decide) rfl rfl ?_
          obtain ⟨q17, g18, h19⟩ := Option.bind_eq_some_iff.mp h16
          refine mr_cv (pc' := 62) (a := 31) (d1 := 0) dX10_elder_59 rfl rfl rfl rfl rfl rfl (by decide) rfl (by decide) (ok_X0_eldest hR rfl g18) ?_
          show mr X _ _ 62 _ [.int q17] (MM RR q14) _
          refine mr_istore (pc' := 64) (lv' := [(4, .int q17), (0, .ref 0), (1, .int v1), (2, .int v2), (3, .int v3)]) dX10_elder_62 rfl (by decide) rfl ?_
          refine mr_aload_n (pc' := 65) dX10_elder_64 rfl rfl ?_
          refine mr_getR (pc' := 68) (ci := 10) (j := 5) (b := 31) hR dX10_elder_65 rfl rfl rfl (by decide) (by decide) (by decide) rfl rfl ?_
          obtain ⟨q20, g21, h22⟩ := Option.bind_eq_some_iff.mp h19
          refine mr_cv (pc' := 71) (a := 31) (d1 := 0) dX10_elder_68 rfl rfl rfl rfl rfl rfl (by decide) rfl (by decide) (ok_X0_youngest hR rfl g21) ?_
          show mr X _ _ 71 _ [.int q20] (MM RR q14) _
          refine mr_istore (pc' := 73) (lv' := [(5, .int q20), (4, .int q17), (0, .ref 0), (1, .int v1), (2, .int v2), (3, .int v3)]) dX10_elder_71 rfl (by decide) rfl ?_
          refine mr_iload_n (pc' := 74) dX10_elder_73 rfl rfl ?_
          refine mr_iconst (pc' := 75) (v := (2 : Int32)) dX10_elder_74 rfl (by decide) ?_
          by_cases c23 : (2 : Int32) ≤ v3
          · rw [if_pos c23] at h22
            refine mr_icmp_ge_t (t := 92) dX10_elder_75 (by decide) c23 ?_
            refine mr_aload_n (pc' := 93) dX10_elder_92 rfl rfl ?_
            refine mr_getR (pc' := 96) (ci := 10) (j := 5) (b := 31) hR dX10_elder_93 rfl rfl rfl (by decide) (by decide) (by decide) rfl rfl ?_
            refine mr_getR (pc' := 99) (ci := 0) (j := 4) (b := 36) hR dX10_elder_96 rfl rfl rfl (by decide) (by decide) (by decide) rfl rfl ?_
            refine mr_iload (pc' := 101) dX10_elder_99 rfl rfl ?_
            obtain ⟨a24, g25, h26⟩ := Option.bind_eq_some_iff.mp h22
            refine mr_lald (pc' := 102) dX10_elder_101 rfl rfl rfl g25 ?_
            refine mr_aload_n (pc' := 103) dX10_elder_102 rfl rfl ?_
            refine mr_getR (pc' := 106) (ci := 10) (j := 5) (b := 31) hR dX10_elder_103 rfl rfl rfl (by decide) (by decide) (by decide) rfl rfl ?_
            refine mr_getR (pc' := 109) (ci := 0) (j := 4) (b := 36) hR dX10_elder_106 rfl rfl rfl (by decide) (by decide) (by decide) rfl rfl ?_
            refine mr_iload (pc' := 111) dX10_elder_109 rfl rfl ?_
            obtain ⟨a27, g28, h29⟩ := Option.bind_eq_some_iff.mp h26
            refine mr_lald (pc' := 112) dX10_elder_111 rfl rfl rfl g28 ?_
            refine mr_lsub (pc' := 113) dX10_elder_112 rfl ?_
            refine mr_ldc2 (pc' := 116) (v := (232792560 : Int64)) dX10_elder_113 rfl rfl ?_
            refine mr_iload_n (pc' := 117) dX10_elder_116 rfl rfl ?_
            refine mr_iconst (pc' := 118) (v := (2 : Int32)) dX10_elder_117 rfl (by decide) ?_
            refine mr_isub (pc' := 119) dX10_elder_118 rfl ?_
            obtain ⟨q30, g31, h32⟩ := Option.bind_eq_some_iff.mp h29
            refine mr_cs (pc' := 122) (d1 := 2) dX10_elder_119 rfl rfl rfl rfl (by decide) (Nat.le_of_ble_eq_true rfl) rfl rfl rfl (by decide) (ok_X10_lowest hR  g31) ?_
            show mr X _ _ 122 _ [.long q30] (MM RR q14) _
            obtain rfl := Option.some.inj h32
            exact mr_lreturn dX10_elder_122 rfl
          · rw [if_neg c23] at h22
            refine mr_icmp_ge_f (t := 92) (pc' := 78) dX10_elder_75 (by decide) rfl c23 ?_
            refine mr_iload_n (pc' := 79) dX10_elder_78 rfl rfl ?_
            by_cases c33 : v3 = (0 : Int32)
            · rw [if_pos c33] at h22
              refine mr_if_ne_f (t := 88) (pc' := 82) dX10_elder_79 (by decide) rfl (not_not_intro c33) ?_
              refine mr_iload (pc' := 84) dX10_elder_82 rfl rfl ?_
              refine mr_i2l (pc' := 85) dX10_elder_84 rfl ?_
              refine mr_goto (t := 91) dX10_elder_85 (by decide) ?_
              obtain rfl := Option.some.inj h22
              exact mr_lreturn dX10_elder_91 rfl
            · rw [if_neg c33] at h22
              refine mr_if_ne_t (t := 88) dX10_elder_79 (by decide) c33 ?_
              refine mr_iload (pc' := 90) dX10_elder_88 rfl rfl ?_
              refine mr_i2l (pc' := 91) dX10_elder_90 rfl ?_
              obtain rfl := Option.some.inj h22
              exact mr_lreturn dX10_elder_91 rfl
def f_X2_send (v0 : Nat) (v1 : Int32) (v2 : Int32) (v3 : Int32) (v4 : Int32) (S : fS) : Option (fS) :=
  if (12 : Int32) ≤ (S.1 v0 4) then (some S) else
  ((sI S (v0 + 1) 12 (S.1 v0 4) v1).bind fun S2 =>
  (sI S2 (v0 + 2) 12 (S2.1 v0 4) v2).bind fun S5 =>
  (sI S5 (v0 + 3) 12 (S5.1 v0 4) v3).bind fun S8 =>
  (sI S8 (v0 + 4) 12 (S8.1 v0 4) v4).bind fun S11 =>
  (some (pI S11 v0 4 ((S11.1 v0 4) + (1 : Int32)))).bind fun S14 =>
  some S14)
set_option maxHeartbeats 4000000 in
set_option maxRecDepth 100000 in
theorem ok_X2_send {X : mm_C} {RR : Nat → Nat → Option Nat} (hR : RRok RR) {v0 : Nat} {v1 : Int32} {v2 : Int32} {v3 : Int32} {v4 : Int32} (t0 : tg v0 = 2) {S : fS} {r : fS} (h : f_X2_send v0 v1 v2 v3 v4 S = some r) : mr X 0 mY_X2_send 0 (lv_args 0 [.ref v0, .int v1, .int v2, .int v3, .int v4]) [] (MM RR S) (none, MM RR r) := by
  unfold f_X2_send at h
  show mr X _ _ 0 [(0, .ref v0), (1, .int v1), (2, .int v2), (3, .int v3), (4, .int v4)] [] (MM RR S) _
  refine mr_aload_n (pc' := 1) dX2_send_0 rfl rfl ?_
  refine mr_getI (pc' := 4) (ci := 2) (j := 4) dX2_send_1 rfl rfl t0 (by decide) (by decide) rfl ?_
  refine mr_bipush (pc' := 6) (v := (12 : Int32)) dX2_send_4 rfl (by decide) ?_
  by_cases c1 : (12 : Int32) ≤ (S.1 v0 4)
  · rw [if_pos c1] at h
    refine mr_icmp_ge_t (t := 60) dX2_send_6 (by decide) c1 ?_
    obtain rfl := Option.some.inj h
    exact mr_return dX2_send_60 rfl
  · rw [if_neg c1] at h
    refine mr_icmp_ge_f (t := 60) (pc' := 9) dX2_send_6 (by decide) rfl c1 ?_
    refine mr_aload_n (pc' := 10) dX2_send_9 rfl rfl ?_
    refine mr_getR (pc' := 13) (ci := 2) (j := 0) (b := (v0 + 1)) hR dX2_send_10 rfl rfl t0 (by decide) (by decide) (by decide) rfl (ly2_0 t0).1 ?_
    refine mr_aload_n (pc' := 14) dX2_send_13 rfl rfl ?_
    refine mr_getI (pc' := 17) (ci := 2) (j := 4) dX2_send_14 rfl rfl t0 (by decide) (by decide) rfl ?_
    refine mr_iload_n (pc' := 18) dX2_send_17 rfl rfl ?_
    obtain ⟨S2, g3, h4⟩ := Option.bind_eq_some_iff.mp h
    refine mr_iast (pc' := 19) dX2_send_18 rfl (ly2_0 t0).2.1 (ly2_0 t0).2.2 g3 ?_
    refine mr_aload_n (pc' := 20) dX2_send_19 rfl rfl ?_
    refine mr_getR (pc' := 23) (ci := 2) (j := 1) (b := (v0 + 2)) hR dX2_send_20 rfl rfl t0 (by decide) (by decide) (by decide) rfl (ly2_1 t0).1 ?_
    refine mr_aload_n (pc' := 24) dX2_send_23 rfl rfl ?_
    refine mr_getI (pc' := 27) (ci := 2) (j := 4) dX2_send_24 rfl rfl t0 (by decide) (by decide) rfl ?_
    refine mr_iload_n (pc' := 28) dX2_send_27 rfl rfl ?_
    obtain ⟨S5, g6, h7⟩ := Option.bind_eq_some_iff.mp h4
    refine mr_iast (pc' := 29) dX2_send_28 rfl (ly2_1 t0).2.1 (ly2_1 t0).2.2 g6 ?_
    refine mr_aload_n (pc' := 30) dX2_send_29 rfl rfl ?_
    refine mr_getR (pc' := 33) (ci := 2) (j := 2) (b := (v0 + 3)) hR dX2_send_30 rfl rfl t0 (by decide) (by decide) (by decide) rfl (ly2_2 t0).1 ?_
    refine mr_aload_n (pc' := 34) dX2_send_33 rfl rfl ?_
    refine mr_getI (pc' := 37) (ci := 2) (j := 4) dX2_send_34 rfl rfl t0 (by decide) (by decide) rfl ?_
    refine mr_iload_n (pc' := 38) dX2_send_37 rfl rfl ?_
    obtain ⟨S8, g9, h10⟩ := Option.bind_eq_some_iff.mp h7
    refine mr_iast (pc' := 39) dX2_send_38 rfl (ly2_2 t0).2.1 (ly2_2 t0).2.2 g9 ?_
    refine mr_aload_n (pc' := 40) dX2_send_39 rfl rfl ?_
    refine mr_getR (pc' := 43) (ci := 2) (j := 3) (b := (v0 + 4)) hR dX2_send_40 rfl rfl t0 (by decide) (by decide) (by decide) rfl (ly2_3 t0).1 ?_
    refine mr_aload_n (pc' := 44) dX2_send_43 rfl rfl ?_
    refine mr_getI (pc' := 47) (ci := 2) (j := 4) dX2_send_44 rfl rfl t0 (by decide) (by decide) rfl ?_
    refine mr_iload (pc' := 49) dX2_send_47 rfl rfl ?_
    obtain ⟨S11, g12, h13⟩ := Option.bind_eq_some_iff.mp h10
    refine mr_iast (pc' := 50) dX2_send_49 rfl (ly2_3 t0).2.1 (ly2_3 t0).2.2 g12 ?_
    refine mr_aload_n (pc' := 51) dX2_send_50 rfl rfl ?_
    refine mr_dup_ref (pc' := 52) dX2_send_51 rfl ?_
    refine mr_getI (pc' := 55) (ci := 2) (j := 4) dX2_send_52 rfl rfl t0 (by decide) (by decide) rfl ?_
    refine mr_iconst (pc' := 56) (v := (1 : Int32)) dX2_send_55 rfl (by decide) ?_
    refine mr_iadd (pc' := 57) dX2_send_56 rfl ?_
    obtain ⟨S14, g15, h16⟩ := Option.bind_eq_some_iff.mp h13
    refine mr_putI (pc' := 60) (ci := 2) (j := 4) dX2_send_57 rfl rfl t0 (by decide) (by decide) rfl rfl ?_
    rw [Option.some.inj g15]
    obtain rfl := Option.some.inj h16
    exact mr_return dX2_send_60 rfl
