def f_X10_isPart (v0 : Int32) (S : fS) : Option (Int32) :=
  (f_X10_isFrom v0 (0 : Int32) (1 : Int32) S).bind fun q1 =>
  (bZ q1).bind fun z4 => some z4
set_option maxHeartbeats 4000000 in
set_option maxRecDepth 100000 in
theorem ok_X10_isPart {X : mm_C} {RR : Nat → Nat → Option Nat} (hR : RRok RR) {v0 : Int32}  {S : fS} {r : Int32} (h : f_X10_isPart v0 S = some r) : mr X 1 mY_X10_isPart 0 (lv_args 0 [.int v0]) [] (MM RR S) (some (.int r), MM RR S) := by
  unfold f_X10_isPart at h
  show mr X _ _ 0 [(0, .int v0)] [] (MM RR S) _
  refine mr_iload_n (pc' := 1) dX10_isPart_0 rfl rfl ?_
  refine mr_iconst (pc' := 2) (v := (0 : Int32)) dX10_isPart_1 rfl (by decide) ?_
  refine mr_iconst (pc' := 3) (v := (1 : Int32)) dX10_isPart_2 rfl (by decide) ?_
  obtain ⟨q1, g2, h3⟩ := Option.bind_eq_some_iff.mp h
  refine mr_cs (pc' := 6) (d1 := 0) dX10_isPart_3 rfl rfl rfl rfl (by decide) (Nat.le_of_ble_eq_true rfl) rfl rfl rfl (by decide) (ok_X10_isFrom hR  g2) ?_
  show mr X _ _ 6 _ [.int q1] (MM RR S) _
  obtain ⟨z4, g5, h6⟩ := Option.bind_eq_some_iff.mp h3
  obtain ⟨g7, e8⟩ := mm_ifs g5
  cases e8
  cases h6
  exact mr_zreturn dX10_isPart_6 rfl g7
def f_X10_age (v1 : Int32) (v2 : Int32) (S : fS) : Option (Int64) :=
  (f_X10_isThing v1 S).bind fun q1 =>
  if q1 = (0 : Int32) then (some (-1 : Int64)) else
  ((f_X10_isPart v2 S).bind fun q5 =>
  if q5 = (0 : Int32) then (some (-1 : Int64)) else
  ((gL S 16 8 v1).bind fun a9 =>
  (f_X10_lowest a9 (232792560 : Int64) v2 S).bind fun q12 =>
  some q12))
set_option maxHeartbeats 4000000 in
set_option maxRecDepth 100000 in
theorem ok_X10_age {X : mm_C} {RR : Nat → Nat → Option Nat} (hR : RRok RR) {v1 : Int32} {v2 : Int32}  {S : fS} {r : Int64} (h : f_X10_age v1 v2 S = some r) : mr X 3 mY_X10_age 0 (lv_args 0 [.ref 0, .int v1, .int v2]) [] (MM RR S) (some (.long r), MM RR S) := by
  unfold f_X10_age at h
  show mr X _ _ 0 [(0, .ref 0), (1, .int v1), (2, .int v2)] [] (MM RR S) _
  refine mr_aload_n (pc' := 1) dX10_age_0 rfl rfl ?_
  refine mr_iload_n (pc' := 2) dX10_age_1 rfl rfl ?_
  obtain ⟨q1, g2, h3⟩ := Option.bind_eq_some_iff.mp h
  refine mr_cv (pc' := 5) (a := 0) (d1 := 1) dX10_age_2 rfl rfl rfl rfl rfl rfl (by decide) rfl (by decide) (ok_X10_isThing hR  g2) ?_
  show mr X _ _ 5 _ [.int q1] (MM RR S) _
  by_cases c4 : q1 = (0 : Int32)
  · rw [if_pos c4] at h3
    refine mr_if_eq_t (t := 15) dX10_age_5 (by decide) c4 ?_
    refine mr_ldc2 (pc' := 18) (v := (-1 : Int64)) dX10_age_15 rfl rfl ?_
    obtain rfl := Option.some.inj h3
    exact mr_lreturn dX10_age_18 rfl
  · rw [if_neg c4] at h3
    refine mr_if_eq_f (t := 15) (pc' := 8) dX10_age_5 (by decide) rfl c4 ?_
    refine mr_iload_n (pc' := 9) dX10_age_8 rfl rfl ?_
    obtain ⟨q5, g6, h7⟩ := Option.bind_eq_some_iff.mp h3
    refine mr_cs (pc' := 12) (d1 := 1) dX10_age_9 rfl rfl rfl rfl (by decide) (Nat.le_of_ble_eq_true rfl) rfl rfl rfl (by decide) (ok_X10_isPart hR  g6) ?_
    show mr X _ _ 12 _ [.int q5] (MM RR S) _
    by_cases c8 : q5 = (0 : Int32)
    · rw [if_pos c8] at h7
      refine mr_if_ne_f (t := 19) (pc' := 15) dX10_age_12 (by decide) rfl (not_not_intro c8) ?_
      refine mr_ldc2 (pc' := 18) (v := (-1 : Int64)) dX10_age_15 rfl rfl ?_
      obtain rfl := Option.some.inj h7
      exact mr_lreturn dX10_age_18 rfl
    · rw [if_neg c8] at h7
      refine mr_if_ne_t (t := 19) dX10_age_12 (by decide) c8 ?_
      refine mr_aload_n (pc' := 20) dX10_age_19 rfl rfl ?_
      refine mr_getR (pc' := 23) (ci := 10) (j := 1) (b := 3) hR dX10_age_20 rfl rfl rfl (by decide) (by decide) (by decide) rfl rfl ?_
      refine mr_getR (pc' := 26) (ci := 6) (j := 1) (b := 11) hR dX10_age_23 rfl rfl rfl (by decide) (by decide) (by decide) rfl rfl ?_
      refine mr_getR (pc' := 29) (ci := 0) (j := 4) (b := 16) hR dX10_age_26 rfl rfl rfl (by decide) (by decide) (by decide) rfl rfl ?_
      refine mr_iload_n (pc' := 30) dX10_age_29 rfl rfl ?_
      obtain ⟨a9, g10, h11⟩ := Option.bind_eq_some_iff.mp h7
      refine mr_lald (pc' := 31) dX10_age_30 rfl rfl rfl g10 ?_
      refine mr_ldc2 (pc' := 34) (v := (232792560 : Int64)) dX10_age_31 rfl rfl ?_
      refine mr_iload_n (pc' := 35) dX10_age_34 rfl rfl ?_
      obtain ⟨q12, g13, h14⟩ := Option.bind_eq_some_iff.mp h11
      refine mr_cs (pc' := 38) (d1 := 2) dX10_age_35 rfl rfl rfl rfl (by decide) (Nat.le_of_ble_eq_true rfl) rfl rfl rfl (by decide) (ok_X10_lowest hR  g13) ?_
      show mr X _ _ 38 _ [.long q12] (MM RR S) _
      obtain rfl := Option.some.inj h14
      exact mr_lreturn dX10_age_38 rfl
def f_X10_older (v1 : Int32) (v2 : Int32) (S : fS) : Option (Int32) :=
  (f_X10_isThing v1 S).bind fun q1 =>
  if q1 = (0 : Int32) then (some (-2 : Int32)) else
  ((f_X10_isThing v2 S).bind fun q5 =>
  if q5 = (0 : Int32) then (some (-2 : Int32)) else
  ((gL S 16 8 v1).bind fun a9 =>
  (gL S 16 8 v2).bind fun a12 =>
  if (a9 - a12) = (0 : Int64) then (some (0 : Int32)) else
  (if (a9 - a12) ≤ (0 : Int64) then (some (-1 : Int32)) else
  (some (1 : Int32)))))
set_option maxHeartbeats 4000000 in
set_option maxRecDepth 100000 in
theorem ok_X10_older {X : mm_C} {RR : Nat → Nat → Option Nat} (hR : RRok RR) {v1 : Int32} {v2 : Int32}  {S : fS} {r : Int32} (h : f_X10_older v1 v2 S = some r) : mr X 2 mY_X10_older 0 (lv_args 0 [.ref 0, .int v1, .int v2]) [] (MM RR S) (some (.int r), MM RR S) := by
  unfold f_X10_older at h
  show mr X _ _ 0 [(0, .ref 0), (1, .int v1), (2, .int v2)] [] (MM RR S) _
  refine mr_aload_n (pc' := 1) dX10_older_0 rfl rfl ?_
  refine mr_iload_n (pc' := 2) dX10_older_1 rfl rfl ?_
  obtain ⟨q1, g2, h3⟩ := Option.bind_eq_some_iff.mp h
  refine mr_cv (pc' := 5) (a := 0) (d1 := 1) dX10_older_2 rfl rfl rfl rfl rfl rfl (by decide) rfl (by decide) (ok_X10_isThing hR  g2) ?_
  show mr X _ _ 5 _ [.int q1] (MM RR S) _
  by_cases c4 : q1 = (0 : Int32)
  · rw [if_pos c4] at h3
    refine mr_if_eq_t (t := 16) dX10_older_5 (by decide) c4 ?_
    refine mr_bipush (pc' := 18) (v := (-2 : Int32)) dX10_older_16 rfl (by decide) ?_
    obtain rfl := Option.some.inj h3
    exact mr_ireturn dX10_older_18 rfl
  · rw [if_neg c4] at h3
    refine mr_if_eq_f (t := 16) (pc' := 8) dX10_older_5 (by decide) rfl c4 ?_
    refine mr_aload_n (pc' := 9) dX10_older_8 rfl rfl ?_
    refine mr_iload_n (pc' := 10) dX10_older_9 rfl rfl ?_
    obtain ⟨q5, g6, h7⟩ := Option.bind_eq_some_iff.mp h3
    refine mr_cv (pc' := 13) (a := 0) (d1 := 1) dX10_older_10 rfl rfl rfl rfl rfl rfl (by decide) rfl (by decide) (ok_X10_isThing hR  g6) ?_
    show mr X _ _ 13 _ [.int q5] (MM RR S) _
    by_cases c8 : q5 = (0 : Int32)
    · rw [if_pos c8] at h7
      refine mr_if_ne_f (t := 19) (pc' := 16) dX10_older_13 (by decide) rfl (not_not_intro c8) ?_
      refine mr_bipush (pc' := 18) (v := (-2 : Int32)) dX10_older_16 rfl (by decide) ?_
      obtain rfl := Option.some.inj h7
      exact mr_ireturn dX10_older_18 rfl
    · rw [if_neg c8] at h7
      refine mr_if_ne_t (t := 19) dX10_older_13 (by decide) c8 ?_
      refine mr_aload_n (pc' := 20) dX10_older_19 rfl rfl ?_
      refine mr_getR (pc' := 23) (ci := 10) (j := 1) (b := 3) hR dX10_older_20 rfl rfl rfl (by decide) (by decide) (by decide) rfl rfl ?_
      refine mr_getR (pc' := 26) (ci := 6) (j := 1) (b := 11) hR dX10_older_23 rfl rfl rfl (by decide) (by decide) (by decide) rfl rfl ?_
      refine mr_getR (pc' := 29) (ci := 0) (j := 4) (b := 16) hR dX10_older_26 rfl rfl rfl (by decide) (by decide) (by decide) rfl rfl ?_
      refine mr_iload_n (pc' := 30) dX10_older_29 rfl rfl ?_
      obtain ⟨a9, g10, h11⟩ := Option.bind_eq_some_iff.mp h7
      refine mr_lald (pc' := 31) dX10_older_30 rfl rfl rfl g10 ?_
      refine mr_aload_n (pc' := 32) dX10_older_31 rfl rfl ?_
      refine mr_getR (pc' := 35) (ci := 10) (j := 1) (b := 3) hR dX10_older_32 rfl rfl rfl (by decide) (by decide) (by decide) rfl rfl ?_
      refine mr_getR (pc' := 38) (ci := 6) (j := 1) (b := 11) hR dX10_older_35 rfl rfl rfl (by decide) (by decide) (by decide) rfl rfl ?_
      refine mr_getR (pc' := 41) (ci := 0) (j := 4) (b := 16) hR dX10_older_38 rfl rfl rfl (by decide) (by decide) (by decide) rfl rfl ?_
      refine mr_iload_n (pc' := 42) dX10_older_41 rfl rfl ?_
      obtain ⟨a12, g13, h14⟩ := Option.bind_eq_some_iff.mp h11
      refine mr_lald (pc' := 43) dX10_older_42 rfl rfl rfl g13 ?_
      refine mr_lsub (pc' := 44) dX10_older_43 rfl ?_
      refine mr_lstore_n (pc' := 45) (lv' := [(3, .long (a9 - a12)), (0, .ref 0), (1, .int v1), (2, .int v2)]) dX10_older_44 rfl (by decide) rfl ?_
      refine mr_lload_n (pc' := 46) dX10_older_45 rfl rfl ?_
      refine mr_lconst (pc' := 47) (v := (0 : Int64)) dX10_older_46 rfl (by decide) ?_
      by_cases c15 : (a9 - a12) = (0 : Int64)
      · rw [if_pos c15] at h14
        refine mr_lcmp_ne_f (t := 53) (pc' := 51) dX10_older_47 rfl dX10_older_48 (by decide) rfl (not_not_intro c15) ?_
        refine mr_iconst (pc' := 52) (v := (0 : Int32)) dX10_older_51 rfl (by decide) ?_
        obtain rfl := Option.some.inj h14
        exact mr_ireturn dX10_older_52 rfl
      · rw [if_neg c15] at h14
        refine mr_lcmp_ne_t (t := 53) dX10_older_47 rfl dX10_older_48 (by decide) c15 ?_
        refine mr_lload_n (pc' := 54) dX10_older_53 rfl rfl ?_
        refine mr_lconst (pc' := 55) (v := (0 : Int64)) dX10_older_54 rfl (by decide) ?_
        by_cases c16 : (a9 - a12) ≤ (0 : Int64)
        · rw [if_pos c16] at h14
          refine mr_lcmp_le_t (t := 63) dX10_older_55 rfl dX10_older_56 (by decide) c16 ?_
          refine mr_iconst (pc' := 64) (v := (-1 : Int32)) dX10_older_63 rfl (by decide) ?_
          obtain rfl := Option.some.inj h14
          exact mr_ireturn dX10_older_64 rfl
        · rw [if_neg c16] at h14
          refine mr_lcmp_le_f (t := 63) (pc' := 59) dX10_older_55 rfl dX10_older_56 (by decide) rfl c16 ?_
          refine mr_iconst (pc' := 60) (v := (1 : Int32)) dX10_older_59 rfl (by decide) ?_
          refine mr_goto (t := 64) dX10_older_60 (by decide) ?_
          obtain rfl := Option.some.inj h14
          exact mr_ireturn dX10_older_64 rfl
def f_X0_isStanding (v0 : Nat) (v1 : Int32) (S : fS) : Option (Int32) :=
  (gI S (v0 + 1) 8 v1).bind fun a1 =>
  if a1 < (0 : Int32) then (some (0 : Int32)) else
  (some (1 : Int32))
set_option maxHeartbeats 4000000 in
set_option maxRecDepth 100000 in
theorem ok_X0_isStanding {X : mm_C} {RR : Nat → Nat → Option Nat} (hR : RRok RR) {v0 : Nat} {v1 : Int32} (t0 : tg v0 = 0) {S : fS} {r : Int32} (h : f_X0_isStanding v0 v1 S = some r) : mr X 0 mY_X0_isStanding 0 (lv_args 0 [.ref v0, .int v1]) [] (MM RR S) (some (.int r), MM RR S) := by
  unfold f_X0_isStanding at h
  show mr X _ _ 0 [(0, .ref v0), (1, .int v1)] [] (MM RR S) _
  refine mr_aload_n (pc' := 1) dX0_isStanding_0 rfl rfl ?_
  refine mr_getR (pc' := 4) (ci := 0) (j := 0) (b := (v0 + 1)) hR dX0_isStanding_1 rfl rfl t0 (by decide) (by decide) (by decide) rfl (ly0_0 t0).1 ?_
  refine mr_iload_n (pc' := 5) dX0_isStanding_4 rfl rfl ?_
  obtain ⟨a1, g2, h3⟩ := Option.bind_eq_some_iff.mp h
  refine mr_iald (pc' := 6) dX0_isStanding_5 rfl (ly0_0 t0).2.1 (ly0_0 t0).2.2 g2 ?_
  by_cases c4 : a1 < (0 : Int32)
  · rw [if_pos c4] at h3
    refine mr_if_lt_t (t := 13) dX0_isStanding_6 (by decide) c4 ?_
    refine mr_iconst (pc' := 14) (v := (0 : Int32)) dX0_isStanding_13 rfl (by decide) ?_
    obtain rfl := Option.some.inj h3
    exact mr_zreturn dX0_isStanding_14 rfl (by decide)
  · rw [if_neg c4] at h3
    refine mr_if_lt_f (t := 13) (pc' := 9) dX0_isStanding_6 (by decide) rfl c4 ?_
    refine mr_iconst (pc' := 10) (v := (1 : Int32)) dX0_isStanding_9 rfl (by decide) ?_
    refine mr_goto (t := 14) dX0_isStanding_10 (by decide) ?_
    obtain rfl := Option.some.inj h3
    exact mr_zreturn dX0_isStanding_14 rfl (by decide)
def f_X10_isStanding (v1 : Int32) (S : fS) : Option (Int32) :=
  (f_X10_isThing v1 S).bind fun q1 =>
  if q1 = (0 : Int32) then (some (0 : Int32)) else
  ((f_X0_isStanding 11 v1 S).bind fun q5 =>
  if q5 = (0 : Int32) then (some (0 : Int32)) else
  (some (1 : Int32)))
set_option maxHeartbeats 4000000 in
set_option maxRecDepth 100000 in
theorem ok_X10_isStanding {X : mm_C} {RR : Nat → Nat → Option Nat} (hR : RRok RR) {v1 : Int32}  {S : fS} {r : Int32} (h : f_X10_isStanding v1 S = some r) : mr X 2 mY_X10_isStanding 0 (lv_args 0 [.ref 0, .int v1]) [] (MM RR S) (some (.int r), MM RR S) := by
  unfold f_X10_isStanding at h
  show mr X _ _ 0 [(0, .ref 0), (1, .int v1)] [] (MM RR S) _
  refine mr_aload_n (pc' := 1) dX10_isStanding_0 rfl rfl ?_
  refine mr_iload_n (pc' := 2) dX10_isStanding_1 rfl rfl ?_
  obtain ⟨q1, g2, h3⟩ := Option.bind_eq_some_iff.mp h
  refine mr_cv (pc' := 5) (a := 0) (d1 := 1) dX10_isStanding_2 rfl rfl rfl rfl rfl rfl (by decide) rfl (by decide) (ok_X10_isThing hR  g2) ?_
  show mr X _ _ 5 _ [.int q1] (MM RR S) _
  by_cases c4 : q1 = (0 : Int32)
  · rw [if_pos c4] at h3
    refine mr_if_eq_t (t := 26) dX10_isStanding_5 (by decide) c4 ?_
    refine mr_iconst (pc' := 27) (v := (0 : Int32)) dX10_isStanding_26 rfl (by decide) ?_
    obtain rfl := Option.some.inj h3
    exact mr_zreturn dX10_isStanding_27 rfl (by decide)
  · rw [if_neg c4] at h3
    refine mr_if_eq_f (t := 26) (pc' := 8) dX10_isStanding_5 (by decide) rfl c4 ?_
    refine mr_aload_n (pc' := 9) dX10_isStanding_8 rfl rfl ?_
    refine mr_getR (pc' := 12) (ci := 10) (j := 1) (b := 3) hR dX10_isStanding_9 rfl rfl rfl (by decide) (by decide) (by decide) rfl rfl ?_
    refine mr_getR (pc' := 15) (ci := 6) (j := 1) (b := 11) hR dX10_isStanding_12 rfl rfl rfl (by decide) (by decide) (by decide) rfl rfl ?_
    refine mr_iload_n (pc' := 16) dX10_isStanding_15 rfl rfl ?_
    obtain ⟨q5, g6, h7⟩ := Option.bind_eq_some_iff.mp h3
    refine mr_cv (pc' := 19) (a := 11) (d1 := 0) dX10_isStanding_16 rfl rfl rfl rfl rfl rfl (by decide) rfl (by decide) (ok_X0_isStanding hR rfl g6) ?_
    show mr X _ _ 19 _ [.int q5] (MM RR S) _
    by_cases c8 : q5 = (0 : Int32)
    · rw [if_pos c8] at h7
      refine mr_if_eq_t (t := 26) dX10_isStanding_19 (by decide) c8 ?_
      refine mr_iconst (pc' := 27) (v := (0 : Int32)) dX10_isStanding_26 rfl (by decide) ?_
      obtain rfl := Option.some.inj h7
      exact mr_zreturn dX10_isStanding_27 rfl (by decide)
    · rw [if_neg c8] at h7
      refine mr_if_eq_f (t := 26) (pc' := 22) dX10_isStanding_19 (by decide) rfl c8 ?_
      refine mr_iconst (pc' := 23) (v := (1 : Int32)) dX10_isStanding_22 rfl (by decide) ?_
      refine mr_goto (t := 27) dX10_isStanding_23 (by decide) ?_
      obtain rfl := Option.some.inj h7
      exact mr_zreturn dX10_isStanding_27 rfl (by decide)
def f_X8_otherEnd (v0 : Nat) (v1 : Int32) (v2 : Int32) (S : fS) : Option (Int32) :=
  (gI S (v0 + 2) 12 v1).bind fun a1 =>
  if a1 = v2 then ((gI S (v0 + 3) 12 v1).bind fun a12 =>
  some a12) else
  ((gI S (v0 + 3) 12 v1).bind fun a5 =>
  if a5 = v2 then ((gI S (v0 + 2) 12 v1).bind fun a9 =>
  some a9) else
  (some (-1 : Int32)))
set_option maxHeartbeats 4000000 in
set_option maxRecDepth 100000 in
theorem ok_X8_otherEnd {X : mm_C} {RR : Nat → Nat → Option Nat} (hR : RRok RR) {v0 : Nat} {v1 : Int32} {v2 : Int32} (t0 : tg v0 = 8) {S : fS} {r : Int32} (h : f_X8_otherEnd v0 v1 v2 S = some r) : mr X 0 mY_X8_otherEnd 0 (lv_args 0 [.ref v0, .int v1, .int v2]) [] (MM RR S) (some (.int r), MM RR S) := by
  unfold f_X8_otherEnd at h
  show mr X _ _ 0 [(0, .ref v0), (1, .int v1), (2, .int v2)] [] (MM RR S) _
  refine mr_aload_n (pc' := 1) dX8_otherEnd_0 rfl rfl ?_
  refine mr_getR (pc' := 4) (ci := 8) (j := 1) (b := (v0 + 2)) hR dX8_otherEnd_1 rfl rfl t0 (by decide) (by decide) (by decide) rfl (ly8_1 t0).1 ?_
  refine mr_iload_n (pc' := 5) dX8_otherEnd_4 rfl rfl ?_
  obtain ⟨a1, g2, h3⟩ := Option.bind_eq_some_iff.mp h
  refine mr_iald (pc' := 6) dX8_otherEnd_5 rfl (ly8_1 t0).2.1 (ly8_1 t0).2.2 g2 ?_
  refine mr_iload_n (pc' := 7) dX8_otherEnd_6 rfl rfl ?_
  by_cases c4 : a1 = v2
  · rw [if_pos c4] at h3
    refine mr_icmp_ne_f (t := 17) (pc' := 10) dX8_otherEnd_7 (by decide) rfl (not_not_intro c4) ?_
    refine mr_aload_n (pc' := 11) dX8_otherEnd_10 rfl rfl ?_
    refine mr_getR (pc' := 14) (ci := 8) (j := 2) (b := (v0 + 3)) hR dX8_otherEnd_11 rfl rfl t0 (by decide) (by decide) (by decide) rfl (ly8_2 t0).1 ?_
    refine mr_iload_n (pc' := 15) dX8_otherEnd_14 rfl rfl ?_
    obtain ⟨a12, g13, h14⟩ := Option.bind_eq_some_iff.mp h3
    refine mr_iald (pc' := 16) dX8_otherEnd_15 rfl (ly8_2 t0).2.1 (ly8_2 t0).2.2 g13 ?_
    obtain rfl := Option.some.inj h14
    exact mr_ireturn dX8_otherEnd_16 rfl
  · rw [if_neg c4] at h3
    refine mr_icmp_ne_t (t := 17) dX8_otherEnd_7 (by decide) c4 ?_
    refine mr_aload_n (pc' := 18) dX8_otherEnd_17 rfl rfl ?_
    refine mr_getR (pc' := 21) (ci := 8) (j := 2) (b := (v0 + 3)) hR dX8_otherEnd_18 rfl rfl t0 (by decide) (by decide) (by decide) rfl (ly8_2 t0).1 ?_
    refine mr_iload_n (pc' := 22) dX8_otherEnd_21 rfl rfl ?_
    obtain ⟨a5, g6, h7⟩ := Option.bind_eq_some_iff.mp h3
    refine mr_iald (pc' := 23) dX8_otherEnd_22 rfl (ly8_2 t0).2.1 (ly8_2 t0).2.2 g6 ?_
    refine mr_iload_n (pc' := 24) dX8_otherEnd_23 rfl rfl ?_
    by_cases c8 : a5 = v2
    · rw [if_pos c8] at h7
      refine mr_icmp_ne_f (t := 36) (pc' := 27) dX8_otherEnd_24 (by decide) rfl (not_not_intro c8) ?_
      refine mr_aload_n (pc' := 28) dX8_otherEnd_27 rfl rfl ?_
      refine mr_getR (pc' := 31) (ci := 8) (j := 1) (b := (v0 + 2)) hR dX8_otherEnd_28 rfl rfl t0 (by decide) (by decide) (by decide) rfl (ly8_1 t0).1 ?_
      refine mr_iload_n (pc' := 32) dX8_otherEnd_31 rfl rfl ?_
      obtain ⟨a9, g10, h11⟩ := Option.bind_eq_some_iff.mp h7
      refine mr_iald (pc' := 33) dX8_otherEnd_32 rfl (ly8_1 t0).2.1 (ly8_1 t0).2.2 g10 ?_
      refine mr_goto (t := 37) dX8_otherEnd_33 (by decide) ?_
      obtain rfl := Option.some.inj h11
      exact mr_ireturn dX8_otherEnd_37 rfl
    · rw [if_neg c8] at h7
      refine mr_icmp_ne_t (t := 36) dX8_otherEnd_24 (by decide) c8 ?_
      refine mr_iconst (pc' := 37) (v := (-1 : Int32)) dX8_otherEnd_36 rfl (by decide) ?_
      obtain rfl := Option.some.inj h7
      exact mr_ireturn dX8_otherEnd_37 rfl
def f_X0_setOff (v0 : Nat) (v1 : Nat) (v2 : Int32) (v3 : Int32) (S : fS) : Option (Int32 × fS) :=
  if (0 : Int32) ≤ v3 then ((gI S (v0 + 1) 8 v2).bind fun a2 =>
  (f_X8_otherEnd v1 v3 a2 S).bind fun q5 =>
  if (0 : Int32) ≤ q5 then ((sI S (v0 + 1) 8 v2 (-1 : Int32)).bind fun S9 =>
  (sI S9 (v0 + 2) 8 v2 v3).bind fun S12 =>
  (sI S12 (v0 + 3) 8 v2 (0 : Int32)).bind fun S15 =>
  (sI S15 (v0 + 4) 8 v2 q5).bind fun S18 =>
  some ((1 : Int32), S18)) else
  (some ((0 : Int32), S))) else
  (if (0 : Int32) ≤ (-1 : Int32) then ((sI S (v0 + 1) 8 v2 (-1 : Int32)).bind fun S22 =>
  (sI S22 (v0 + 2) 8 v2 v3).bind fun S25 =>
  (sI S25 (v0 + 3) 8 v2 (0 : Int32)).bind fun S28 =>
  (sI S28 (v0 + 4) 8 v2 (-1 : Int32)).bind fun S31 =>
  some ((1 : Int32), S31)) else
  (some ((0 : Int32), S)))
set_option maxHeartbeats 4000000 in
set_option maxRecDepth 100000 in
theorem ok_X0_setOff {X : mm_C} {RR : Nat → Nat → Option Nat} (hR : RRok RR) {v0 : Nat} {v1 : Nat} {v2 : Int32} {v3 : Int32} (t0 : tg v0 = 0) (t1 : tg v1 = 8) {S : fS} {r : Int32 × fS} (h : f_X0_setOff v0 v1 v2 v3 S = some r) : mr X 1 mY_X0_setOff 0 (lv_args 0 [.ref v0, .ref v1, .int v2, .int v3]) [] (MM RR S) (some (.int r.1), MM RR r.2) := by
  unfold f_X0_setOff at h
  show mr X _ _ 0 [(0, .ref v0), (1, .ref v1), (2, .int v2), (3, .int v3)] [] (MM RR S) _
  refine mr_iload_n (pc' := 1) dX0_setOff_0 rfl rfl ?_
  by_cases c1 : (0 : Int32) ≤ v3
  · rw [if_pos c1] at h
    refine mr_if_ge_t (t := 8) dX0_setOff_1 (by decide) c1 ?_
    refine mr_aload_n (pc' := 9) dX0_setOff_8 rfl rfl ?_
    refine mr_iload_n (pc' := 10) dX0_setOff_9 rfl rfl ?_
    refine mr_aload_n (pc' := 11) dX0_setOff_10 rfl rfl ?_
    refine mr_getR (pc' := 14) (ci := 0) (j := 0) (b := (v0 + 1)) hR dX0_setOff_11 rfl rfl t0 (by decide) (by decide) (by decide) rfl (ly0_0 t0).1 ?_
    refine mr_iload_n (pc' := 15) dX0_setOff_14 rfl rfl ?_
    obtain ⟨a2, g3, h4⟩ := Option.bind_eq_some_iff.mp h
    refine mr_iald (pc' := 16) dX0_setOff_15 rfl (ly0_0 t0).2.1 (ly0_0 t0).2.2 g3 ?_
    obtain ⟨q5, g6, h7⟩ := Option.bind_eq_some_iff.mp h4
    refine mr_cv (pc' := 19) (a := v1) (d1 := 0) dX0_setOff_16 rfl rfl rfl rfl rfl t1 (by decide) rfl (by decide) (ok_X8_otherEnd hR t1 g6) ?_
    show mr X _ _ 19 _ [.int q5] (MM RR S) _
    refine mr_istore (pc' := 21) (lv' := [(4, .int q5), (0, .ref v0), (1, .ref v1), (2, .int v2), (3, .int v3)]) dX0_setOff_19 rfl (by decide) rfl ?_
    refine mr_iload (pc' := 23) dX0_setOff_21 rfl rfl ?_
    by_cases c8 : (0 : Int32) ≤ q5
    · rw [if_pos c8] at h7
      refine mr_if_ge_t (t := 28) dX0_setOff_23 (by decide) c8 ?_
      refine mr_aload_n (pc' := 29) dX0_setOff_28 rfl rfl ?_
      refine mr_getR (pc' := 32) (ci := 0) (j := 0) (b := (v0 + 1)) hR dX0_setOff_29 rfl rfl t0 (by decide) (by decide) (by decide) rfl (ly0_0 t0).1 ?_
      refine mr_iload_n (pc' := 33) dX0_setOff_32 rfl rfl ?_
      refine mr_iconst (pc' := 34) (v := (-1 : Int32)) dX0_setOff_33 rfl (by decide) ?_
      obtain ⟨S9, g10, h11⟩ := Option.bind_eq_some_iff.mp h7
      refine mr_iast (pc' := 35) dX0_setOff_34 rfl (ly0_0 t0).2.1 (ly0_0 t0).2.2 g10 ?_
      refine mr_aload_n (pc' := 36) dX0_setOff_35 rfl rfl ?_
      refine mr_getR (pc' := 39) (ci := 0) (j := 1) (b := (v0 + 2)) hR dX0_setOff_36 rfl rfl t0 (by decide) (by decide) (by decide) rfl (ly0_1 t0).1 ?_
      refine mr_iload_n (pc' := 40) dX0_setOff_39 rfl rfl ?_
      refine mr_iload_n (pc' := 41) dX0_setOff_40 rfl rfl ?_
      obtain ⟨S12, g13, h14⟩ := Option.bind_eq_some_iff.mp h11
      refine mr_iast (pc' := 42) dX0_setOff_41 rfl (ly0_1 t0).2.1 (ly0_1 t0).2.2 g13 ?_
      refine mr_aload_n (pc' := 43) dX0_setOff_42 rfl rfl ?_
      refine mr_getR (pc' := 46) (ci := 0) (j := 2) (b := (v0 + 3)) hR dX0_setOff_43 rfl rfl t0 (by decide) (by decide) (by decide) rfl (ly0_2 t0).1 ?_
      refine mr_iload_n (pc' := 47) dX0_setOff_46 rfl rfl ?_
      refine mr_iconst (pc' := 48) (v := (0 : Int32)) dX0_setOff_47 rfl (by decide) ?_
      obtain ⟨S15, g16, h17⟩ := Option.bind_eq_some_iff.mp h14
      refine mr_iast (pc' := 49) dX0_setOff_48 rfl (ly0_2 t0).2.1 (ly0_2 t0).2.2 g16 ?_
      refine mr_aload_n (pc' := 50) dX0_setOff_49 rfl rfl ?_
      refine mr_getR (pc' := 53) (ci := 0) (j := 3) (b := (v0 + 4)) hR dX0_setOff_50 rfl rfl t0 (by decide) (by decide) (by decide) rfl (ly0_3 t0).1 ?_
      refine mr_iload_n (pc' := 54) dX0_setOff_53 rfl rfl ?_
      refine mr_iload (pc' := 56) dX0_setOff_54 rfl rfl ?_
      obtain ⟨S18, g19, h20⟩ := Option.bind_eq_some_iff.mp h17
      refine mr_iast (pc' := 57) dX0_setOff_56 rfl (ly0_3 t0).2.1 (ly0_3 t0).2.2 g19 ?_
      refine mr_iconst (pc' := 58) (v := (1 : Int32)) dX0_setOff_57 rfl (by decide) ?_
      obtain rfl := Option.some.inj h20
      exact mr_zreturn dX0_setOff_58 rfl (by decide)
    · rw [if_neg c8] at h7
      refine mr_if_ge_f (t := 28) (pc' := 26) dX0_setOff_23 (by decide) rfl c8 ?_
      refine mr_iconst (pc' := 27) (v := (0 : Int32)) dX0_setOff_26 rfl (by decide) ?_
      obtain rfl := Option.some.inj h7
      exact mr_zreturn dX0_setOff_27 rfl (by decide)
  · rw [if_neg c1] at h
    refine mr_if_ge_f (t := 8) (pc' := 4) dX0_setOff_1 (by decide) rfl c1 ?_
    refine mr_iconst (pc' := 5) (v := (-1 : Int32)) dX0_setOff_4 rfl (by decide) ?_
    refine mr_goto (t := 19) dX0_setOff_5 (by decide) ?_
    refine mr_istore (pc' := 21) (lv' := [(4, .int (-1 : Int32)), (0, .ref v0), (1, .ref v1), (2, .int v2), (3, .int v3)]) dX0_setOff_19 rfl (by decide) rfl ?_
    refine mr_iload (pc' := 23) dX0_setOff_21 rfl rfl ?_
    by_cases c21 : (0 : Int32) ≤ (-1 : Int32)
    · rw [if_pos c21] at h
      refine mr_if_ge_t (t := 28) dX0_setOff_23 (by decide) c21 ?_
      refine mr_aload_n (pc' := 29) dX0_setOff_28 rfl rfl ?_
      refine mr_getR (pc' := 32) (ci := 0) (j := 0) (b := (v0 + 1)) hR dX0_setOff_29 rfl rfl t0 (by decide) (by decide) (by decide) rfl (ly0_0 t0).1 ?_
      refine mr_iload_n (pc' := 33) dX0_setOff_32 rfl rfl ?_
      refine mr_iconst (pc' := 34) (v := (-1 : Int32)) dX0_setOff_33 rfl (by decide) ?_
      obtain ⟨S22, g23, h24⟩ := Option.bind_eq_some_iff.mp h
      refine mr_iast (pc' := 35) dX0_setOff_34 rfl (ly0_0 t0).2.1 (ly0_0 t0).2.2 g23 ?_
      refine mr_aload_n (pc' := 36) dX0_setOff_35 rfl rfl ?_
      refine mr_getR (pc' := 39) (ci := 0) (j := 1) (b := (v0 + 2)) hR dX0_setOff_36 rfl rfl t0 (by decide) (by decide) (by decide) rfl (ly0_1 t0).1 ?_
      refine mr_iload_n (pc' := 40) dX0_setOff_39 rfl rfl ?_
      refine mr_iload_n (pc' := 41) dX0_setOff_40 rfl rfl ?_
      obtain ⟨S25, g26, h27⟩ := Option.bind_eq_some_iff.mp h24
      refine mr_iast (pc' := 42) dX0_setOff_41 rfl (ly0_1 t0).2.1 (ly0_1 t0).2.2 g26 ?_
      refine mr_aload_n (pc' := 43) dX0_setOff_42 rfl rfl ?_
      refine mr_getR (pc' := 46) (ci := 0) (j := 2) (b := (v0 + 3)) hR dX0_setOff_43 rfl rfl t0 (by decide) (by decide) (by decide) rfl (ly0_2 t0).1 ?_
      refine mr_iload_n (pc' := 47) dX0_setOff_46 rfl rfl ?_
      refine mr_iconst (pc' := 48) (v := (0 : Int32)) dX0_setOff_47 rfl (by decide) ?_
      obtain ⟨S28, g29, h30⟩ := Option.bind_eq_some_iff.mp h27
      refine mr_iast (pc' := 49) dX0_setOff_48 rfl (ly0_2 t0).2.1 (ly0_2 t0).2.2 g29 ?_
      refine mr_aload_n (pc' := 50) dX0_setOff_49 rfl rfl ?_
      refine mr_getR (pc' := 53) (ci := 0) (j := 3) (b := (v0 + 4)) hR dX0_setOff_50 rfl rfl t0 (by decide) (by decide) (by decide) rfl (ly0_3 t0).1 ?_
      refine mr_iload_n (pc' := 54) dX0_setOff_53 rfl rfl ?_
      refine mr_iload (pc' := 56) dX0_setOff_54 rfl rfl ?_
      obtain ⟨S31, g32, h33⟩ := Option.bind_eq_some_iff.mp h30
      refine mr_iast (pc' := 57) dX0_setOff_56 rfl (ly0_3 t0).2.1 (ly0_3 t0).2.2 g32 ?_
      refine mr_iconst (pc' := 58) (v := (1 : Int32)) dX0_setOff_57 rfl (by decide) ?_
      obtain rfl := Option.some.inj h33
      exact mr_zreturn dX0_setOff_58 rfl (by decide)
    · rw [if_neg c21] at h
      refine mr_if_ge_f (t := 28) (pc' := 26) dX0_setOff_23 (by decide) rfl c21 ?_
      refine mr_iconst (pc' := 27) (v := (0 : Int32)) dX0_setOff_26 rfl (by decide) ?_
      obtain rfl := Option.some.inj h
      exact mr_zreturn dX0_setOff_27 rfl (by decide)
def f_X10_go (v1 : Int32) (v2 : Int32) (S : fS) : Option (Int32 × fS) :=
  (f_X10_isStanding v1 S).bind fun q1 =>
  if q1 = (0 : Int32) then (some ((0 : Int32), S)) else
  ((f_X10_isFrom v2 (0 : Int32) ((S.1 4 7) - (1 : Int32)) S).bind fun q5 =>
  if q5 = (0 : Int32) then (some ((0 : Int32), S)) else
  ((f_X0_setOff 11 4 v1 v2 S).bind fun q9 =>
  (bZ q9.1).bind fun z12 => some (z12, q9.2)))
set_option maxHeartbeats 4000000 in
set_option maxRecDepth 100000 in
theorem ok_X10_go {X : mm_C} {RR : Nat → Nat → Option Nat} (hR : RRok RR) {v1 : Int32} {v2 : Int32}  {S : fS} {r : Int32 × fS} (h : f_X10_go v1 v2 S = some r) : mr X 3 mY_X10_go 0 (lv_args 0 [.ref 0, .int v1, .int v2]) [] (MM RR S) (some (.int r.1), MM RR r.2) := by
  unfold f_X10_go at h
  show mr X _ _ 0 [(0, .ref 0), (1, .int v1), (2, .int v2)] [] (MM RR S) _
  refine mr_aload_n (pc' := 1) dX10_go_0 rfl rfl ?_
  refine mr_iload_n (pc' := 2) dX10_go_1 rfl rfl ?_
  obtain ⟨q1, g2, h3⟩ := Option.bind_eq_some_iff.mp h
  refine mr_cv (pc' := 5) (a := 0) (d1 := 2) dX10_go_2 rfl rfl rfl rfl rfl rfl (by decide) rfl (by decide) (ok_X10_isStanding hR  g2) ?_
  show mr X _ _ 5 _ [.int q1] (MM RR S) _
  by_cases c4 : q1 = (0 : Int32)
  · rw [if_pos c4] at h3
    refine mr_if_eq_t (t := 28) dX10_go_5 (by decide) c4 ?_
    refine mr_iconst (pc' := 29) (v := (0 : Int32)) dX10_go_28 rfl (by decide) ?_
    obtain rfl := Option.some.inj h3
    exact mr_zreturn dX10_go_29 rfl (by decide)
  · rw [if_neg c4] at h3
    refine mr_if_eq_f (t := 28) (pc' := 8) dX10_go_5 (by decide) rfl c4 ?_
    refine mr_iload_n (pc' := 9) dX10_go_8 rfl rfl ?_
    refine mr_iconst (pc' := 10) (v := (0 : Int32)) dX10_go_9 rfl (by decide) ?_
    refine mr_aload_n (pc' := 11) dX10_go_10 rfl rfl ?_
    refine mr_getR (pc' := 14) (ci := 10) (j := 1) (b := 3) hR dX10_go_11 rfl rfl rfl (by decide) (by decide) (by decide) rfl rfl ?_
    refine mr_getR (pc' := 17) (ci := 6) (j := 0) (b := 4) hR dX10_go_14 rfl rfl rfl (by decide) (by decide) (by decide) rfl rfl ?_
    refine mr_getI (pc' := 20) (ci := 8) (j := 7) dX10_go_17 rfl rfl rfl (by decide) (by decide) rfl ?_
    refine mr_iconst (pc' := 21) (v := (1 : Int32)) dX10_go_20 rfl (by decide) ?_
    refine mr_isub (pc' := 22) dX10_go_21 rfl ?_
    obtain ⟨q5, g6, h7⟩ := Option.bind_eq_some_iff.mp h3
    refine mr_cs (pc' := 25) (d1 := 0) dX10_go_22 rfl rfl rfl rfl (by decide) (Nat.le_of_ble_eq_true rfl) rfl rfl rfl (by decide) (ok_X10_isFrom hR  g6) ?_
    show mr X _ _ 25 _ [.int q5] (MM RR S) _
    by_cases c8 : q5 = (0 : Int32)
    · rw [if_pos c8] at h7
      refine mr_if_ne_f (t := 30) (pc' := 28) dX10_go_25 (by decide) rfl (not_not_intro c8) ?_
      refine mr_iconst (pc' := 29) (v := (0 : Int32)) dX10_go_28 rfl (by decide) ?_
      obtain rfl := Option.some.inj h7
      exact mr_zreturn dX10_go_29 rfl (by decide)
    · rw [if_neg c8] at h7
      refine mr_if_ne_t (t := 30) dX10_go_25 (by decide) c8 ?_
      refine mr_aload_n (pc' := 31) dX10_go_30 rfl rfl ?_
      refine mr_getR (pc' := 34) (ci := 10) (j := 1) (b := 3) hR dX10_go_31 rfl rfl rfl (by decide) (by decide) (by decide) rfl rfl ?_
      refine mr_getR (pc' := 37) (ci := 6) (j := 1) (b := 11) hR dX10_go_34 rfl rfl rfl (by decide) (by decide) (by decide) rfl rfl ?_
      refine mr_aload_n (pc' := 38) dX10_go_37 rfl rfl ?_
      refine mr_getR (pc' := 41) (ci := 10) (j := 1) (b := 3) hR dX10_go_38 rfl rfl rfl (by decide) (by decide) (by decide) rfl rfl ?_
      refine mr_getR (pc' := 44) (ci := 6) (j := 0) (b := 4) hR dX10_go_41 rfl rfl rfl (by decide) (by decide) (by decide) rfl rfl ?_
      refine mr_iload_n (pc' := 45) dX10_go_44 rfl rfl ?_
      refine mr_iload_n (pc' := 46) dX10_go_45 rfl rfl ?_
      obtain ⟨q9, g10, h11⟩ := Option.bind_eq_some_iff.mp h7
      refine mr_cv (pc' := 49) (a := 11) (d1 := 1) dX10_go_46 rfl rfl rfl rfl rfl rfl (by decide) rfl (by decide) (ok_X0_setOff hR rfl rfl g10) ?_
      show mr X _ _ 49 _ [.int q9.1] (MM RR q9.2) _
      obtain ⟨z12, g13, h14⟩ := Option.bind_eq_some_iff.mp h11
      obtain ⟨g15, e16⟩ := mm_ifs g13
      cases e16
      cases h14
      exact mr_zreturn dX10_go_49 rfl g15
def f_X10_isRuleOrNone (v1 : Int32) (S : fS) : Option (Int32) :=
  (f_X10_isFrom v1 (-1 : Int32) ((S.1 0 10) - (1 : Int32)) S).bind fun q1 =>
  (bZ q1).bind fun z4 => some z4
set_option maxHeartbeats 4000000 in
set_option maxRecDepth 100000 in
theorem ok_X10_isRuleOrNone {X : mm_C} {RR : Nat → Nat → Option Nat} (hR : RRok RR) {v1 : Int32}  {S : fS} {r : Int32} (h : f_X10_isRuleOrNone v1 S = some r) : mr X 1 mY_X10_isRuleOrNone 0 (lv_args 0 [.ref 0, .int v1]) [] (MM RR S) (some (.int r), MM RR S) := by
  unfold f_X10_isRuleOrNone at h
  show mr X _ _ 0 [(0, .ref 0), (1, .int v1)] [] (MM RR S) _
  refine mr_iload_n (pc' := 1) dX10_isRuleOrNone_0 rfl rfl ?_
  refine mr_iconst (pc' := 2) (v := (-1 : Int32)) dX10_isRuleOrNone_1 rfl (by decide) ?_
  refine mr_aload_n (pc' := 3) dX10_isRuleOrNone_2 rfl rfl ?_
  refine mr_getI (pc' := 6) (ci := 10) (j := 10) dX10_isRuleOrNone_3 rfl rfl rfl (by decide) (by decide) rfl ?_
  refine mr_iconst (pc' := 7) (v := (1 : Int32)) dX10_isRuleOrNone_6 rfl (by decide) ?_
  refine mr_isub (pc' := 8) dX10_isRuleOrNone_7 rfl ?_
  obtain ⟨q1, g2, h3⟩ := Option.bind_eq_some_iff.mp h
  refine mr_cs (pc' := 11) (d1 := 0) dX10_isRuleOrNone_8 rfl rfl rfl rfl (by decide) (Nat.le_of_ble_eq_true rfl) rfl rfl rfl (by decide) (ok_X10_isFrom hR  g2) ?_
  show mr X _ _ 11 _ [.int q1] (MM RR S) _
  obtain ⟨z4, g5, h6⟩ := Option.bind_eq_some_iff.mp h3
  obtain ⟨g7, e8⟩ := mm_ifs g5
  cases e8
  cases h6
  exact mr_zreturn dX10_isRuleOrNone_11 rfl g7
def f_X10_ruleOrNull (v1 : Int32) (S : fS) : Option (Option Nat) :=
  (f_X10_isFrom v1 (0 : Int32) ((S.1 0 10) - (1 : Int32)) S).bind fun q1 =>
  if q1 = (0 : Int32) then (some none) else
  ((gA23 v1).bind fun a5 =>
  some (some a5))
set_option maxHeartbeats 4000000 in
set_option maxRecDepth 100000 in
theorem ok_X10_ruleOrNull {X : mm_C} {RR : Nat → Nat → Option Nat} (hR : RRok RR) {v1 : Int32}  {S : fS} {r : Option Nat} (h : f_X10_ruleOrNull v1 S = some r) : mr X 1 mY_X10_ruleOrNull 0 (lv_args 0 [.ref 0, .int v1]) [] (MM RR S) (some (mm_rv r), MM RR S) := by
  unfold f_X10_ruleOrNull at h
  show mr X _ _ 0 [(0, .ref 0), (1, .int v1)] [] (MM RR S) _
  refine mr_iload_n (pc' := 1) dX10_ruleOrNull_0 rfl rfl ?_
  refine mr_iconst (pc' := 2) (v := (0 : Int32)) dX10_ruleOrNull_1 rfl (by decide) ?_
  refine mr_aload_n (pc' := 3) dX10_ruleOrNull_2 rfl rfl ?_
  refine mr_getI (pc' := 6) (ci := 10) (j := 10) dX10_ruleOrNull_3 rfl rfl rfl (by decide) (by decide) rfl ?_
  refine mr_iconst (pc' := 7) (v := (1 : Int32)) dX10_ruleOrNull_6 rfl (by decide) ?_
  refine mr_isub (pc' := 8) dX10_ruleOrNull_7 rfl ?_
  obtain ⟨q1, g2, h3⟩ := Option.bind_eq_some_iff.mp h
  refine mr_cs (pc' := 11) (d1 := 0) dX10_ruleOrNull_8 rfl rfl rfl rfl (by decide) (Nat.le_of_ble_eq_true rfl) rfl rfl rfl (by decide) (ok_X10_isFrom hR  g2) ?_
  show mr X _ _ 11 _ [.int q1] (MM RR S) _
  by_cases c4 : q1 = (0 : Int32)
  · rw [if_pos c4] at h3
    refine mr_if_eq_t (t := 23) dX10_ruleOrNull_11 (by decide) c4 ?_
    refine mr_null (pc' := 24) dX10_ruleOrNull_23 rfl ?_
    obtain rfl := Option.some.inj h3
    exact mr_areturn (v := none) (n := "SlowerAbove$Rule") dX10_ruleOrNull_24 rfl
  · rw [if_neg c4] at h3
    refine mr_if_eq_f (t := 23) (pc' := 14) dX10_ruleOrNull_11 (by decide) rfl c4 ?_
    refine mr_aload_n (pc' := 15) dX10_ruleOrNull_14 rfl rfl ?_
    refine mr_getR (pc' := 18) (ci := 10) (j := 3) (b := 23) hR dX10_ruleOrNull_15 rfl rfl rfl (by decide) (by decide) (by decide) rfl rfl ?_
    refine mr_iload_n (pc' := 19) dX10_ruleOrNull_18 rfl rfl ?_
    obtain ⟨a5, g6, h7⟩ := Option.bind_eq_some_iff.mp h3
    refine mr_aald23 (pc' := 20) hR dX10_ruleOrNull_19 rfl g6 ?_
    refine mr_goto (t := 24) dX10_ruleOrNull_20 (by decide) ?_
    obtain rfl := Option.some.inj h7
    exact mr_areturn (v := (some a5)) (n := "SlowerAbove$Rule") dX10_ruleOrNull_24 rfl
theorem f_X10_ruleOrNull_tg {v : Int32} {S : fS} {o : Option Nat} (h : f_X10_ruleOrNull v S = some o) : ∀ a, o = some a → tg a = 4 := by
  intro a ha
  subst ha
  unfold f_X10_ruleOrNull at h
  obtain ⟨q, -, h⟩ := Option.bind_eq_some_iff.mp h
  split at h
  · cases h
  · obtain ⟨b, hb, h⟩ := Option.bind_eq_some_iff.mp h
    cases h
    exact gA23_tg hb
def f_X4_pop (v0 : Nat) (S : fS) : Option (Int64 × fS) :=
  if (S.1 v0 3) ≤ (0 : Int32) then (some ((0 : Int64), S)) else
  (if (S.1 v0 3) ≤ (60 : Int32) then ((some (pI S v0 3 ((S.1 v0 3) - (1 : Int32)))).bind fun S3 =>
  (gL S3 (v0 + 2) 60 (S3.1 v0 3)).bind fun a6 =>
  some (a6, S3)) else
  (some ((0 : Int64), S)))
set_option maxHeartbeats 4000000 in
set_option maxRecDepth 100000 in
theorem ok_X4_pop {X : mm_C} {RR : Nat → Nat → Option Nat} (hR : RRok RR) {v0 : Nat} (t0 : tg v0 = 4) {S : fS} {r : Int64 × fS} (h : f_X4_pop v0 S = some r) : mr X 0 mY_X4_pop 0 (lv_args 0 [.ref v0]) [] (MM RR S) (some (.long r.1), MM RR r.2) := by
  unfold f_X4_pop at h
  show mr X _ _ 0 [(0, .ref v0)] [] (MM RR S) _
  refine mr_aload_n (pc' := 1) dX4_pop_0 rfl rfl ?_
  refine mr_getI (pc' := 4) (ci := 4) (j := 3) dX4_pop_1 rfl rfl t0 (by decide) (by decide) rfl ?_
  by_cases c1 : (S.1 v0 3) ≤ (0 : Int32)
  · rw [if_pos c1] at h
    refine mr_if_le_t (t := 16) dX4_pop_4 (by decide) c1 ?_
    refine mr_lconst (pc' := 17) (v := (0 : Int64)) dX4_pop_16 rfl (by decide) ?_
    obtain rfl := Option.some.inj h
    exact mr_lreturn dX4_pop_17 rfl
  · rw [if_neg c1] at h
    refine mr_if_le_f (t := 16) (pc' := 7) dX4_pop_4 (by decide) rfl c1 ?_
    refine mr_aload_n (pc' := 8) dX4_pop_7 rfl rfl ?_
    refine mr_getI (pc' := 11) (ci := 4) (j := 3) dX4_pop_8 rfl rfl t0 (by decide) (by decide) rfl ?_
    refine mr_bipush (pc' := 13) (v := (60 : Int32)) dX4_pop_11 rfl (by decide) ?_
    by_cases c2 : (S.1 v0 3) ≤ (60 : Int32)
    · rw [if_pos c2] at h
      refine mr_icmp_le_t (t := 18) dX4_pop_13 (by decide) c2 ?_
      refine mr_aload_n (pc' := 19) dX4_pop_18 rfl rfl ?_
      refine mr_dup_ref (pc' := 20) dX4_pop_19 rfl ?_
      refine mr_getI (pc' := 23) (ci := 4) (j := 3) dX4_pop_20 rfl rfl t0 (by decide) (by decide) rfl ?_
      refine mr_iconst (pc' := 24) (v := (1 : Int32)) dX4_pop_23 rfl (by decide) ?_
      refine mr_isub (pc' := 25) dX4_pop_24 rfl ?_
      obtain ⟨S3, g4, h5⟩ := Option.bind_eq_some_iff.mp h
      refine mr_putI (pc' := 28) (ci := 4) (j := 3) dX4_pop_25 rfl rfl t0 (by decide) (by decide) rfl rfl ?_
      rw [Option.some.inj g4]
      refine mr_aload_n (pc' := 29) dX4_pop_28 rfl rfl ?_
      refine mr_getR (pc' := 32) (ci := 4) (j := 1) (b := (v0 + 2)) hR dX4_pop_29 rfl rfl t0 (by decide) (by decide) (by decide) rfl (ly4_1 t0).1 ?_
      refine mr_aload_n (pc' := 33) dX4_pop_32 rfl rfl ?_
      refine mr_getI (pc' := 36) (ci := 4) (j := 3) dX4_pop_33 rfl rfl t0 (by decide) (by decide) rfl ?_
      obtain ⟨a6, g7, h8⟩ := Option.bind_eq_some_iff.mp h5
      refine mr_lald (pc' := 37) dX4_pop_36 rfl (ly4_1 t0).2.1 (ly4_1 t0).2.2 g7 ?_
      obtain rfl := Option.some.inj h8
      exact mr_lreturn dX4_pop_37 rfl
    · rw [if_neg c2] at h
      refine mr_icmp_le_f (t := 18) (pc' := 16) dX4_pop_13 (by decide) rfl c2 ?_
      refine mr_lconst (pc' := 17) (v := (0 : Int64)) dX4_pop_16 rfl (by decide) ?_
      obtain rfl := Option.some.inj h
      exact mr_lreturn dX4_pop_17 rfl
def f_X4_push (v0 : Nat) (v1 : Int64) (S : fS) : Option (fS) :=
  if (S.1 v0 3) < (0 : Int32) then (some S) else
  (if (60 : Int32) ≤ (S.1 v0 3) then (some S) else
  ((sL S (v0 + 2) 60 (S.1 v0 3) v1).bind fun S3 =>
  (some (pI S3 v0 3 ((S3.1 v0 3) + (1 : Int32)))).bind fun S6 =>
  some S6))
set_option maxHeartbeats 4000000 in
set_option maxRecDepth 100000 in
theorem ok_X4_push {X : mm_C} {RR : Nat → Nat → Option Nat} (hR : RRok RR) {v0 : Nat} {v1 : Int64} (t0 : tg v0 = 4) {S : fS} {r : fS} (h : f_X4_push v0 v1 S = some r) : mr X 0 mY_X4_push 0 (lv_args 0 [.ref v0, .long v1]) [] (MM RR S) (none, MM RR r) := by
  unfold f_X4_push at h
  show mr X _ _ 0 [(0, .ref v0), (1, .long v1)] [] (MM RR S) _
  refine mr_aload_n (pc' := 1) dX4_push_0 rfl rfl ?_
  refine mr_getI (pc' := 4) (ci := 4) (j := 3) dX4_push_1 rfl rfl t0 (by decide) (by decide) rfl ?_
  by_cases c1 : (S.1 v0 3) < (0 : Int32)
  · rw [if_pos c1] at h
    refine mr_if_lt_t (t := 36) dX4_push_4 (by decide) c1 ?_
    obtain rfl := Option.some.inj h
    exact mr_return dX4_push_36 rfl
  · rw [if_neg c1] at h
    refine mr_if_lt_f (t := 36) (pc' := 7) dX4_push_4 (by decide) rfl c1 ?_
    refine mr_aload_n (pc' := 8) dX4_push_7 rfl rfl ?_
    refine mr_getI (pc' := 11) (ci := 4) (j := 3) dX4_push_8 rfl rfl t0 (by decide) (by decide) rfl ?_
    refine mr_bipush (pc' := 13) (v := (60 : Int32)) dX4_push_11 rfl (by decide) ?_
    by_cases c2 : (60 : Int32) ≤ (S.1 v0 3)
    · rw [if_pos c2] at h
      refine mr_icmp_ge_t (t := 36) dX4_push_13 (by decide) c2 ?_
      obtain rfl := Option.some.inj h
      exact mr_return dX4_push_36 rfl
    · rw [if_neg c2] at h
      refine mr_icmp_ge_f (t := 36) (pc' := 16) dX4_push_13 (by decide) rfl c2 ?_
      refine mr_aload_n (pc' := 17) dX4_push_16 rfl rfl ?_
      refine mr_getR (pc' := 20) (ci := 4) (j := 1) (b := (v0 + 2)) hR dX4_push_17 rfl rfl t0 (by decide) (by decide) (by decide) rfl (ly4_1 t0).1 ?_
      refine mr_aload_n (pc' := 21) dX4_push_20 rfl rfl ?_
      refine mr_getI (pc' := 24) (ci := 4) (j := 3) dX4_push_21 rfl rfl t0 (by decide) (by decide) rfl ?_
      refine mr_lload_n (pc' := 25) dX4_push_24 rfl rfl ?_
      obtain ⟨S3, g4, h5⟩ := Option.bind_eq_some_iff.mp h
      refine mr_last (pc' := 26) dX4_push_25 rfl (ly4_1 t0).2.1 (ly4_1 t0).2.2 g4 ?_
      refine mr_aload_n (pc' := 27) dX4_push_26 rfl rfl ?_
      refine mr_dup_ref (pc' := 28) dX4_push_27 rfl ?_
      refine mr_getI (pc' := 31) (ci := 4) (j := 3) dX4_push_28 rfl rfl t0 (by decide) (by decide) rfl ?_
      refine mr_iconst (pc' := 32) (v := (1 : Int32)) dX4_push_31 rfl (by decide) ?_
      refine mr_iadd (pc' := 33) dX4_push_32 rfl ?_
      obtain ⟨S6, g7, h8⟩ := Option.bind_eq_some_iff.mp h5
      refine mr_putI (pc' := 36) (ci := 4) (j := 3) dX4_push_33 rfl rfl t0 (by decide) (by decide) rfl rfl ?_
      rw [Option.some.inj g7]
      obtain rfl := Option.some.inj h8
      exact mr_return dX4_push_36 rfl
def lp_X0_eldest_4 (p0 : Nat) (S : fS) (K : Int32 → Option (Int32)) : Nat → Int32 → Int32 → Option (Int32)
  | 0, _, _ => none
  | n + 1, p1, p2 =>
    if (S.1 p0 5) ≤ p2 then (K p1) else
    ((gL S (p0 + 5) 8 p2).bind fun a2 =>
    (gL S (p0 + 5) 8 p1).bind fun a5 =>
    if a2 ≤ a5 then (lp_X0_eldest_4 p0 S K n p1 (p2 + (1 : Int32))) else
    (lp_X0_eldest_4 p0 S K n p2 (p2 + (1 : Int32))))
set_option maxHeartbeats 4000000 in
set_option maxRecDepth 100000 in
theorem ok_lp_X0_eldest_4 {X : mm_C} {RR : Nat → Nat → Option Nat} (hR : RRok RR) {p0 : Nat} (t0 : tg p0 = 0) {S : fS} {K : Int32 → Option (Int32)} {r : Int32} (hK : ∀ (k1 : Int32), K k1 = some r → mr X 0 mY_X0_eldest 40 [(1, .int k1)] [] (MM RR S) (some (.int r), MM RR S)) : ∀ (n : Nat) (p1 : Int32) (p2 : Int32), lp_X0_eldest_4 p0 S K n p1 p2 = some r → mr X 0 mY_X0_eldest 4 [(0, .ref p0), (1, .int p1), (2, .int p2)] [] (MM RR S) (some (.int r), MM RR S) := by
  intro n
  induction n with
  | zero => intro p1 p2 h; exact mm_no h
  | succ n ih =>
    intro p1 p2 h
    unfold lp_X0_eldest_4 at h
    refine mr_iload_n (pc' := 5) dX0_eldest_4 rfl rfl ?_
    refine mr_aload_n (pc' := 6) dX0_eldest_5 rfl rfl ?_
    refine mr_getI (pc' := 9) (ci := 0) (j := 5) dX0_eldest_6 rfl rfl t0 (by decide) (by decide) rfl ?_
    by_cases c1 : (S.1 p0 5) ≤ p2
    · rw [if_pos c1] at h
      refine mr_icmp_ge_t (t := 40) dX0_eldest_9 (by decide) c1 ?_
      exact mr_sub [(1, .int p1)] ⟨rfl, trivial⟩ rfl (hK _  h)
    · rw [if_neg c1] at h
      refine mr_icmp_ge_f (t := 40) (pc' := 12) dX0_eldest_9 (by decide) rfl c1 ?_
      refine mr_aload_n (pc' := 13) dX0_eldest_12 rfl rfl ?_
      refine mr_getR (pc' := 16) (ci := 0) (j := 4) (b := (p0 + 5)) hR dX0_eldest_13 rfl rfl t0 (by decide) (by decide) (by decide) rfl (ly0_4 t0).1 ?_
      refine mr_iload_n (pc' := 17) dX0_eldest_16 rfl rfl ?_
      obtain ⟨a2, g3, h4⟩ := Option.bind_eq_some_iff.mp h
      refine mr_lald (pc' := 18) dX0_eldest_17 rfl (ly0_4 t0).2.1 (ly0_4 t0).2.2 g3 ?_
      refine mr_aload_n (pc' := 19) dX0_eldest_18 rfl rfl ?_
      refine mr_getR (pc' := 22) (ci := 0) (j := 4) (b := (p0 + 5)) hR dX0_eldest_19 rfl rfl t0 (by decide) (by decide) (by decide) rfl (ly0_4 t0).1 ?_
      refine mr_iload_n (pc' := 23) dX0_eldest_22 rfl rfl ?_
      obtain ⟨a5, g6, h7⟩ := Option.bind_eq_some_iff.mp h4
      refine mr_lald (pc' := 24) dX0_eldest_23 rfl (ly0_4 t0).2.1 (ly0_4 t0).2.2 g6 ?_
      by_cases c8 : a2 ≤ a5
      · rw [if_pos c8] at h7
        refine mr_lcmp_le_t (t := 32) dX0_eldest_24 rfl dX0_eldest_25 (by decide) c8 ?_
        refine mr_iload_n (pc' := 33) dX0_eldest_32 rfl rfl ?_
        refine mr_istore_n (pc' := 34) (lv' := [(1, .int p1), (0, .ref p0), (2, .int p2)]) dX0_eldest_33 rfl (by decide) rfl ?_
        refine mr_iinc (pc' := 37) (x' := (p2 + (1 : Int32))) (lv' := [(2, .int (p2 + (1 : Int32))), (1, .int p1), (0, .ref p0)]) dX0_eldest_34 rfl (by decide) rfl rfl rfl ?_
        refine mr_goto (t := 4) dX0_eldest_37 (by decide) ?_
        exact mr_sub [(0, .ref p0), (1, .int p1), (2, .int (p2 + (1 : Int32)))] ⟨rfl, rfl, rfl, trivial⟩ rfl (ih _ _  h7)
      · rw [if_neg c8] at h7
        refine mr_lcmp_le_f (t := 32) (pc' := 28) dX0_eldest_24 rfl dX0_eldest_25 (by decide) rfl c8 ?_
        refine mr_iload_n (pc' := 29) dX0_eldest_28 rfl rfl ?_
        refine mr_goto (t := 33) dX0_eldest_29 (by decide) ?_
        refine mr_istore_n (pc' := 34) (lv' := [(1, .int p2), (0, .ref p0), (2, .int p2)]) dX0_eldest_33 rfl (by decide) rfl ?_
        refine mr_iinc (pc' := 37) (x' := (p2 + (1 : Int32))) (lv' := [(2, .int (p2 + (1 : Int32))), (1, .int p2), (0, .ref p0)]) dX0_eldest_34 rfl (by decide) rfl rfl rfl ?_
        refine mr_goto (t := 4) dX0_eldest_37 (by decide) ?_
        exact mr_sub [(0, .ref p0), (1, .int p2), (2, .int (p2 + (1 : Int32)))] ⟨rfl, rfl, rfl, trivial⟩ rfl (ih _ _  h7)
def f_X0_eldest (v0 : Nat) (S : fS) : Option (Int32) :=
  lp_X0_eldest_4 v0 S (fun u9 => some u9) FU (0 : Int32) (1 : Int32)
set_option maxHeartbeats 4000000 in
set_option maxRecDepth 100000 in
theorem ok_X0_eldest {X : mm_C} {RR : Nat → Nat → Option Nat} (hR : RRok RR) {v0 : Nat} (t0 : tg v0 = 0) {S : fS} {r : Int32} (h : f_X0_eldest v0 S = some r) : mr X 0 mY_X0_eldest 0 (lv_args 0 [.ref v0]) [] (MM RR S) (some (.int r), MM RR S) := by
  unfold f_X0_eldest at h
  show mr X _ _ 0 [(0, .ref v0)] [] (MM RR S) _
  refine mr_iconst (pc' := 1) (v := (0 : Int32)) dX0_eldest_0 rfl (by decide) ?_
  refine mr_istore_n (pc' := 2) (lv' := [(1, .int (0 : Int32)), (0, .ref v0)]) dX0_eldest_1 rfl (by decide) rfl ?_
  refine mr_iconst (pc' := 3) (v := (1 : Int32)) dX0_eldest_2 rfl (by decide) ?_
  refine mr_istore_n (pc' := 4) (lv' := [(2, .int (1 : Int32)), (1, .int (0 : Int32)), (0, .ref v0)]) dX0_eldest_3 rfl (by decide) rfl ?_
  refine mr_sub [(0, .ref v0), (1, .int (0 : Int32)), (2, .int (1 : Int32))] ⟨rfl, rfl, rfl, trivial⟩ rfl ?_
  refine ok_lp_X0_eldest_4 hR t0 (fun u9 h10 => ?_) FU _ _  h
  refine mr_iload_n (pc' := 41) dX0_eldest_40 rfl rfl ?_
  obtain rfl := Option.some.inj h10
  exact mr_ireturn dX0_eldest_41 rfl
def lp_X0_youngest_4 (p0 : Nat) (S : fS) (K : Int32 → Option (Int32)) : Nat → Int32 → Int32 → Option (Int32)
  | 0, _, _ => none
  | n + 1, p1, p2 =>
    if (S.1 p0 5) ≤ p2 then (K p1) else
    ((gL S (p0 + 5) 8 p2).bind fun a2 =>
    (gL S (p0 + 5) 8 p1).bind fun a5 =>
    if a5 ≤ a2 then (lp_X0_youngest_4 p0 S K n p1 (p2 + (1 : Int32))) else
    (lp_X0_youngest_4 p0 S K n p2 (p2 + (1 : Int32))))
set_option maxHeartbeats 4000000 in
set_option maxRecDepth 100000 in
theorem ok_lp_X0_youngest_4 {X : mm_C} {RR : Nat → Nat → Option Nat} (hR : RRok RR) {p0 : Nat} (t0 : tg p0 = 0) {S : fS} {K : Int32 → Option (Int32)} {r : Int32} (hK : ∀ (k1 : Int32), K k1 = some r → mr X 0 mY_X0_youngest 40 [(1, .int k1)] [] (MM RR S) (some (.int r), MM RR S)) : ∀ (n : Nat) (p1 : Int32) (p2 : Int32), lp_X0_youngest_4 p0 S K n p1 p2 = some r → mr X 0 mY_X0_youngest 4 [(0, .ref p0), (1, .int p1), (2, .int p2)] [] (MM RR S) (some (.int r), MM RR S) := by
  intro n
  induction n with
  | zero => intro p1 p2 h; exact mm_no h
  | succ n ih =>
    intro p1 p2 h
    unfold lp_X0_youngest_4 at h
    refine mr_iload_n (pc' := 5) dX0_youngest_4 rfl rfl ?_
    refine mr_aload_n (pc' := 6) dX0_youngest_5 rfl rfl ?_
    refine mr_getI (pc' := 9) (ci := 0) (j := 5) dX0_youngest_6 rfl rfl t0 (by decide) (by decide) rfl ?_
    by_cases c1 : (S.1 p0 5) ≤ p2
    · rw [if_pos c1] at h
      refine mr_icmp_ge_t (t := 40) dX0_youngest_9 (by decide) c1 ?_
      exact mr_sub [(1, .int p1)] ⟨rfl, trivial⟩ rfl (hK _  h)
    · rw [if_neg c1] at h
      refine mr_icmp_ge_f (t := 40) (pc' := 12) dX0_youngest_9 (by decide) rfl c1 ?_
      refine mr_aload_n (pc' := 13) dX0_youngest_12 rfl rfl ?_
      refine mr_getR (pc' := 16) (ci := 0) (j := 4) (b := (p0 + 5)) hR dX0_youngest_13 rfl rfl t0 (by decide) (by decide) (by decide) rfl (ly0_4 t0).1 ?_
      refine mr_iload_n (pc' := 17) dX0_youngest_16 rfl rfl ?_
      obtain ⟨a2, g3, h4⟩ := Option.bind_eq_some_iff.mp h
      refine mr_lald (pc' := 18) dX0_youngest_17 rfl (ly0_4 t0).2.1 (ly0_4 t0).2.2 g3 ?_
      refine mr_aload_n (pc' := 19) dX0_youngest_18 rfl rfl ?_
      refine mr_getR (pc' := 22) (ci := 0) (j := 4) (b := (p0 + 5)) hR dX0_youngest_19 rfl rfl t0 (by decide) (by decide) (by decide) rfl (ly0_4 t0).1 ?_
      refine mr_iload_n (pc' := 23) dX0_youngest_22 rfl rfl ?_
      obtain ⟨a5, g6, h7⟩ := Option.bind_eq_some_iff.mp h4
      refine mr_lald (pc' := 24) dX0_youngest_23 rfl (ly0_4 t0).2.1 (ly0_4 t0).2.2 g6 ?_
      by_cases c8 : a5 ≤ a2
      · rw [if_pos c8] at h7
        refine mr_lcmp_ge_t (t := 32) dX0_youngest_24 rfl dX0_youngest_25 (by decide) c8 ?_
        refine mr_iload_n (pc' := 33) dX0_youngest_32 rfl rfl ?_
        refine mr_istore_n (pc' := 34) (lv' := [(1, .int p1), (0, .ref p0), (2, .int p2)]) dX0_youngest_33 rfl (by decide) rfl ?_
        refine mr_iinc (pc' := 37) (x' := (p2 + (1 : Int32))) (lv' := [(2, .int (p2 + (1 : Int32))), (1, .int p1), (0, .ref p0)]) dX0_youngest_34 rfl (by decide) rfl rfl rfl ?_
        refine mr_goto (t := 4) dX0_youngest_37 (by decide) ?_
        exact mr_sub [(0, .ref p0), (1, .int p1), (2, .int (p2 + (1 : Int32)))] ⟨rfl, rfl, rfl, trivial⟩ rfl (ih _ _  h7)
      · rw [if_neg c8] at h7
        refine mr_lcmp_ge_f (t := 32) (pc' := 28) dX0_youngest_24 rfl dX0_youngest_25 (by decide) rfl c8 ?_
        refine mr_iload_n (pc' := 29) dX0_youngest_28 rfl rfl ?_
        refine mr_goto (t := 33) dX0_youngest_29 (by decide) ?_
        refine mr_istore_n (pc' := 34) (lv' := [(1, .int p2), (0, .ref p0), (2, .int p2)]) dX0_youngest_33 rfl (by decide) rfl ?_
        refine mr_iinc (pc' := 37) (x' := (p2 + (1 : Int32))) (lv' := [(2, .int (p2 + (1 : Int32))), (1, .int p2), (0, .ref p0)]) dX0_youngest_34 rfl (by decide) rfl rfl rfl ?_
        refine mr_goto (t := 4) dX0_youngest_37 (by decide) ?_
        exact mr_sub [(0, .ref p0), (1, .int p2), (2, .int (p2 + (1 : Int32)))] ⟨rfl, rfl, rfl, trivial⟩ rfl (ih _ _  h7)
def f_X0_youngest (v0 : Nat) (S : fS) : Option (Int32) :=
  lp_X0_youngest_4 v0 S (fun u9 => some u9) FU (0 : Int32) (1 : Int32)
set_option maxHeartbeats 4000000 in
set_option maxRecDepth 100000 in
theorem ok_X0_youngest {X : mm_C} {RR : Nat → Nat → Option Nat} (hR : RRok RR) {v0 : Nat} (t0 : tg v0 = 0) {S : fS} {r : Int32} (h : f_X0_youngest v0 S = some r) : mr X 0 mY_X0_youngest 0 (lv_args 0 [.ref v0]) [] (MM RR S) (some (.int r), MM RR S) := by
  unfold f_X0_youngest at h
  show mr X _ _ 0 [(0, .ref v0)] [] (MM RR S) _
  refine mr_iconst (pc' := 1) (v := (0 : Int32)) dX0_youngest_0 rfl (by decide) ?_
  refine mr_istore_n (pc' := 2) (lv' := [(1, .int (0 : Int32)), (0, .ref v0)]) dX0_youngest_1 rfl (by decide) rfl ?_
  refine mr_iconst (pc' := 3) (v := (1 : Int32)) dX0_youngest_2 rfl (by decide) ?_
  refine mr_istore_n (pc' := 4) (lv' := [(2, .int (1 : Int32)), (1, .int (0 : Int32)), (0, .ref v0)]) dX0_youngest_3 rfl (by decide) rfl ?_
  refine mr_sub [(0, .ref v0), (1, .int (0 : Int32)), (2, .int (1 : Int32))] ⟨rfl, rfl, rfl, trivial⟩ rfl ?_
  refine ok_lp_X0_youngest_4 hR t0 (fun u9 h10 => ?_) FU _ _  h
  refine mr_iload_n (pc' := 41) dX0_youngest_40 rfl rfl ?_
  obtain rfl := Option.some.inj h10
  exact mr_ireturn dX0_youngest_41 rfl
def f_X0_wordOf (v0 : Nat) (v1 : Nat) (v2 : Int32) (v3 : Int32) (S : fS) : Option (Int64) :=
  if v3 = (0 : Int32) then (some (Int32.toInt64 (S.1 v0 6))) else
  if v3 = (1 : Int32) then (some (Int32.toInt64 v2)) else
  if v3 = (2 : Int32) then ((gI S (v0 + 1) 8 v2).bind fun a4 =>
  some (Int32.toInt64 a4)) else
  if v3 = (3 : Int32) then ((gL S (v0 + 5) 8 v2).bind fun a8 =>
  (dL a8 (232792560 : Int64)).bind fun a11 =>
  some a11) else
  if v3 = (4 : Int32) then ((gI S (v0 + 1) 8 v2).bind fun a15 =>
  (f_X0_standingOn v0 a15 S).bind fun q18 =>
  some (Int32.toInt64 q18)) else
  if v3 = (5 : Int32) then ((gI S (v0 + 1) 8 v2).bind fun a22 =>
  (gL S (v1 + 1) 10 a22).bind fun a25 =>
  (dL ((1000 : Int64) * a25) (232792560 : Int64)).bind fun a28 =>
  some a28) else
  if v3 = (6 : Int32) then ((gL S (v0 + 5) 8 v2).bind fun a32 =>
  (f_X0_eldest v0 S).bind fun q35 =>
  (gL S (v0 + 5) 8 q35).bind fun a38 =>
  if a32 = a38 then (some (1 : Int64)) else
  (some (0 : Int64))) else
  ((gL S (v0 + 5) 8 v2).bind fun a42 =>
  (f_X0_youngest v0 S).bind fun q45 =>
  (gL S (v0 + 5) 8 q45).bind fun a48 =>
  if a42 = a48 then (some (1 : Int64)) else
  (some (0 : Int64)))
set_option maxHeartbeats 4000000 in
set_option maxRecDepth 100000 in
theorem ok_X0_wordOf {X : mm_C} {RR : Nat → Nat → Option Nat} (hR : RRok RR) {v0 : Nat} {v1 : Nat} {v2 : Int32} {v3 : Int32} (t0 : tg v0 = 0) (t1 : tg v1 = 8) {S : fS} {r : Int64} (h : f_X0_wordOf v0 v1 v2 v3 S = some r) : mr X 1 mY_X0_wordOf 0 (lv_args 0 [.ref v0, .ref v1, .int v2, .int v3]) [] (MM RR S) (some (.long r), MM RR S) := by
  unfold f_X0_wordOf at h
  show mr X _ _ 0 [(0, .ref v0), (1, .ref v1), (2, .int v2), (3, .int v3)] [] (MM RR S) _
  refine mr_iload_n (pc' := 1) dX0_wordOf_0 rfl rfl ?_
  by_cases c1 : v3 = (0 : Int32)
  · rw [if_pos c1] at h
    refine mr_sw_in (t := 44) (v := (0 : Int32)) dX0_wordOf_1 c1 rfl ?_
    refine mr_aload_n (pc' := 45) dX0_wordOf_44 rfl rfl ?_
    refine mr_getI (pc' := 48) (ci := 0) (j := 6) dX0_wordOf_45 rfl rfl t0 (by decide) (by decide) rfl ?_
    refine mr_i2l (pc' := 49) dX0_wordOf_48 rfl ?_
    obtain rfl := Option.some.inj h
    exact mr_lreturn dX0_wordOf_49 rfl
  rw [if_neg c1] at h
  by_cases c2 : v3 = (1 : Int32)
  · rw [if_pos c2] at h
    refine mr_sw_in (t := 50) (v := (1 : Int32)) dX0_wordOf_1 c2 rfl ?_
    refine mr_iload_n (pc' := 51) dX0_wordOf_50 rfl rfl ?_
    refine mr_i2l (pc' := 52) dX0_wordOf_51 rfl ?_
    obtain rfl := Option.some.inj h
    exact mr_lreturn dX0_wordOf_52 rfl
  rw [if_neg c2] at h
  by_cases c3 : v3 = (2 : Int32)
  · rw [if_pos c3] at h
    refine mr_sw_in (t := 53) (v := (2 : Int32)) dX0_wordOf_1 c3 rfl ?_
    refine mr_aload_n (pc' := 54) dX0_wordOf_53 rfl rfl ?_
    refine mr_getR (pc' := 57) (ci := 0) (j := 0) (b := (v0 + 1)) hR dX0_wordOf_54 rfl rfl t0 (by decide) (by decide) (by decide) rfl (ly0_0 t0).1 ?_
    refine mr_iload_n (pc' := 58) dX0_wordOf_57 rfl rfl ?_
    obtain ⟨a4, g5, h6⟩ := Option.bind_eq_some_iff.mp h
    refine mr_iald (pc' := 59) dX0_wordOf_58 rfl (ly0_0 t0).2.1 (ly0_0 t0).2.2 g5 ?_
    refine mr_i2l (pc' := 60) dX0_wordOf_59 rfl ?_
    obtain rfl := Option.some.inj h6
    exact mr_lreturn dX0_wordOf_60 rfl
  rw [if_neg c3] at h
  by_cases c7 : v3 = (3 : Int32)
  · rw [if_pos c7] at h
    refine mr_sw_in (t := 61) (v := (3 : Int32)) dX0_wordOf_1 c7 rfl ?_
    refine mr_aload_n (pc' := 62) dX0_wordOf_61 rfl rfl ?_
    refine mr_getR (pc' := 65) (ci := 0) (j := 4) (b := (v0 + 5)) hR dX0_wordOf_62 rfl rfl t0 (by decide) (by decide) (by decide) rfl (ly0_4 t0).1 ?_
    refine mr_iload_n (pc' := 66) dX0_wordOf_65 rfl rfl ?_
    obtain ⟨a8, g9, h10⟩ := Option.bind_eq_some_iff.mp h
    refine mr_lald (pc' := 67) dX0_wordOf_66 rfl (ly0_4 t0).2.1 (ly0_4 t0).2.2 g9 ?_
    refine mr_ldc2 (pc' := 70) (v := (232792560 : Int64)) dX0_wordOf_67 rfl rfl ?_
    obtain ⟨a11, g12, h13⟩ := Option.bind_eq_some_iff.mp h10
    refine mr_ldiv (pc' := 71) dX0_wordOf_70 rfl g12 ?_
    obtain rfl := Option.some.inj h13
    exact mr_lreturn dX0_wordOf_71 rfl
  rw [if_neg c7] at h
  by_cases c14 : v3 = (4 : Int32)
  · rw [if_pos c14] at h
    refine mr_sw_in (t := 72) (v := (4 : Int32)) dX0_wordOf_1 c14 rfl ?_
    refine mr_aload_n (pc' := 73) dX0_wordOf_72 rfl rfl ?_
    refine mr_aload_n (pc' := 74) dX0_wordOf_73 rfl rfl ?_
    refine mr_getR (pc' := 77) (ci := 0) (j := 0) (b := (v0 + 1)) hR dX0_wordOf_74 rfl rfl t0 (by decide) (by decide) (by decide) rfl (ly0_0 t0).1 ?_
    refine mr_iload_n (pc' := 78) dX0_wordOf_77 rfl rfl ?_
    obtain ⟨a15, g16, h17⟩ := Option.bind_eq_some_iff.mp h
    refine mr_iald (pc' := 79) dX0_wordOf_78 rfl (ly0_0 t0).2.1 (ly0_0 t0).2.2 g16 ?_
    obtain ⟨q18, g19, h20⟩ := Option.bind_eq_some_iff.mp h17
    refine mr_cv (pc' := 82) (a := v0) (d1 := 0) dX0_wordOf_79 rfl rfl rfl rfl rfl t0 (by decide) rfl (by decide) (ok_X0_standingOn hR t0 g19) ?_
    show mr X _ _ 82 _ [.int q18] (MM RR S) _
    refine mr_i2l (pc' := 83) dX0_wordOf_82 rfl ?_
    obtain rfl := Option.some.inj h20
    exact mr_lreturn dX0_wordOf_83 rfl
  rw [if_neg c14] at h
  by_cases c21 : v3 = (5 : Int32)
  · rw [if_pos c21] at h
    refine mr_sw_in (t := 84) (v := (5 : Int32)) dX0_wordOf_1 c21 rfl ?_
    refine mr_ldc2 (pc' := 87) (v := (1000 : Int64)) dX0_wordOf_84 rfl rfl ?_
    refine mr_aload_n (pc' := 88) dX0_wordOf_87 rfl rfl ?_
    refine mr_getR (pc' := 91) (ci := 8) (j := 0) (b := (v1 + 1)) hR dX0_wordOf_88 rfl rfl t1 (by decide) (by decide) (by decide) rfl (ly8_0 t1).1 ?_
    refine mr_aload_n (pc' := 92) dX0_wordOf_91 rfl rfl ?_
    refine mr_getR (pc' := 95) (ci := 0) (j := 0) (b := (v0 + 1)) hR dX0_wordOf_92 rfl rfl t0 (by decide) (by decide) (by decide) rfl (ly0_0 t0).1 ?_
    refine mr_iload_n (pc' := 96) dX0_wordOf_95 rfl rfl ?_
    obtain ⟨a22, g23, h24⟩ := Option.bind_eq_some_iff.mp h
    refine mr_iald (pc' := 97) dX0_wordOf_96 rfl (ly0_0 t0).2.1 (ly0_0 t0).2.2 g23 ?_
    obtain ⟨a25, g26, h27⟩ := Option.bind_eq_some_iff.mp h24
    refine mr_lald (pc' := 98) dX0_wordOf_97 rfl (ly8_0 t1).2.1 (ly8_0 t1).2.2 g26 ?_
    refine mr_lmul (pc' := 99) dX0_wordOf_98 rfl ?_
    refine mr_ldc2 (pc' := 102) (v := (232792560 : Int64)) dX0_wordOf_99 rfl rfl ?_
    obtain ⟨a28, g29, h30⟩ := Option.bind_eq_some_iff.mp h27
    refine mr_ldiv (pc' := 103) dX0_wordOf_102 rfl g29 ?_
    obtain rfl := Option.some.inj h30
    exact mr_lreturn dX0_wordOf_103 rfl
  rw [if_neg c21] at h
  by_cases c31 : v3 = (6 : Int32)
  · rw [if_pos c31] at h
    refine mr_sw_in (t := 104) (v := (6 : Int32)) dX0_wordOf_1 c31 rfl ?_
    refine mr_aload_n (pc' := 105) dX0_wordOf_104 rfl rfl ?_
    refine mr_getR (pc' := 108) (ci := 0) (j := 4) (b := (v0 + 5)) hR dX0_wordOf_105 rfl rfl t0 (by decide) (by decide) (by decide) rfl (ly0_4 t0).1 ?_
    refine mr_iload_n (pc' := 109) dX0_wordOf_108 rfl rfl ?_
    obtain ⟨a32, g33, h34⟩ := Option.bind_eq_some_iff.mp h
    refine mr_lald (pc' := 110) dX0_wordOf_109 rfl (ly0_4 t0).2.1 (ly0_4 t0).2.2 g33 ?_
    refine mr_aload_n (pc' := 111) dX0_wordOf_110 rfl rfl ?_
    refine mr_getR (pc' := 114) (ci := 0) (j := 4) (b := (v0 + 5)) hR dX0_wordOf_111 rfl rfl t0 (by decide) (by decide) (by decide) rfl (ly0_4 t0).1 ?_
    refine mr_aload_n (pc' := 115) dX0_wordOf_114 rfl rfl ?_
    obtain ⟨q35, g36, h37⟩ := Option.bind_eq_some_iff.mp h34
    refine mr_cv (pc' := 118) (a := v0) (d1 := 0) dX0_wordOf_115 rfl rfl rfl rfl rfl t0 (by decide) rfl (by decide) (ok_X0_eldest hR t0 g36) ?_
    show mr X _ _ 118 _ [.int q35, .ref (v0 + 5), .long a32] (MM RR S) _
    obtain ⟨a38, g39, h40⟩ := Option.bind_eq_some_iff.mp h37
    refine mr_lald (pc' := 119) dX0_wordOf_118 rfl (ly0_4 t0).2.1 (ly0_4 t0).2.2 g39 ?_
    by_cases c41 : a32 = a38
    · rw [if_pos c41] at h40
      refine mr_lcmp_ne_f (t := 127) (pc' := 123) dX0_wordOf_119 rfl dX0_wordOf_120 (by decide) rfl (not_not_intro c41) ?_
      refine mr_lconst (pc' := 124) (v := (1 : Int64)) dX0_wordOf_123 rfl (by decide) ?_
      refine mr_goto (t := 128) dX0_wordOf_124 (by decide) ?_
      obtain rfl := Option.some.inj h40
      exact mr_lreturn dX0_wordOf_128 rfl
    · rw [if_neg c41] at h40
      refine mr_lcmp_ne_t (t := 127) dX0_wordOf_119 rfl dX0_wordOf_120 (by decide) c41 ?_
      refine mr_lconst (pc' := 128) (v := (0 : Int64)) dX0_wordOf_127 rfl (by decide) ?_
      obtain rfl := Option.some.inj h40
      exact mr_lreturn dX0_wordOf_128 rfl
  rw [if_neg c31] at h
  refine mr_sw_out (t := 129) dX0_wordOf_1 (by have := i32ne c1 (k := 0) (by decide); have := i32ne c2 (k := 1) (by decide); have := i32ne c3 (k := 2) (by decide); have := i32ne c7 (k := 3) (by decide); have := i32ne c14 (k := 4) (by decide); have := i32ne c21 (k := 5) (by decide); have := i32ne c31 (k := 6) (by decide); omega) (by decide) ?_
  refine mr_aload_n (pc' := 130) dX0_wordOf_129 rfl rfl ?_
  refine mr_getR (pc' := 133) (ci := 0) (j := 4) (b := (v0 + 5)) hR dX0_wordOf_130 rfl rfl t0 (by decide) (by decide) (by decide) rfl (ly0_4 t0).1 ?_
  refine mr_iload_n (pc' := 134) dX0_wordOf_133 rfl rfl ?_
  obtain ⟨a42, g43, h44⟩ := Option.bind_eq_some_iff.mp h
  refine mr_lald (pc' := 135) dX0_wordOf_134 rfl (ly0_4 t0).2.1 (ly0_4 t0).2.2 g43 ?_
  refine mr_aload_n (pc' := 136) dX0_wordOf_135 rfl rfl ?_
  refine mr_getR (pc' := 139) (ci := 0) (j := 4) (b := (v0 + 5)) hR dX0_wordOf_136 rfl rfl t0 (by decide) (by decide) (by decide) rfl (ly0_4 t0).1 ?_
  refine mr_aload_n (pc' := 140) dX0_wordOf_139 rfl rfl ?_
  obtain ⟨q45, g46, h47⟩ := Option.bind_eq_some_iff.mp h44
  refine mr_cv (pc' := 143) (a := v0) (d1 := 0) dX0_wordOf_140 rfl rfl rfl rfl rfl t0 (by decide) rfl (by decide) (ok_X0_youngest hR t0 g46) ?_
  show mr X _ _ 143 _ [.int q45, .ref (v0 + 5), .long a42] (MM RR S) _
  obtain ⟨a48, g49, h50⟩ := Option.bind_eq_some_iff.mp h47
  refine mr_lald (pc' := 144) dX0_wordOf_143 rfl (ly0_4 t0).2.1 (ly0_4 t0).2.2 g49 ?_
  by_cases c51 : a42 = a48
  · rw [if_pos c51] at h50
    refine mr_lcmp_ne_f (t := 152) (pc' := 148) dX0_wordOf_144 rfl dX0_wordOf_145 (by decide) rfl (not_not_intro c51) ?_
    refine mr_lconst (pc' := 149) (v := (1 : Int64)) dX0_wordOf_148 rfl (by decide) ?_
    refine mr_goto (t := 153) dX0_wordOf_149 (by decide) ?_
    obtain rfl := Option.some.inj h50
    exact mr_lreturn dX0_wordOf_153 rfl
  · rw [if_neg c51] at h50
    refine mr_lcmp_ne_t (t := 152) dX0_wordOf_144 rfl dX0_wordOf_145 (by decide) c51 ?_
    refine mr_lconst (pc' := 153) (v := (0 : Int64)) dX0_wordOf_152 rfl (by decide) ?_
    obtain rfl := Option.some.inj h50
    exact mr_lreturn dX0_wordOf_153 rfl
