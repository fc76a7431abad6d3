def f_X3_stateOf (v0 : Int64) (v2 : Int32) (S : fS) : Option (Int64) :=
  some ((v0 <<< (Int32.toInt64 (5 : Int32) &&& 63)) ||| (Int32.toInt64 v2))
set_option maxHeartbeats 4000000 in
set_option maxRecDepth 100000 in
theorem ok_X3_stateOf {X : mm_C} {RR : Nat → Nat → Option Nat} (hR : RRok RR) {v0 : Int64} {v2 : Int32}  {S : fS} {r : Int64} (h : f_X3_stateOf v0 v2 S = some r) : mr X 0 mY_X3_stateOf 0 (lv_args 0 [.long v0, .int v2]) [] (MM RR S) (some (.long r), MM RR S) := by
  unfold f_X3_stateOf at h
  show mr X _ _ 0 [(0, .long v0), (2, .int v2)] [] (MM RR S) _
  refine mr_lload_n (pc' := 1) dX3_stateOf_0 rfl rfl ?_
  refine mr_iconst (pc' := 2) (v := (5 : Int32)) dX3_stateOf_1 rfl (by decide) ?_
  refine mr_lshl (pc' := 3) dX3_stateOf_2 rfl ?_
  refine mr_iload_n (pc' := 4) dX3_stateOf_3 rfl rfl ?_
  refine mr_i2l (pc' := 5) dX3_stateOf_4 rfl ?_
  refine mr_lor (pc' := 6) dX3_stateOf_5 rfl ?_
  obtain rfl := Option.some.inj h
  exact mr_lreturn dX3_stateOf_6 rfl
def f_X3_ageOf (v0 : Int64) (S : fS) : Option (Int64) :=
  some (v0 >>> (Int32.toInt64 (5 : Int32) &&& 63))
set_option maxHeartbeats 4000000 in
set_option maxRecDepth 100000 in
theorem ok_X3_ageOf {X : mm_C} {RR : Nat → Nat → Option Nat} (hR : RRok RR) {v0 : Int64}  {S : fS} {r : Int64} (h : f_X3_ageOf v0 S = some r) : mr X 0 mY_X3_ageOf 0 (lv_args 0 [.long v0]) [] (MM RR S) (some (.long r), MM RR S) := by
  unfold f_X3_ageOf at h
  show mr X _ _ 0 [(0, .long v0)] [] (MM RR S) _
  refine mr_lload_n (pc' := 1) dX3_ageOf_0 rfl rfl ?_
  refine mr_iconst (pc' := 2) (v := (5 : Int32)) dX3_ageOf_1 rfl (by decide) ?_
  refine mr_lshr (pc' := 3) dX3_ageOf_2 rfl ?_
  obtain rfl := Option.some.inj h
  exact mr_lreturn dX3_ageOf_3 rfl
def f_X3_keep (v1 : Int32) (v2 : Int64) (S : fS) : Option (Int32 × fS) :=
  if (S.1 45 5) ≤ v1 then (if (S.1 45 5) < (4000 : Int32) then ((sL S 46 4000 (S.1 45 5) v2).bind fun S3 =>
  (some (pI S3 45 5 ((S3.1 45 5) + (1 : Int32)))).bind fun S6 =>
  some ((1 : Int32), S6)) else
  (some ((0 : Int32), S))) else
  ((gL S 46 4000 ((S.1 45 5) - (1 : Int32))).bind fun a9 =>
  (f_X3_ageOf a9 S).bind fun q12 =>
  (f_X3_ageOf v2 S).bind fun q15 =>
  if q12 = q15 then (some ((1 : Int32), S)) else
  (if (S.1 45 5) < (4000 : Int32) then ((sL S 46 4000 (S.1 45 5) v2).bind fun S20 =>
  (some (pI S20 45 5 ((S20.1 45 5) + (1 : Int32)))).bind fun S23 =>
  some ((1 : Int32), S23)) else
  (some ((0 : Int32), S))))
set_option maxHeartbeats 4000000 in
set_option maxRecDepth 100000 in
theorem ok_X3_keep {X : mm_C} {RR : Nat → Nat → Option Nat} (hR : RRok RR) {v1 : Int32} {v2 : Int64}  {S : fS} {r : Int32 × fS} (h : f_X3_keep v1 v2 S = some r) : mr X 1 mY_X3_keep 0 (lv_args 0 [.ref 45, .int v1, .long v2]) [] (MM RR S) (some (.int r.1), MM RR r.2) := by
  unfold f_X3_keep at h
  show mr X _ _ 0 [(0, .ref 45), (1, .int v1), (2, .long v2)] [] (MM RR S) _
  refine mr_aload_n (pc' := 1) dX3_keep_0 rfl rfl ?_
  refine mr_getI (pc' := 4) (ci := 3) (j := 5) dX3_keep_1 rfl rfl rfl (by decide) (by decide) rfl ?_
  refine mr_iload_n (pc' := 5) dX3_keep_4 rfl rfl ?_
  by_cases c1 : (S.1 45 5) ≤ v1
  · rw [if_pos c1] at h
    refine mr_icmp_le_t (t := 32) dX3_keep_5 (by decide) c1 ?_
    refine mr_aload_n (pc' := 33) dX3_keep_32 rfl rfl ?_
    refine mr_getI (pc' := 36) (ci := 3) (j := 5) dX3_keep_33 rfl rfl rfl (by decide) (by decide) rfl ?_
    refine mr_sipush (pc' := 39) (v := (4000 : Int32)) dX3_keep_36 rfl (by decide) ?_
    by_cases c2 : (S.1 45 5) < (4000 : Int32)
    · rw [if_pos c2] at h
      refine mr_icmp_lt_t (t := 44) dX3_keep_39 (by decide) c2 ?_
      refine mr_aload_n (pc' := 45) dX3_keep_44 rfl rfl ?_
      refine mr_getR (pc' := 48) (ci := 3) (j := 0) (b := 46) hR dX3_keep_45 rfl rfl rfl (by decide) (by decide) (by decide) rfl rfl ?_
      refine mr_aload_n (pc' := 49) dX3_keep_48 rfl rfl ?_
      refine mr_getI (pc' := 52) (ci := 3) (j := 5) dX3_keep_49 rfl rfl rfl (by decide) (by decide) rfl ?_
      refine mr_lload_n (pc' := 53) dX3_keep_52 rfl rfl ?_
      obtain ⟨S3, g4, h5⟩ := Option.bind_eq_some_iff.mp h
      refine mr_last (pc' := 54) dX3_keep_53 rfl rfl rfl g4 ?_
      refine mr_aload_n (pc' := 55) dX3_keep_54 rfl rfl ?_
      refine mr_dup_ref (pc' := 56) dX3_keep_55 rfl ?_
      refine mr_getI (pc' := 59) (ci := 3) (j := 5) dX3_keep_56 rfl rfl rfl (by decide) (by decide) rfl ?_
      refine mr_iconst (pc' := 60) (v := (1 : Int32)) dX3_keep_59 rfl (by decide) ?_
      refine mr_iadd (pc' := 61) dX3_keep_60 rfl ?_
      obtain ⟨S6, g7, h8⟩ := Option.bind_eq_some_iff.mp h5
      refine mr_putI (pc' := 64) (ci := 3) (j := 5) dX3_keep_61 rfl rfl rfl (by decide) (by decide) rfl rfl ?_
      rw [Option.some.inj g7]
      refine mr_iconst (pc' := 65) (v := (1 : Int32)) dX3_keep_64 rfl (by decide) ?_
      obtain rfl := Option.some.inj h8
      exact mr_zreturn dX3_keep_65 rfl (by decide)
    · rw [if_neg c2] at h
      refine mr_icmp_lt_f (t := 44) (pc' := 42) dX3_keep_39 (by decide) rfl c2 ?_
      refine mr_iconst (pc' := 43) (v := (0 : Int32)) dX3_keep_42 rfl (by decide) ?_
      obtain rfl := Option.some.inj h
      exact mr_zreturn dX3_keep_43 rfl (by decide)
  · rw [if_neg c1] at h
    refine mr_icmp_le_f (t := 32) (pc' := 8) dX3_keep_5 (by decide) rfl c1 ?_
    refine mr_aload_n (pc' := 9) dX3_keep_8 rfl rfl ?_
    refine mr_getR (pc' := 12) (ci := 3) (j := 0) (b := 46) hR dX3_keep_9 rfl rfl rfl (by decide) (by decide) (by decide) rfl rfl ?_
    refine mr_aload_n (pc' := 13) dX3_keep_12 rfl rfl ?_
    refine mr_getI (pc' := 16) (ci := 3) (j := 5) dX3_keep_13 rfl rfl rfl (by decide) (by decide) rfl ?_
    refine mr_iconst (pc' := 17) (v := (1 : Int32)) dX3_keep_16 rfl (by decide) ?_
    refine mr_isub (pc' := 18) dX3_keep_17 rfl ?_
    obtain ⟨a9, g10, h11⟩ := Option.bind_eq_some_iff.mp h
    refine mr_lald (pc' := 19) dX3_keep_18 rfl rfl rfl g10 ?_
    obtain ⟨q12, g13, h14⟩ := Option.bind_eq_some_iff.mp h11
    refine mr_cs (pc' := 22) (d1 := 0) dX3_keep_19 rfl rfl rfl rfl (by decide) (Nat.le_of_ble_eq_true rfl) rfl rfl rfl (by decide) (ok_X3_ageOf hR  g13) ?_
    show mr X _ _ 22 _ [.long q12] (MM RR S) _
    refine mr_lload_n (pc' := 23) dX3_keep_22 rfl rfl ?_
    obtain ⟨q15, g16, h17⟩ := Option.bind_eq_some_iff.mp h14
    refine mr_cs (pc' := 26) (d1 := 0) dX3_keep_23 rfl rfl rfl rfl (by decide) (Nat.le_of_ble_eq_true rfl) rfl rfl rfl (by decide) (ok_X3_ageOf hR  g16) ?_
    show mr X _ _ 26 _ [.long q15, .long q12] (MM RR S) _
    by_cases c18 : q12 = q15
    · rw [if_pos c18] at h17
      refine mr_lcmp_ne_f (t := 32) (pc' := 30) dX3_keep_26 rfl dX3_keep_27 (by decide) rfl (not_not_intro c18) ?_
      refine mr_iconst (pc' := 31) (v := (1 : Int32)) dX3_keep_30 rfl (by decide) ?_
      obtain rfl := Option.some.inj h17
      exact mr_zreturn dX3_keep_31 rfl (by decide)
    · rw [if_neg c18] at h17
      refine mr_lcmp_ne_t (t := 32) dX3_keep_26 rfl dX3_keep_27 (by decide) c18 ?_
      refine mr_aload_n (pc' := 33) dX3_keep_32 rfl rfl ?_
      refine mr_getI (pc' := 36) (ci := 3) (j := 5) dX3_keep_33 rfl rfl rfl (by decide) (by decide) rfl ?_
      refine mr_sipush (pc' := 39) (v := (4000 : Int32)) dX3_keep_36 rfl (by decide) ?_
      by_cases c19 : (S.1 45 5) < (4000 : Int32)
      · rw [if_pos c19] at h17
        refine mr_icmp_lt_t (t := 44) dX3_keep_39 (by decide) c19 ?_
        refine mr_aload_n (pc' := 45) dX3_keep_44 rfl rfl ?_
        refine mr_getR (pc' := 48) (ci := 3) (j := 0) (b := 46) hR dX3_keep_45 rfl rfl rfl (by decide) (by decide) (by decide) rfl rfl ?_
        refine mr_aload_n (pc' := 49) dX3_keep_48 rfl rfl ?_
        refine mr_getI (pc' := 52) (ci := 3) (j := 5) dX3_keep_49 rfl rfl rfl (by decide) (by decide) rfl ?_
        refine mr_lload_n (pc' := 53) dX3_keep_52 rfl rfl ?_
        obtain ⟨S20, g21, h22⟩ := Option.bind_eq_some_iff.mp h17
        refine mr_last (pc' := 54) dX3_keep_53 rfl rfl rfl g21 ?_
        refine mr_aload_n (pc' := 55) dX3_keep_54 rfl rfl ?_
        refine mr_dup_ref (pc' := 56) dX3_keep_55 rfl ?_
        refine mr_getI (pc' := 59) (ci := 3) (j := 5) dX3_keep_56 rfl rfl rfl (by decide) (by decide) rfl ?_
        refine mr_iconst (pc' := 60) (v := (1 : Int32)) dX3_keep_59 rfl (by decide) ?_
        refine mr_iadd (pc' := 61) dX3_keep_60 rfl ?_
        obtain ⟨S23, g24, h25⟩ := Option.bind_eq_some_iff.mp h22
        refine mr_putI (pc' := 64) (ci := 3) (j := 5) dX3_keep_61 rfl rfl rfl (by decide) (by decide) rfl rfl ?_
        rw [Option.some.inj g24]
        refine mr_iconst (pc' := 65) (v := (1 : Int32)) dX3_keep_64 rfl (by decide) ?_
        obtain rfl := Option.some.inj h25
        exact mr_zreturn dX3_keep_65 rfl (by decide)
      · rw [if_neg c19] at h17
        refine mr_icmp_lt_f (t := 44) (pc' := 42) dX3_keep_39 (by decide) rfl c19 ?_
        refine mr_iconst (pc' := 43) (v := (0 : Int32)) dX3_keep_42 rfl (by decide) ?_
        obtain rfl := Option.some.inj h17
        exact mr_zreturn dX3_keep_43 rfl (by decide)
def f_X3_addSource (v1 : Int32) (v2 : Int64) (S : fS) : Option (fS) :=
  if (13 : Int32) ≤ (S.1 45 6) then (some S) else
  ((gI S 47 171 v1).bind fun a2 =>
  (gI S 47 171 (v1 + (1 : Int32))).bind fun a5 =>
  if a5 ≤ a2 then (some S) else
  ((gI S 47 171 v1).bind fun a9 =>
  (sI S 48 13 (S.1 45 6) a9).bind fun S12 =>
  (gI S12 47 171 (v1 + (1 : Int32))).bind fun a15 =>
  (sI S12 49 13 (S12.1 45 6) a15).bind fun S18 =>
  (sL S18 50 13 (S18.1 45 6) v2).bind fun S21 =>
  (some (pI S21 45 6 ((S21.1 45 6) + (1 : Int32)))).bind fun S24 =>
  some S24))
set_option maxHeartbeats 4000000 in
set_option maxRecDepth 100000 in
theorem ok_X3_addSource {X : mm_C} {RR : Nat → Nat → Option Nat} (hR : RRok RR) {v1 : Int32} {v2 : Int64}  {S : fS} {r : fS} (h : f_X3_addSource v1 v2 S = some r) : mr X 0 mY_X3_addSource 0 (lv_args 0 [.ref 45, .int v1, .long v2]) [] (MM RR S) (none, MM RR r) := by
  unfold f_X3_addSource at h
  show mr X _ _ 0 [(0, .ref 45), (1, .int v1), (2, .long v2)] [] (MM RR S) _
  refine mr_aload_n (pc' := 1) dX3_addSource_0 rfl rfl ?_
  refine mr_getI (pc' := 4) (ci := 3) (j := 6) dX3_addSource_1 rfl rfl rfl (by decide) (by decide) rfl ?_
  refine mr_bipush (pc' := 6) (v := (13 : Int32)) dX3_addSource_4 rfl (by decide) ?_
  by_cases c1 : (13 : Int32) ≤ (S.1 45 6)
  · rw [if_pos c1] at h
    refine mr_icmp_ge_t (t := 78) dX3_addSource_6 (by decide) c1 ?_
    obtain rfl := Option.some.inj h
    exact mr_return dX3_addSource_78 rfl
  · rw [if_neg c1] at h
    refine mr_icmp_ge_f (t := 78) (pc' := 9) dX3_addSource_6 (by decide) rfl c1 ?_
    refine mr_aload_n (pc' := 10) dX3_addSource_9 rfl rfl ?_
    refine mr_getR (pc' := 13) (ci := 3) (j := 1) (b := 47) hR dX3_addSource_10 rfl rfl rfl (by decide) (by decide) (by decide) rfl rfl ?_
    refine mr_iload_n (pc' := 14) dX3_addSource_13 rfl rfl ?_
    obtain ⟨a2, g3, h4⟩ := Option.bind_eq_some_iff.mp h
    refine mr_iald (pc' := 15) dX3_addSource_14 rfl rfl rfl g3 ?_
    refine mr_aload_n (pc' := 16) dX3_addSource_15 rfl rfl ?_
    refine mr_getR (pc' := 19) (ci := 3) (j := 1) (b := 47) hR dX3_addSource_16 rfl rfl rfl (by decide) (by decide) (by decide) rfl rfl ?_
    refine mr_iload_n (pc' := 20) dX3_addSource_19 rfl rfl ?_
    refine mr_iconst (pc' := 21) (v := (1 : Int32)) dX3_addSource_20 rfl (by decide) ?_
    refine mr_iadd (pc' := 22) dX3_addSource_21 rfl ?_
    obtain ⟨a5, g6, h7⟩ := Option.bind_eq_some_iff.mp h4
    refine mr_iald (pc' := 23) dX3_addSource_22 rfl rfl rfl g6 ?_
    by_cases c8 : a5 ≤ a2
    · rw [if_pos c8] at h7
      refine mr_icmp_ge_t (t := 78) dX3_addSource_23 (by decide) c8 ?_
      obtain rfl := Option.some.inj h7
      exact mr_return dX3_addSource_78 rfl
    · rw [if_neg c8] at h7
      refine mr_icmp_ge_f (t := 78) (pc' := 26) dX3_addSource_23 (by decide) rfl c8 ?_
      refine mr_aload_n (pc' := 27) dX3_addSource_26 rfl rfl ?_
      refine mr_getR (pc' := 30) (ci := 3) (j := 2) (b := 48) hR dX3_addSource_27 rfl rfl rfl (by decide) (by decide) (by decide) rfl rfl ?_
      refine mr_aload_n (pc' := 31) dX3_addSource_30 rfl rfl ?_
      refine mr_getI (pc' := 34) (ci := 3) (j := 6) dX3_addSource_31 rfl rfl rfl (by decide) (by decide) rfl ?_
      refine mr_aload_n (pc' := 35) dX3_addSource_34 rfl rfl ?_
      refine mr_getR (pc' := 38) (ci := 3) (j := 1) (b := 47) hR dX3_addSource_35 rfl rfl rfl (by decide) (by decide) (by decide) rfl rfl ?_
      refine mr_iload_n (pc' := 39) dX3_addSource_38 rfl rfl ?_
      obtain ⟨a9, g10, h11⟩ := Option.bind_eq_some_iff.mp h7
      refine mr_iald (pc' := 40) dX3_addSource_39 rfl rfl rfl g10 ?_
      obtain ⟨S12, g13, h14⟩ := Option.bind_eq_some_iff.mp h11
      refine mr_iast (pc' := 41) dX3_addSource_40 rfl rfl rfl g13 ?_
      refine mr_aload_n (pc' := 42) dX3_addSource_41 rfl rfl ?_
      refine mr_getR (pc' := 45) (ci := 3) (j := 3) (b := 49) hR dX3_addSource_42 rfl rfl rfl (by decide) (by decide) (by decide) rfl rfl ?_
      refine mr_aload_n (pc' := 46) dX3_addSource_45 rfl rfl ?_
      refine mr_getI (pc' := 49) (ci := 3) (j := 6) dX3_addSource_46 rfl rfl rfl (by decide) (by decide) rfl ?_
      refine mr_aload_n (pc' := 50) dX3_addSource_49 rfl rfl ?_
      refine mr_getR (pc' := 53) (ci := 3) (j := 1) (b := 47) hR dX3_addSource_50 rfl rfl rfl (by decide) (by decide) (by decide) rfl rfl ?_
      refine mr_iload_n (pc' := 54) dX3_addSource_53 rfl rfl ?_
      refine mr_iconst (pc' := 55) (v := (1 : Int32)) dX3_addSource_54 rfl (by decide) ?_
      refine mr_iadd (pc' := 56) dX3_addSource_55 rfl ?_
      obtain ⟨a15, g16, h17⟩ := Option.bind_eq_some_iff.mp h14
      refine mr_iald (pc' := 57) dX3_addSource_56 rfl rfl rfl g16 ?_
      obtain ⟨S18, g19, h20⟩ := Option.bind_eq_some_iff.mp h17
      refine mr_iast (pc' := 58) dX3_addSource_57 rfl rfl rfl g19 ?_
      refine mr_aload_n (pc' := 59) dX3_addSource_58 rfl rfl ?_
      refine mr_getR (pc' := 62) (ci := 3) (j := 4) (b := 50) hR dX3_addSource_59 rfl rfl rfl (by decide) (by decide) (by decide) rfl rfl ?_
      refine mr_aload_n (pc' := 63) dX3_addSource_62 rfl rfl ?_
      refine mr_getI (pc' := 66) (ci := 3) (j := 6) dX3_addSource_63 rfl rfl rfl (by decide) (by decide) rfl ?_
      refine mr_lload_n (pc' := 67) dX3_addSource_66 rfl rfl ?_
      obtain ⟨S21, g22, h23⟩ := Option.bind_eq_some_iff.mp h20
      refine mr_last (pc' := 68) dX3_addSource_67 rfl rfl rfl g22 ?_
      refine mr_aload_n (pc' := 69) dX3_addSource_68 rfl rfl ?_
      refine mr_dup_ref (pc' := 70) dX3_addSource_69 rfl ?_
      refine mr_getI (pc' := 73) (ci := 3) (j := 6) dX3_addSource_70 rfl rfl rfl (by decide) (by decide) rfl ?_
      refine mr_iconst (pc' := 74) (v := (1 : Int32)) dX3_addSource_73 rfl (by decide) ?_
      refine mr_iadd (pc' := 75) dX3_addSource_74 rfl ?_
      obtain ⟨S24, g25, h26⟩ := Option.bind_eq_some_iff.mp h23
      refine mr_putI (pc' := 78) (ci := 3) (j := 6) dX3_addSource_75 rfl rfl rfl (by decide) (by decide) rfl rfl ?_
      rw [Option.some.inj g25]
      obtain rfl := Option.some.inj h26
      exact mr_return dX3_addSource_78 rfl
def lp_X3_gatherSources_37 (p1 : Nat) (p2 : Int32) (p3 : Int32) (K : fS → Option (fS)) : Nat → Int32 → fS → Option (fS)
  | 0, _, _ => none
  | n + 1, p4, S0 =>
    if (S0.1 p1 7) ≤ p4 then (K S0) else
    ((f_X8_otherEnd p1 p4 p3 S0).bind fun q6 =>
    (gI S0 (p1 + 4) 12 p4).bind fun a9 =>
    if q6 < (0 : Int32) then (lp_X3_gatherSources_37 p1 p2 p3 K n (p4 + (1 : Int32)) S0) else
    (if p2 < a9 then (lp_X3_gatherSources_37 p1 p2 p3 K n (p4 + (1 : Int32)) S0) else
    ((gL S0 (p1 + 5) 12 p4).bind fun a14 =>
    (f_X3_stateOf ((Int32.toInt64 a9) * a14) a9 S0).bind fun q17 =>
    (f_X3_addSource (((p2 - a9) * (S0.1 p1 6)) + q6) q17 S0).bind fun q20 =>
    lp_X3_gatherSources_37 p1 p2 p3 K n (p4 + (1 : Int32)) q20)))
set_option maxHeartbeats 4000000 in
set_option maxRecDepth 100000 in
theorem ok_lp_X3_gatherSources_37 {X : mm_C} {RR : Nat → Nat → Option Nat} (hR : RRok RR) {p1 : Nat} {p2 : Int32} {p3 : Int32} (t1 : tg p1 = 8) {K : fS → Option (fS)} {r : fS} (hK : ∀ (Sk : fS), K Sk = some r → mr X 1 mY_X3_gatherSources 113 [] [] (MM RR Sk) (none, MM RR r)) : ∀ (n : Nat) (p4 : Int32) (S0 : fS), lp_X3_gatherSources_37 p1 p2 p3 K n p4 S0 = some r → mr X 1 mY_X3_gatherSources 37 [(0, .ref 45), (1, .ref p1), (2, .int p2), (3, .int p3), (4, .int p4)] [] (MM RR S0) (none, MM RR r) := by
  intro n
  induction n with
  | zero => intro p4 S0 h; exact mm_no h
  | succ n ih =>
    intro p4 S0 h
    unfold lp_X3_gatherSources_37 at h
    refine mr_iload (pc' := 39) dX3_gatherSources_37 rfl rfl ?_
    refine mr_aload_n (pc' := 40) dX3_gatherSources_39 rfl rfl ?_
    refine mr_getI (pc' := 43) (ci := 8) (j := 7) dX3_gatherSources_40 rfl rfl t1 (by decide) (by decide) rfl ?_
    by_cases c5 : (S0.1 p1 7) ≤ p4
    · rw [if_pos c5] at h
      refine mr_icmp_ge_t (t := 113) dX3_gatherSources_43 (by decide) c5 ?_
      exact mr_sub [] trivial rfl (hK _  h)
    · rw [if_neg c5] at h
      refine mr_icmp_ge_f (t := 113) (pc' := 46) dX3_gatherSources_43 (by decide) rfl c5 ?_
      refine mr_aload_n (pc' := 47) dX3_gatherSources_46 rfl rfl ?_
      refine mr_iload (pc' := 49) dX3_gatherSources_47 rfl rfl ?_
      refine mr_iload_n (pc' := 50) dX3_gatherSources_49 rfl rfl ?_
      obtain ⟨q6, g7, h8⟩ := Option.bind_eq_some_iff.mp h
      refine mr_cv (pc' := 53) (a := p1) (d1 := 0) dX3_gatherSources_50 rfl rfl rfl rfl rfl t1 (by decide) rfl (by decide) (ok_X8_otherEnd hR t1 g7) ?_
      show mr X _ _ 53 _ [.int q6] (MM RR S0) _
      refine mr_istore (pc' := 55) (lv' := [(5, .int q6), (0, .ref 45), (1, .ref p1), (2, .int p2), (3, .int p3), (4, .int p4)]) dX3_gatherSources_53 rfl (by decide) rfl ?_
      refine mr_aload_n (pc' := 56) dX3_gatherSources_55 rfl rfl ?_
      refine mr_getR (pc' := 59) (ci := 8) (j := 3) (b := (p1 + 4)) hR dX3_gatherSources_56 rfl rfl t1 (by decide) (by decide) (by decide) rfl (ly8_3 t1).1 ?_
      refine mr_iload (pc' := 61) dX3_gatherSources_59 rfl rfl ?_
      obtain ⟨a9, g10, h11⟩ := Option.bind_eq_some_iff.mp h8
      refine mr_iald (pc' := 62) dX3_gatherSources_61 rfl (ly8_3 t1).2.1 (ly8_3 t1).2.2 g10 ?_
      refine mr_istore (pc' := 64) (lv' := [(6, .int a9), (5, .int q6), (0, .ref 45), (1, .ref p1), (2, .int p2), (3, .int p3), (4, .int p4)]) dX3_gatherSources_62 rfl (by decide) rfl ?_
      refine mr_iload (pc' := 66) dX3_gatherSources_64 rfl rfl ?_
      by_cases c12 : q6 < (0 : Int32)
      · rw [if_pos c12] at h11
        refine mr_if_lt_t (t := 107) dX3_gatherSources_66 (by decide) c12 ?_
        refine mr_iinc (pc' := 110) (x' := (p4 + (1 : Int32))) (lv' := [(4, .int (p4 + (1 : Int32))), (6, .int a9), (5, .int q6), (0, .ref 45), (1, .ref p1), (2, .int p2), (3, .int p3)]) dX3_gatherSources_107 rfl (by decide) rfl rfl rfl ?_
        refine mr_goto (t := 37) dX3_gatherSources_110 (by decide) ?_
        exact mr_sub [(0, .ref 45), (1, .ref p1), (2, .int p2), (3, .int p3), (4, .int (p4 + (1 : Int32)))] ⟨rfl, rfl, rfl, rfl, rfl, trivial⟩ rfl (ih _ _  h11)
      · rw [if_neg c12] at h11
        refine mr_if_lt_f (t := 107) (pc' := 69) dX3_gatherSources_66 (by decide) rfl c12 ?_
        refine mr_iload (pc' := 71) dX3_gatherSources_69 rfl rfl ?_
        refine mr_iload_n (pc' := 72) dX3_gatherSources_71 rfl rfl ?_
        by_cases c13 : p2 < a9
        · rw [if_pos c13] at h11
          refine mr_icmp_gt_t (t := 107) dX3_gatherSources_72 (by decide) c13 ?_
          refine mr_iinc (pc' := 110) (x' := (p4 + (1 : Int32))) (lv' := [(4, .int (p4 + (1 : Int32))), (6, .int a9), (5, .int q6), (0, .ref 45), (1, .ref p1), (2, .int p2), (3, .int p3)]) dX3_gatherSources_107 rfl (by decide) rfl rfl rfl ?_
          refine mr_goto (t := 37) dX3_gatherSources_110 (by decide) ?_
          exact mr_sub [(0, .ref 45), (1, .ref p1), (2, .int p2), (3, .int p3), (4, .int (p4 + (1 : Int32)))] ⟨rfl, rfl, rfl, rfl, rfl, trivial⟩ rfl (ih _ _  h11)
        · rw [if_neg c13] at h11
          refine mr_icmp_gt_f (t := 107) (pc' := 75) dX3_gatherSources_72 (by decide) rfl c13 ?_
          refine mr_aload_n (pc' := 76) dX3_gatherSources_75 rfl rfl ?_
          refine mr_iload_n (pc' := 77) dX3_gatherSources_76 rfl rfl ?_
          refine mr_iload (pc' := 79) dX3_gatherSources_77 rfl rfl ?_
          refine mr_isub (pc' := 80) dX3_gatherSources_79 rfl ?_
          refine mr_aload_n (pc' := 81) dX3_gatherSources_80 rfl rfl ?_
          refine mr_getI (pc' := 84) (ci := 8) (j := 6) dX3_gatherSources_81 rfl rfl t1 (by decide) (by decide) rfl ?_
          refine mr_imul (pc' := 85) dX3_gatherSources_84 rfl ?_
          refine mr_iload (pc' := 87) dX3_gatherSources_85 rfl rfl ?_
          refine mr_iadd (pc' := 88) dX3_gatherSources_87 rfl ?_
          refine mr_iload (pc' := 90) dX3_gatherSources_88 rfl rfl ?_
          refine mr_i2l (pc' := 91) dX3_gatherSources_90 rfl ?_
          refine mr_aload_n (pc' := 92) dX3_gatherSources_91 rfl rfl ?_
          refine mr_getR (pc' := 95) (ci := 8) (j := 4) (b := (p1 + 5)) hR dX3_gatherSources_92 rfl rfl t1 (by decide) (by decide) (by decide) rfl (ly8_4 t1).1 ?_
          refine mr_iload (pc' := 97) dX3_gatherSources_95 rfl rfl ?_
          obtain ⟨a14, g15, h16⟩ := Option.bind_eq_some_iff.mp h11
          refine mr_lald (pc' := 98) dX3_gatherSources_97 rfl (ly8_4 t1).2.1 (ly8_4 t1).2.2 g15 ?_
          refine mr_lmul (pc' := 99) dX3_gatherSources_98 rfl ?_
          refine mr_iload (pc' := 101) dX3_gatherSources_99 rfl rfl ?_
          obtain ⟨q17, g18, h19⟩ := Option.bind_eq_some_iff.mp h16
          refine mr_cs (pc' := 104) (d1 := 0) dX3_gatherSources_101 rfl rfl rfl rfl (by decide) (Nat.le_of_ble_eq_true rfl) rfl rfl rfl (by decide) (ok_X3_stateOf hR  g18) ?_
          show mr X _ _ 104 _ [.long q17, .int (((p2 - a9) * (S0.1 p1 6)) + q6), .ref 45] (MM RR S0) _
          obtain ⟨q20, g21, h22⟩ := Option.bind_eq_some_iff.mp h19
          refine mr_cv (pc' := 107) (a := 45) (d1 := 0) dX3_gatherSources_104 rfl rfl rfl rfl rfl rfl (by decide) rfl (by decide) (ok_X3_addSource hR  g21) ?_
          show mr X _ _ 107 _ [] (MM RR q20) _
          refine mr_iinc (pc' := 110) (x' := (p4 + (1 : Int32))) (lv' := [(4, .int (p4 + (1 : Int32))), (6, .int a9), (5, .int q6), (0, .ref 45), (1, .ref p1), (2, .int p2), (3, .int p3)]) dX3_gatherSources_107 rfl (by decide) rfl rfl rfl ?_
          refine mr_goto (t := 37) dX3_gatherSources_110 (by decide) ?_
          exact mr_sub [(0, .ref 45), (1, .ref p1), (2, .int p2), (3, .int p3), (4, .int (p4 + (1 : Int32)))] ⟨rfl, rfl, rfl, rfl, rfl, trivial⟩ rfl (ih _ _  h22)
def f_X3_gatherSources (v1 : Nat) (v2 : Int32) (v3 : Int32) (S : fS) : Option (fS) :=
  (some (pI S 45 6 (0 : Int32))).bind fun S1 =>
  if v2 < (1 : Int32) then (lp_X3_gatherSources_37 v1 v2 v3 (fun S23 => some S23) FU (0 : Int32) S1) else
  ((gL S1 (v1 + 1) 10 v3).bind fun a25 =>
  (f_X3_stateOf a25 (0 : Int32) S1).bind fun q28 =>
  (f_X3_addSource (((v2 - (1 : Int32)) * (S1.1 v1 6)) + v3) q28 S1).bind fun q31 =>
  lp_X3_gatherSources_37 v1 v2 v3 (fun S34 => some S34) FU (0 : Int32) q31)
set_option maxHeartbeats 4000000 in
set_option maxRecDepth 100000 in
theorem ok_X3_gatherSources {X : mm_C} {RR : Nat → Nat → Option Nat} (hR : RRok RR) {v1 : Nat} {v2 : Int32} {v3 : Int32} (t1 : tg v1 = 8) {S : fS} {r : fS} (h : f_X3_gatherSources v1 v2 v3 S = some r) : mr X 1 mY_X3_gatherSources 0 (lv_args 0 [.ref 45, .ref v1, .int v2, .int v3]) [] (MM RR S) (none, MM RR r) := by
  unfold f_X3_gatherSources at h
  show mr X _ _ 0 [(0, .ref 45), (1, .ref v1), (2, .int v2), (3, .int v3)] [] (MM RR S) _
  refine mr_aload_n (pc' := 1) dX3_gatherSources_0 rfl rfl ?_
  refine mr_iconst (pc' := 2) (v := (0 : Int32)) dX3_gatherSources_1 rfl (by decide) ?_
  obtain ⟨S1, g2, h3⟩ := Option.bind_eq_some_iff.mp h
  refine mr_putI (pc' := 5) (ci := 3) (j := 6) dX3_gatherSources_2 rfl rfl rfl (by decide) (by decide) rfl rfl ?_
  rw [Option.some.inj g2]
  refine mr_iload_n (pc' := 6) dX3_gatherSources_5 rfl rfl ?_
  refine mr_iconst (pc' := 7) (v := (1 : Int32)) dX3_gatherSources_6 rfl (by decide) ?_
  by_cases c4 : v2 < (1 : Int32)
  · rw [if_pos c4] at h3
    refine mr_icmp_lt_t (t := 34) dX3_gatherSources_7 (by decide) c4 ?_
    refine mr_iconst (pc' := 35) (v := (0 : Int32)) dX3_gatherSources_34 rfl (by decide) ?_
    refine mr_istore (pc' := 37) (lv' := [(4, .int (0 : Int32)), (0, .ref 45), (1, .ref v1), (2, .int v2), (3, .int v3)]) dX3_gatherSources_35 rfl (by decide) rfl ?_
    refine mr_sub [(0, .ref 45), (1, .ref v1), (2, .int v2), (3, .int v3), (4, .int (0 : Int32))] ⟨rfl, rfl, rfl, rfl, rfl, trivial⟩ rfl ?_
    refine ok_lp_X3_gatherSources_37 hR t1 (fun S23 h24 => ?_) FU _ _  h3
    obtain rfl := Option.some.inj h24
    exact mr_return dX3_gatherSources_113 rfl
  · rw [if_neg c4] at h3
    refine mr_icmp_lt_f (t := 34) (pc' := 10) dX3_gatherSources_7 (by decide) rfl c4 ?_
    refine mr_aload_n (pc' := 11) dX3_gatherSources_10 rfl rfl ?_
    refine mr_iload_n (pc' := 12) dX3_gatherSources_11 rfl rfl ?_
    refine mr_iconst (pc' := 13) (v := (1 : Int32)) dX3_gatherSources_12 rfl (by decide) ?_
    refine mr_isub (pc' := 14) dX3_gatherSources_13 rfl ?_
    refine mr_aload_n (pc' := 15) dX3_gatherSources_14 rfl rfl ?_
    refine mr_getI (pc' := 18) (ci := 8) (j := 6) dX3_gatherSources_15 rfl rfl t1 (by decide) (by decide) rfl ?_
    refine mr_imul (pc' := 19) dX3_gatherSources_18 rfl ?_
    refine mr_iload_n (pc' := 20) dX3_gatherSources_19 rfl rfl ?_
    refine mr_iadd (pc' := 21) dX3_gatherSources_20 rfl ?_
    refine mr_aload_n (pc' := 22) dX3_gatherSources_21 rfl rfl ?_
    refine mr_getR (pc' := 25) (ci := 8) (j := 0) (b := (v1 + 1)) hR dX3_gatherSources_22 rfl rfl t1 (by decide) (by decide) (by decide) rfl (ly8_0 t1).1 ?_
    refine mr_iload_n (pc' := 26) dX3_gatherSources_25 rfl rfl ?_
    obtain ⟨a25, g26, h27⟩ := Option.bind_eq_some_iff.mp h3
    refine mr_lald (pc' := 27) dX3_gatherSources_26 rfl (ly8_0 t1).2.1 (ly8_0 t1).2.2 g26 ?_
    refine mr_iconst (pc' := 28) (v := (0 : Int32)) dX3_gatherSources_27 rfl (by decide) ?_
    obtain ⟨q28, g29, h30⟩ := Option.bind_eq_some_iff.mp h27
    refine mr_cs (pc' := 31) (d1 := 0) dX3_gatherSources_28 rfl rfl rfl rfl (by decide) (Nat.le_of_ble_eq_true rfl) rfl rfl rfl (by decide) (ok_X3_stateOf hR  g29) ?_
    show mr X _ _ 31 _ [.long q28, .int (((v2 - (1 : Int32)) * (S1.1 v1 6)) + v3), .ref 45] (MM RR S1) _
    obtain ⟨q31, g32, h33⟩ := Option.bind_eq_some_iff.mp h30
    refine mr_cv (pc' := 34) (a := 45) (d1 := 0) dX3_gatherSources_31 rfl rfl rfl rfl rfl rfl (by decide) rfl (by decide) (ok_X3_addSource hR  g32) ?_
    show mr X _ _ 34 _ [] (MM RR q31) _
    refine mr_iconst (pc' := 35) (v := (0 : Int32)) dX3_gatherSources_34 rfl (by decide) ?_
    refine mr_istore (pc' := 37) (lv' := [(4, .int (0 : Int32)), (0, .ref 45), (1, .ref v1), (2, .int v2), (3, .int v3)]) dX3_gatherSources_35 rfl (by decide) rfl ?_
    refine mr_sub [(0, .ref 45), (1, .ref v1), (2, .int v2), (3, .int v3), (4, .int (0 : Int32))] ⟨rfl, rfl, rfl, rfl, rfl, trivial⟩ rfl ?_
    refine ok_lp_X3_gatherSources_37 hR t1 (fun S34 h35 => ?_) FU _ _  h33
    obtain rfl := Option.some.inj h35
    exact mr_return dX3_gatherSources_113 rfl
def lp_X3_leastSource_7  (S : fS) (K : Int32 → Option (Int32)) : Nat → Int32 → Int64 → Int32 → Option (Int32)
  | 0, _, _, _ => none
  | n + 1, p1, p2, p4 =>
    if (S.1 45 6) ≤ p4 then (K p1) else
    ((gI S 48 13 p4).bind fun a2 =>
    (gI S 49 13 p4).bind fun a5 =>
    if a2 < a5 then ((gI S 48 13 p4).bind fun a9 =>
    (gL S 46 4000 a9).bind fun a12 =>
    (gL S 50 13 p4).bind fun a15 =>
    if p1 < (0 : Int32) then (lp_X3_leastSource_7  S K n p4 (a12 + a15) (p4 + (1 : Int32))) else
    (if p2 ≤ (a12 + a15) then (lp_X3_leastSource_7  S K n p1 p2 (p4 + (1 : Int32))) else
    (lp_X3_leastSource_7  S K n p4 (a12 + a15) (p4 + (1 : Int32))))) else
    (lp_X3_leastSource_7  S K n p1 p2 (p4 + (1 : Int32))))
set_option maxHeartbeats 4000000 in
set_option maxRecDepth 100000 in
theorem ok_lp_X3_leastSource_7 {X : mm_C} {RR : Nat → Nat → Option Nat} (hR : RRok RR)   {S : fS} {K : Int32 → Option (Int32)} {r : Int32} (hK : ∀ (k1 : Int32), K k1 = some r → mr X 0 mY_X3_leastSource 81 [(1, .int k1)] [] (MM RR S) (some (.int r), MM RR S)) : ∀ (n : Nat) (p1 : Int32) (p2 : Int64) (p4 : Int32), lp_X3_leastSource_7  S K n p1 p2 p4 = some r → mr X 0 mY_X3_leastSource 7 [(0, .ref 45), (1, .int p1), (2, .long p2), (4, .int p4)] [] (MM RR S) (some (.int r), MM RR S) := by
  intro n
  induction n with
  | zero => intro p1 p2 p4 h; exact mm_no h
  | succ n ih =>
    intro p1 p2 p4 h
    unfold lp_X3_leastSource_7 at h
    refine mr_iload (pc' := 9) dX3_leastSource_7 rfl rfl ?_
    refine mr_aload_n (pc' := 10) dX3_leastSource_9 rfl rfl ?_
    refine mr_getI (pc' := 13) (ci := 3) (j := 6) dX3_leastSource_10 rfl rfl rfl (by decide) (by decide) rfl ?_
    by_cases c1 : (S.1 45 6) ≤ p4
    · rw [if_pos c1] at h
      refine mr_icmp_ge_t (t := 81) dX3_leastSource_13 (by decide) c1 ?_
      exact mr_sub [(1, .int p1)] ⟨rfl, trivial⟩ rfl (hK _  h)
    · rw [if_neg c1] at h
      refine mr_icmp_ge_f (t := 81) (pc' := 16) dX3_leastSource_13 (by decide) rfl c1 ?_
      refine mr_aload_n (pc' := 17) dX3_leastSource_16 rfl rfl ?_
      refine mr_getR (pc' := 20) (ci := 3) (j := 2) (b := 48) hR dX3_leastSource_17 rfl rfl rfl (by decide) (by decide) (by decide) rfl rfl ?_
      refine mr_iload (pc' := 22) dX3_leastSource_20 rfl rfl ?_
      obtain ⟨a2, g3, h4⟩ := Option.bind_eq_some_iff.mp h
      refine mr_iald (pc' := 23) dX3_leastSource_22 rfl rfl rfl g3 ?_
      refine mr_aload_n (pc' := 24) dX3_leastSource_23 rfl rfl ?_
      refine mr_getR (pc' := 27) (ci := 3) (j := 3) (b := 49) hR dX3_leastSource_24 rfl rfl rfl (by decide) (by decide) (by decide) rfl rfl ?_
      refine mr_iload (pc' := 29) dX3_leastSource_27 rfl rfl ?_
      obtain ⟨a5, g6, h7⟩ := Option.bind_eq_some_iff.mp h4
      refine mr_iald (pc' := 30) dX3_leastSource_29 rfl rfl rfl g6 ?_
      by_cases c8 : a2 < a5
      · rw [if_pos c8] at h7
        refine mr_icmp_lt_t (t := 36) dX3_leastSource_30 (by decide) c8 ?_
        refine mr_aload_n (pc' := 37) dX3_leastSource_36 rfl rfl ?_
        refine mr_getR (pc' := 40) (ci := 3) (j := 0) (b := 46) hR dX3_leastSource_37 rfl rfl rfl (by decide) (by decide) (by decide) rfl rfl ?_
        refine mr_aload_n (pc' := 41) dX3_leastSource_40 rfl rfl ?_
        refine mr_getR (pc' := 44) (ci := 3) (j := 2) (b := 48) hR dX3_leastSource_41 rfl rfl rfl (by decide) (by decide) (by decide) rfl rfl ?_
        refine mr_iload (pc' := 46) dX3_leastSource_44 rfl rfl ?_
        obtain ⟨a9, g10, h11⟩ := Option.bind_eq_some_iff.mp h7
        refine mr_iald (pc' := 47) dX3_leastSource_46 rfl rfl rfl g10 ?_
        obtain ⟨a12, g13, h14⟩ := Option.bind_eq_some_iff.mp h11
        refine mr_lald (pc' := 48) dX3_leastSource_47 rfl rfl rfl g13 ?_
        refine mr_aload_n (pc' := 49) dX3_leastSource_48 rfl rfl ?_
        refine mr_getR (pc' := 52) (ci := 3) (j := 4) (b := 50) hR dX3_leastSource_49 rfl rfl rfl (by decide) (by decide) (by decide) rfl rfl ?_
        refine mr_iload (pc' := 54) dX3_leastSource_52 rfl rfl ?_
        obtain ⟨a15, g16, h17⟩ := Option.bind_eq_some_iff.mp h14
        refine mr_lald (pc' := 55) dX3_leastSource_54 rfl rfl rfl g16 ?_
        refine mr_ladd (pc' := 56) dX3_leastSource_55 rfl ?_
        refine mr_lstore (pc' := 58) (lv' := [(5, .long (a12 + a15)), (0, .ref 45), (1, .int p1), (2, .long p2), (4, .int p4)]) dX3_leastSource_56 rfl (by decide) rfl ?_
        refine mr_iload_n (pc' := 59) dX3_leastSource_58 rfl rfl ?_
        by_cases c18 : p1 < (0 : Int32)
        · rw [if_pos c18] at h17
          refine mr_if_lt_t (t := 69) dX3_leastSource_59 (by decide) c18 ?_
          refine mr_iload (pc' := 71) dX3_leastSource_69 rfl rfl ?_
          refine mr_istore_n (pc' := 72) (lv' := [(1, .int p4), (5, .long (a12 + a15)), (0, .ref 45), (2, .long p2), (4, .int p4)]) dX3_leastSource_71 rfl (by decide) rfl ?_
          refine mr_lload (pc' := 74) dX3_leastSource_72 rfl rfl ?_
          refine mr_lstore_n (pc' := 75) (lv' := [(2, .long (a12 + a15)), (1, .int p4), (5, .long (a12 + a15)), (0, .ref 45), (4, .int p4)]) dX3_leastSource_74 rfl (by decide) rfl ?_
          refine mr_iinc (pc' := 78) (x' := (p4 + (1 : Int32))) (lv' := [(4, .int (p4 + (1 : Int32))), (2, .long (a12 + a15)), (1, .int p4), (5, .long (a12 + a15)), (0, .ref 45)]) dX3_leastSource_75 rfl (by decide) rfl rfl rfl ?_
          refine mr_goto (t := 7) dX3_leastSource_78 (by decide) ?_
          exact mr_sub [(0, .ref 45), (1, .int p4), (2, .long (a12 + a15)), (4, .int (p4 + (1 : Int32)))] ⟨rfl, rfl, rfl, rfl, trivial⟩ rfl (ih _ _ _  h17)
        · rw [if_neg c18] at h17
          refine mr_if_lt_f (t := 69) (pc' := 62) dX3_leastSource_59 (by decide) rfl c18 ?_
          refine mr_lload (pc' := 64) dX3_leastSource_62 rfl rfl ?_
          refine mr_lload_n (pc' := 65) dX3_leastSource_64 rfl rfl ?_
          by_cases c19 : p2 ≤ (a12 + a15)
          · rw [if_pos c19] at h17
            refine mr_lcmp_ge_t (t := 75) dX3_leastSource_65 rfl dX3_leastSource_66 (by decide) c19 ?_
            refine mr_iinc (pc' := 78) (x' := (p4 + (1 : Int32))) (lv' := [(4, .int (p4 + (1 : Int32))), (5, .long (a12 + a15)), (0, .ref 45), (1, .int p1), (2, .long p2)]) dX3_leastSource_75 rfl (by decide) rfl rfl rfl ?_
            refine mr_goto (t := 7) dX3_leastSource_78 (by decide) ?_
            exact mr_sub [(0, .ref 45), (1, .int p1), (2, .long p2), (4, .int (p4 + (1 : Int32)))] ⟨rfl, rfl, rfl, rfl, trivial⟩ rfl (ih _ _ _  h17)
          · rw [if_neg c19] at h17
            refine mr_lcmp_ge_f (t := 75) (pc' := 69) dX3_leastSource_65 rfl dX3_leastSource_66 (by decide) rfl c19 ?_
            refine mr_iload (pc' := 71) dX3_leastSource_69 rfl rfl ?_
            refine mr_istore_n (pc' := 72) (lv' := [(1, .int p4), (5, .long (a12 + a15)), (0, .ref 45), (2, .long p2), (4, .int p4)]) dX3_leastSource_71 rfl (by decide) rfl ?_
            refine mr_lload (pc' := 74) dX3_leastSource_72 rfl rfl ?_
            refine mr_lstore_n (pc' := 75) (lv' := [(2, .long (a12 + a15)), (1, .int p4), (5, .long (a12 + a15)), (0, .ref 45), (4, .int p4)]) dX3_leastSource_74 rfl (by decide) rfl ?_
            refine mr_iinc (pc' := 78) (x' := (p4 + (1 : Int32))) (lv' := [(4, .int (p4 + (1 : Int32))), (2, .long (a12 + a15)), (1, .int p4), (5, .long (a12 + a15)), (0, .ref 45)]) dX3_leastSource_75 rfl (by decide) rfl rfl rfl ?_
            refine mr_goto (t := 7) dX3_leastSource_78 (by decide) ?_
            exact mr_sub [(0, .ref 45), (1, .int p4), (2, .long (a12 + a15)), (4, .int (p4 + (1 : Int32)))] ⟨rfl, rfl, rfl, rfl, trivial⟩ rfl (ih _ _ _  h17)
      · rw [if_neg c8] at h7
        refine mr_icmp_lt_f (t := 36) (pc' := 33) dX3_leastSource_30 (by decide) rfl c8 ?_
        refine mr_goto (t := 75) dX3_leastSource_33 (by decide) ?_
        refine mr_iinc (pc' := 78) (x' := (p4 + (1 : Int32))) (lv' := [(4, .int (p4 + (1 : Int32))), (0, .ref 45), (1, .int p1), (2, .long p2)]) dX3_leastSource_75 rfl (by decide) rfl rfl rfl ?_
        refine mr_goto (t := 7) dX3_leastSource_78 (by decide) ?_
        exact mr_sub [(0, .ref 45), (1, .int p1), (2, .long p2), (4, .int (p4 + (1 : Int32)))] ⟨rfl, rfl, rfl, rfl, trivial⟩ rfl (ih _ _ _  h7)
def f_X3_leastSource  (S : fS) : Option (Int32) :=
  lp_X3_leastSource_7  S (fun u20 => some u20) FU (-1 : Int32) (0 : Int64) (0 : Int32)
set_option maxHeartbeats 4000000 in
set_option maxRecDepth 100000 in
theorem ok_X3_leastSource {X : mm_C} {RR : Nat → Nat → Option Nat} (hR : RRok RR)   {S : fS} {r : Int32} (h : f_X3_leastSource  S = some r) : mr X 0 mY_X3_leastSource 0 (lv_args 0 [.ref 45]) [] (MM RR S) (some (.int r), MM RR S) := by
  unfold f_X3_leastSource at h
  show mr X _ _ 0 [(0, .ref 45)] [] (MM RR S) _
  refine mr_iconst (pc' := 1) (v := (-1 : Int32)) dX3_leastSource_0 rfl (by decide) ?_
  refine mr_istore_n (pc' := 2) (lv' := [(1, .int (-1 : Int32)), (0, .ref 45)]) dX3_leastSource_1 rfl (by decide) rfl ?_
  refine mr_lconst (pc' := 3) (v := (0 : Int64)) dX3_leastSource_2 rfl (by decide) ?_
  refine mr_lstore_n (pc' := 4) (lv' := [(2, .long (0 : Int64)), (1, .int (-1 : Int32)), (0, .ref 45)]) dX3_leastSource_3 rfl (by decide) rfl ?_
  refine mr_iconst (pc' := 5) (v := (0 : Int32)) dX3_leastSource_4 rfl (by decide) ?_
  refine mr_istore (pc' := 7) (lv' := [(4, .int (0 : Int32)), (2, .long (0 : Int64)), (1, .int (-1 : Int32)), (0, .ref 45)]) dX3_leastSource_5 rfl (by decide) rfl ?_
  refine mr_sub [(0, .ref 45), (1, .int (-1 : Int32)), (2, .long (0 : Int64)), (4, .int (0 : Int32))] ⟨rfl, rfl, rfl, rfl, trivial⟩ rfl ?_
  refine ok_lp_X3_leastSource_7 hR  (fun u20 h21 => ?_) FU _ _ _  h
  refine mr_iload_n (pc' := 82) dX3_leastSource_81 rfl rfl ?_
  obtain rfl := Option.some.inj h21
  exact mr_ireturn dX3_leastSource_82 rfl
def lp_X3_merge_2 (p1 : Int32) (K : fS → Option (Int32 × fS)) : Nat → Int32 → fS → Option (Int32 × fS)
  | 0, _, _ => none
  | n + 1, p2, S0 =>
    if (52000 : Int32) < p2 then (K S0) else
    ((f_X3_leastSource  S0).bind fun q2 =>
    if (0 : Int32) ≤ q2 then ((gI S0 48 13 q2).bind fun a6 =>
    (gI S0 48 13 q2).bind fun a9 =>
    (sI S0 48 13 q2 (a9 + (1 : Int32))).bind fun S12 =>
    (gL S12 46 4000 a6).bind fun a15 =>
    (gL S12 50 13 q2).bind fun a18 =>
    (f_X3_keep p1 (a15 + a18) S12).bind fun q21 =>
    if q21.1 = (0 : Int32) then (some ((0 : Int32), q21.2)) else
    (lp_X3_merge_2 p1 K n (p2 + (1 : Int32)) q21.2)) else
    (some ((1 : Int32), S0)))
set_option maxHeartbeats 4000000 in
set_option maxRecDepth 100000 in
theorem ok_lp_X3_merge_2 {X : mm_C} {RR : Nat → Nat → Option Nat} (hR : RRok RR) {p1 : Int32}  {K : fS → Option (Int32 × fS)} {r : Int32 × fS} (hK : ∀ (Sk : fS), K Sk = some r → mr X 2 mY_X3_merge 67 [] [] (MM RR Sk) (some (.int r.1), MM RR r.2)) : ∀ (n : Nat) (p2 : Int32) (S0 : fS), lp_X3_merge_2 p1 K n p2 S0 = some r → mr X 2 mY_X3_merge 2 [(0, .ref 45), (1, .int p1), (2, .int p2)] [] (MM RR S0) (some (.int r.1), MM RR r.2) := by
  intro n
  induction n with
  | zero => intro p2 S0 h; exact mm_no h
  | succ n ih =>
    intro p2 S0 h
    unfold lp_X3_merge_2 at h
    refine mr_iload_n (pc' := 3) dX3_merge_2 rfl rfl ?_
    refine mr_ldc (pc' := 5) (v := (52000 : Int32)) dX3_merge_3 rfl rfl ?_
    by_cases c1 : (52000 : Int32) < p2
    · rw [if_pos c1] at h
      refine mr_icmp_gt_t (t := 67) dX3_merge_5 (by decide) c1 ?_
      exact mr_sub [] trivial rfl (hK _  h)
    · rw [if_neg c1] at h
      refine mr_icmp_gt_f (t := 67) (pc' := 8) dX3_merge_5 (by decide) rfl c1 ?_
      refine mr_aload_n (pc' := 9) dX3_merge_8 rfl rfl ?_
      obtain ⟨q2, g3, h4⟩ := Option.bind_eq_some_iff.mp h
      refine mr_cv (pc' := 12) (a := 45) (d1 := 0) dX3_merge_9 rfl rfl rfl rfl rfl rfl (by decide) rfl (by decide) (ok_X3_leastSource hR  g3) ?_
      show mr X _ _ 12 _ [.int q2] (MM RR S0) _
      refine mr_istore_n (pc' := 13) (lv' := [(3, .int q2), (0, .ref 45), (1, .int p1), (2, .int p2)]) dX3_merge_12 rfl (by decide) rfl ?_
      refine mr_iload_n (pc' := 14) dX3_merge_13 rfl rfl ?_
      by_cases c5 : (0 : Int32) ≤ q2
      · rw [if_pos c5] at h4
        refine mr_if_ge_t (t := 19) dX3_merge_14 (by decide) c5 ?_
        refine mr_aload_n (pc' := 20) dX3_merge_19 rfl rfl ?_
        refine mr_getR (pc' := 23) (ci := 3) (j := 2) (b := 48) hR dX3_merge_20 rfl rfl rfl (by decide) (by decide) (by decide) rfl rfl ?_
        refine mr_iload_n (pc' := 24) dX3_merge_23 rfl rfl ?_
        obtain ⟨a6, g7, h8⟩ := Option.bind_eq_some_iff.mp h4
        refine mr_iald (pc' := 25) dX3_merge_24 rfl rfl rfl g7 ?_
        refine mr_istore (pc' := 27) (lv' := [(4, .int a6), (3, .int q2), (0, .ref 45), (1, .int p1), (2, .int p2)]) dX3_merge_25 rfl (by decide) rfl ?_
        refine mr_aload_n (pc' := 28) dX3_merge_27 rfl rfl ?_
        refine mr_getR (pc' := 31) (ci := 3) (j := 2) (b := 48) hR dX3_merge_28 rfl rfl rfl (by decide) (by decide) (by decide) rfl rfl ?_
        refine mr_iload_n (pc' := 32) dX3_merge_31 rfl rfl ?_
        refine mr_dup2 (pc' := 33) dX3_merge_32 rfl ?_
        obtain ⟨a9, g10, h11⟩ := Option.bind_eq_some_iff.mp h8
        refine mr_iald (pc' := 34) dX3_merge_33 rfl rfl rfl g10 ?_
        refine mr_iconst (pc' := 35) (v := (1 : Int32)) dX3_merge_34 rfl (by decide) ?_
        refine mr_iadd (pc' := 36) dX3_merge_35 rfl ?_
        obtain ⟨S12, g13, h14⟩ := Option.bind_eq_some_iff.mp h11
        refine mr_iast (pc' := 37) dX3_merge_36 rfl rfl rfl g13 ?_
        refine mr_aload_n (pc' := 38) dX3_merge_37 rfl rfl ?_
        refine mr_iload_n (pc' := 39) dX3_merge_38 rfl rfl ?_
        refine mr_aload_n (pc' := 40) dX3_merge_39 rfl rfl ?_
        refine mr_getR (pc' := 43) (ci := 3) (j := 0) (b := 46) hR dX3_merge_40 rfl rfl rfl (by decide) (by decide) (by decide) rfl rfl ?_
        refine mr_iload (pc' := 45) dX3_merge_43 rfl rfl ?_
        obtain ⟨a15, g16, h17⟩ := Option.bind_eq_some_iff.mp h14
        refine mr_lald (pc' := 46) dX3_merge_45 rfl rfl rfl g16 ?_
        refine mr_aload_n (pc' := 47) dX3_merge_46 rfl rfl ?_
        refine mr_getR (pc' := 50) (ci := 3) (j := 4) (b := 50) hR dX3_merge_47 rfl rfl rfl (by decide) (by decide) (by decide) rfl rfl ?_
        refine mr_iload_n (pc' := 51) dX3_merge_50 rfl rfl ?_
        obtain ⟨a18, g19, h20⟩ := Option.bind_eq_some_iff.mp h17
        refine mr_lald (pc' := 52) dX3_merge_51 rfl rfl rfl g19 ?_
        refine mr_ladd (pc' := 53) dX3_merge_52 rfl ?_
        obtain ⟨q21, g22, h23⟩ := Option.bind_eq_some_iff.mp h20
        refine mr_cv (pc' := 56) (a := 45) (d1 := 1) dX3_merge_53 rfl rfl rfl rfl rfl rfl (by decide) rfl (by decide) (ok_X3_keep hR  g22) ?_
        show mr X _ _ 56 _ [.int q21.1] (MM RR q21.2) _
        by_cases c24 : q21.1 = (0 : Int32)
        · rw [if_pos c24] at h23
          refine mr_if_ne_f (t := 61) (pc' := 59) dX3_merge_56 (by decide) rfl (not_not_intro c24) ?_
          refine mr_iconst (pc' := 60) (v := (0 : Int32)) dX3_merge_59 rfl (by decide) ?_
          obtain rfl := Option.some.inj h23
          exact mr_zreturn dX3_merge_60 rfl (by decide)
        · rw [if_neg c24] at h23
          refine mr_if_ne_t (t := 61) dX3_merge_56 (by decide) c24 ?_
          refine mr_iinc (pc' := 64) (x' := (p2 + (1 : Int32))) (lv' := [(2, .int (p2 + (1 : Int32))), (4, .int a6), (3, .int q2), (0, .ref 45), (1, .int p1)]) dX3_merge_61 rfl (by decide) rfl rfl rfl ?_
          refine mr_goto (t := 2) dX3_merge_64 (by decide) ?_
          exact mr_sub [(0, .ref 45), (1, .int p1), (2, .int (p2 + (1 : Int32)))] ⟨rfl, rfl, rfl, trivial⟩ rfl (ih _ _  h23)
      · rw [if_neg c5] at h4
        refine mr_if_ge_f (t := 19) (pc' := 17) dX3_merge_14 (by decide) rfl c5 ?_
        refine mr_iconst (pc' := 18) (v := (1 : Int32)) dX3_merge_17 rfl (by decide) ?_
        obtain rfl := Option.some.inj h4
        exact mr_zreturn dX3_merge_18 rfl (by decide)
def f_X3_merge (v1 : Int32) (S : fS) : Option (Int32 × fS) :=
  lp_X3_merge_2 v1 (fun S25 => some ((0 : Int32), S25)) FU (0 : Int32) S
set_option maxHeartbeats 4000000 in
set_option maxRecDepth 100000 in
theorem ok_X3_merge {X : mm_C} {RR : Nat → Nat → Option Nat} (hR : RRok RR) {v1 : Int32}  {S : fS} {r : Int32 × fS} (h : f_X3_merge v1 S = some r) : mr X 2 mY_X3_merge 0 (lv_args 0 [.ref 45, .int v1]) [] (MM RR S) (some (.int r.1), MM RR r.2) := by
  unfold f_X3_merge at h
  show mr X _ _ 0 [(0, .ref 45), (1, .int v1)] [] (MM RR S) _
  refine mr_iconst (pc' := 1) (v := (0 : Int32)) dX3_merge_0 rfl (by decide) ?_
  refine mr_istore_n (pc' := 2) (lv' := [(2, .int (0 : Int32)), (0, .ref 45), (1, .int v1)]) dX3_merge_1 rfl (by decide) rfl ?_
  refine mr_sub [(0, .ref 45), (1, .int v1), (2, .int (0 : Int32))] ⟨rfl, rfl, rfl, trivial⟩ rfl ?_
  refine ok_lp_X3_merge_2 hR  (fun S25 h26 => ?_) FU _ _  h
  refine mr_iconst (pc' := 68) (v := (0 : Int32)) dX3_merge_67 rfl (by decide) ?_
  obtain rfl := Option.some.inj h26
  exact mr_zreturn dX3_merge_68 rfl (by decide)
def lp_X3_spread_24 (p1 : Nat) (p2 : Int32) (p3 : Int32) (p4 : Int32) (K : fS → Option (Int32 × fS)) : Nat → Int32 → fS → Option (Int32 × fS)
  | 0, _, _ => none
  | n + 1, p5, S0 =>
    if (S0.1 p1 6) ≤ p5 then (K S0) else
    ((sI S0 47 171 ((p4 * (S0.1 p1 6)) + p5) (S0.1 45 5)).bind fun S7 =>
    if (0 : Int32) < p4 then ((f_X3_gatherSources p1 p4 p5 S7).bind fun q11 =>
    if (1 : Int32) = (0 : Int32) then (some ((0 : Int32), q11)) else
    ((f_X3_merge (S0.1 45 5) q11).bind fun q15 =>
    if q15.1 = (0 : Int32) then (some ((0 : Int32), q15.2)) else
    ((sI q15.2 47 171 (((p4 * (q15.2.1 p1 6)) + p5) + (1 : Int32)) (q15.2.1 45 5)).bind fun S19 =>
    lp_X3_spread_24 p1 p2 p3 p4 K n (p5 + (1 : Int32)) S19))) else
    (if p5 = p2 then ((f_X3_stateOf (0 : Int64) (0 : Int32) S7).bind fun q34 =>
    (f_X3_keep (S0.1 45 5) q34 S7).bind fun q37 =>
    if q37.1 = (0 : Int32) then ((f_X3_gatherSources p1 p4 p5 q37.2).bind fun q41 =>
    if (0 : Int32) = (0 : Int32) then (some ((0 : Int32), q41)) else
    ((f_X3_merge (S0.1 45 5) q41).bind fun q45 =>
    if q45.1 = (0 : Int32) then (some ((0 : Int32), q45.2)) else
    ((sI q45.2 47 171 (((p4 * (q45.2.1 p1 6)) + p5) + (1 : Int32)) (q45.2.1 45 5)).bind fun S49 =>
    lp_X3_spread_24 p1 p2 p3 p4 K n (p5 + (1 : Int32)) S49))) else
    ((f_X3_gatherSources p1 p4 p5 q37.2).bind fun q52 =>
    if (1 : Int32) = (0 : Int32) then (some ((0 : Int32), q52)) else
    ((f_X3_merge (S0.1 45 5) q52).bind fun q56 =>
    if q56.1 = (0 : Int32) then (some ((0 : Int32), q56.2)) else
    ((sI q56.2 47 171 (((p4 * (q56.2.1 p1 6)) + p5) + (1 : Int32)) (q56.2.1 45 5)).bind fun S60 =>
    lp_X3_spread_24 p1 p2 p3 p4 K n (p5 + (1 : Int32)) S60)))) else
    ((f_X3_gatherSources p1 p4 p5 S7).bind fun q23 =>
    if (1 : Int32) = (0 : Int32) then (some ((0 : Int32), q23)) else
    ((f_X3_merge (S0.1 45 5) q23).bind fun q27 =>
    if q27.1 = (0 : Int32) then (some ((0 : Int32), q27.2)) else
    ((sI q27.2 47 171 (((p4 * (q27.2.1 p1 6)) + p5) + (1 : Int32)) (q27.2.1 45 5)).bind fun S31 =>
    lp_X3_spread_24 p1 p2 p3 p4 K n (p5 + (1 : Int32)) S31)))))
set_option maxHeartbeats 4000000 in
set_option maxRecDepth 100000 in
theorem ok_lp_X3_spread_24 {X : mm_C} {RR : Nat → Nat → Option Nat} (hR : RRok RR) {p1 : Nat} {p2 : Int32} {p3 : Int32} {p4 : Int32} (t1 : tg p1 = 8) {K : fS → Option (Int32 × fS)} {r : Int32 × fS} (hK : ∀ (Sk : fS), K Sk = some r → mr X 3 mY_X3_spread 140 [(0, .ref 45), (1, .ref p1), (2, .int p2), (3, .int p3), (4, .int p4)] [] (MM RR Sk) (some (.int r.1), MM RR r.2)) : ∀ (n : Nat) (p5 : Int32) (S0 : fS), lp_X3_spread_24 p1 p2 p3 p4 K n p5 S0 = some r → mr X 3 mY_X3_spread 24 [(0, .ref 45), (1, .ref p1), (2, .int p2), (3, .int p3), (4, .int p4), (5, .int p5)] [] (MM RR S0) (some (.int r.1), MM RR r.2) := by
  intro n
  induction n with
  | zero => intro p5 S0 h; exact mm_no h
  | succ n ih =>
    intro p5 S0 h
    unfold lp_X3_spread_24 at h
    refine mr_iload (pc' := 26) dX3_spread_24 rfl rfl ?_
    refine mr_aload_n (pc' := 27) dX3_spread_26 rfl rfl ?_
    refine mr_getI (pc' := 30) (ci := 8) (j := 6) dX3_spread_27 rfl rfl t1 (by decide) (by decide) rfl ?_
    by_cases c6 : (S0.1 p1 6) ≤ p5
    · rw [if_pos c6] at h
      refine mr_icmp_ge_t (t := 140) dX3_spread_30 (by decide) c6 ?_
      exact mr_sub [(0, .ref 45), (1, .ref p1), (2, .int p2), (3, .int p3), (4, .int p4)] ⟨rfl, rfl, rfl, rfl, rfl, trivial⟩ rfl (hK _  h)
    · rw [if_neg c6] at h
      refine mr_icmp_ge_f (t := 140) (pc' := 33) dX3_spread_30 (by decide) rfl c6 ?_
      refine mr_aload_n (pc' := 34) dX3_spread_33 rfl rfl ?_
      refine mr_getI (pc' := 37) (ci := 3) (j := 5) dX3_spread_34 rfl rfl rfl (by decide) (by decide) rfl ?_
      refine mr_istore (pc' := 39) (lv' := [(6, .int (S0.1 45 5)), (0, .ref 45), (1, .ref p1), (2, .int p2), (3, .int p3), (4, .int p4), (5, .int p5)]) dX3_spread_37 rfl (by decide) rfl ?_
      refine mr_aload_n (pc' := 40) dX3_spread_39 rfl rfl ?_
      refine mr_getR (pc' := 43) (ci := 3) (j := 1) (b := 47) hR dX3_spread_40 rfl rfl rfl (by decide) (by decide) (by decide) rfl rfl ?_
      refine mr_iload (pc' := 45) dX3_spread_43 rfl rfl ?_
      refine mr_aload_n (pc' := 46) dX3_spread_45 rfl rfl ?_
      refine mr_getI (pc' := 49) (ci := 8) (j := 6) dX3_spread_46 rfl rfl t1 (by decide) (by decide) rfl ?_
      refine mr_imul (pc' := 50) dX3_spread_49 rfl ?_
      refine mr_iload (pc' := 52) dX3_spread_50 rfl rfl ?_
      refine mr_iadd (pc' := 53) dX3_spread_52 rfl ?_
      refine mr_iload (pc' := 55) dX3_spread_53 rfl rfl ?_
      obtain ⟨S7, g8, h9⟩ := Option.bind_eq_some_iff.mp h
      refine mr_iast (pc' := 56) dX3_spread_55 rfl rfl rfl g8 ?_
      refine mr_iload (pc' := 58) dX3_spread_56 rfl rfl ?_
      by_cases c10 : (0 : Int32) < p4
      · rw [if_pos c10] at h9
        refine mr_if_gt_t (t := 81) dX3_spread_58 (by decide) c10 ?_
        refine mr_iconst (pc' := 82) (v := (1 : Int32)) dX3_spread_81 rfl (by decide) ?_
        refine mr_goto (t := 86) dX3_spread_82 (by decide) ?_
        refine mr_istore (pc' := 88) (lv' := [(7, .int (1 : Int32)), (6, .int (S0.1 45 5)), (0, .ref 45), (1, .ref p1), (2, .int p2), (3, .int p3), (4, .int p4), (5, .int p5)]) dX3_spread_86 rfl (by decide) rfl ?_
        refine mr_aload_n (pc' := 89) dX3_spread_88 rfl rfl ?_
        refine mr_aload_n (pc' := 90) dX3_spread_89 rfl rfl ?_
        refine mr_iload (pc' := 92) dX3_spread_90 rfl rfl ?_
        refine mr_iload (pc' := 94) dX3_spread_92 rfl rfl ?_
        obtain ⟨q11, g12, h13⟩ := Option.bind_eq_some_iff.mp h9
        refine mr_cv (pc' := 97) (a := 45) (d1 := 1) dX3_spread_94 rfl rfl rfl rfl rfl rfl (by decide) rfl (by decide) (ok_X3_gatherSources hR t1 g12) ?_
        show mr X _ _ 97 _ [] (MM RR q11) _
        refine mr_iload (pc' := 99) dX3_spread_97 rfl rfl ?_
        by_cases c14 : (1 : Int32) = (0 : Int32)
        · rw [if_pos c14] at h13
          refine mr_if_eq_t (t := 111) dX3_spread_99 (by decide) c14 ?_
          refine mr_iconst (pc' := 112) (v := (0 : Int32)) dX3_spread_111 rfl (by decide) ?_
          obtain rfl := Option.some.inj h13
          exact mr_zreturn dX3_spread_112 rfl (by decide)
        · rw [if_neg c14] at h13
          refine mr_if_eq_f (t := 111) (pc' := 102) dX3_spread_99 (by decide) rfl c14 ?_
          refine mr_aload_n (pc' := 103) dX3_spread_102 rfl rfl ?_
          refine mr_iload (pc' := 105) dX3_spread_103 rfl rfl ?_
          obtain ⟨q15, g16, h17⟩ := Option.bind_eq_some_iff.mp h13
          refine mr_cv (pc' := 108) (a := 45) (d1 := 2) dX3_spread_105 rfl rfl rfl rfl rfl rfl (by decide) rfl (by decide) (ok_X3_merge hR  g16) ?_
          show mr X _ _ 108 _ [.int q15.1] (MM RR q15.2) _
          by_cases c18 : q15.1 = (0 : Int32)
          · rw [if_pos c18] at h17
            refine mr_if_ne_f (t := 113) (pc' := 111) dX3_spread_108 (by decide) rfl (not_not_intro c18) ?_
            refine mr_iconst (pc' := 112) (v := (0 : Int32)) dX3_spread_111 rfl (by decide) ?_
            obtain rfl := Option.some.inj h17
            exact mr_zreturn dX3_spread_112 rfl (by decide)
          · rw [if_neg c18] at h17
            refine mr_if_ne_t (t := 113) dX3_spread_108 (by decide) c18 ?_
            refine mr_aload_n (pc' := 114) dX3_spread_113 rfl rfl ?_
            refine mr_getR (pc' := 117) (ci := 3) (j := 1) (b := 47) hR dX3_spread_114 rfl rfl rfl (by decide) (by decide) (by decide) rfl rfl ?_
            refine mr_iload (pc' := 119) dX3_spread_117 rfl rfl ?_
            refine mr_aload_n (pc' := 120) dX3_spread_119 rfl rfl ?_
            refine mr_getI (pc' := 123) (ci := 8) (j := 6) dX3_spread_120 rfl rfl t1 (by decide) (by decide) rfl ?_
            refine mr_imul (pc' := 124) dX3_spread_123 rfl ?_
            refine mr_iload (pc' := 126) dX3_spread_124 rfl rfl ?_
            refine mr_iadd (pc' := 127) dX3_spread_126 rfl ?_
            refine mr_iconst (pc' := 128) (v := (1 : Int32)) dX3_spread_127 rfl (by decide) ?_
            refine mr_iadd (pc' := 129) dX3_spread_128 rfl ?_
            refine mr_aload_n (pc' := 130) dX3_spread_129 rfl rfl ?_
            refine mr_getI (pc' := 133) (ci := 3) (j := 5) dX3_spread_130 rfl rfl rfl (by decide) (by decide) rfl ?_
            obtain ⟨S19, g20, h21⟩ := Option.bind_eq_some_iff.mp h17
            refine mr_iast (pc' := 134) dX3_spread_133 rfl rfl rfl g20 ?_
            refine mr_iinc (pc' := 137) (x' := (p5 + (1 : Int32))) (lv' := [(5, .int (p5 + (1 : Int32))), (7, .int (1 : Int32)), (6, .int (S0.1 45 5)), (0, .ref 45), (1, .ref p1), (2, .int p2), (3, .int p3), (4, .int p4)]) dX3_spread_134 rfl (by decide) rfl rfl rfl ?_
            refine mr_goto (t := 24) dX3_spread_137 (by decide) ?_
            exact mr_sub [(0, .ref 45), (1, .ref p1), (2, .int p2), (3, .int p3), (4, .int p4), (5, .int (p5 + (1 : Int32)))] ⟨rfl, rfl, rfl, rfl, rfl, rfl, trivial⟩ rfl (ih _ _  h21)
      · rw [if_neg c10] at h9
        refine mr_if_gt_f (t := 81) (pc' := 61) dX3_spread_58 (by decide) rfl c10 ?_
        refine mr_iload (pc' := 63) dX3_spread_61 rfl rfl ?_
        refine mr_iload_n (pc' := 64) dX3_spread_63 rfl rfl ?_
        by_cases c22 : p5 = p2
        · rw [if_pos c22] at h9
          refine mr_icmp_ne_f (t := 81) (pc' := 67) dX3_spread_64 (by decide) rfl (not_not_intro c22) ?_
          refine mr_aload_n (pc' := 68) dX3_spread_67 rfl rfl ?_
          refine mr_iload (pc' := 70) dX3_spread_68 rfl rfl ?_
          refine mr_lconst (pc' := 71) (v := (0 : Int64)) dX3_spread_70 rfl (by decide) ?_
          refine mr_iconst (pc' := 72) (v := (0 : Int32)) dX3_spread_71 rfl (by decide) ?_
          obtain ⟨q34, g35, h36⟩ := Option.bind_eq_some_iff.mp h9
          refine mr_cs (pc' := 75) (d1 := 0) dX3_spread_72 rfl rfl rfl rfl (by decide) (Nat.le_of_ble_eq_true rfl) rfl rfl rfl (by decide) (ok_X3_stateOf hR  g35) ?_
          show mr X _ _ 75 _ [.long q34, .int (S0.1 45 5), .ref 45] (MM RR S7) _
          obtain ⟨q37, g38, h39⟩ := Option.bind_eq_some_iff.mp h36
          refine mr_cv (pc' := 78) (a := 45) (d1 := 1) dX3_spread_75 rfl rfl rfl rfl rfl rfl (by decide) rfl (by decide) (ok_X3_keep hR  g38) ?_
          show mr X _ _ 78 _ [.int q37.1] (MM RR q37.2) _
          by_cases c40 : q37.1 = (0 : Int32)
          · rw [if_pos c40] at h39
            refine mr_if_eq_t (t := 85) dX3_spread_78 (by decide) c40 ?_
            refine mr_iconst (pc' := 86) (v := (0 : Int32)) dX3_spread_85 rfl (by decide) ?_
            refine mr_istore (pc' := 88) (lv' := [(7, .int (0 : Int32)), (6, .int (S0.1 45 5)), (0, .ref 45), (1, .ref p1), (2, .int p2), (3, .int p3), (4, .int p4), (5, .int p5)]) dX3_spread_86 rfl (by decide) rfl ?_
            refine mr_aload_n (pc' := 89) dX3_spread_88 rfl rfl ?_
            refine mr_aload_n (pc' := 90) dX3_spread_89 rfl rfl ?_
            refine mr_iload (pc' := 92) dX3_spread_90 rfl rfl ?_
            refine mr_iload (pc' := 94) dX3_spread_92 rfl rfl ?_
            obtain ⟨q41, g42, h43⟩ := Option.bind_eq_some_iff.mp h39
            refine mr_cv (pc' := 97) (a := 45) (d1 := 1) dX3_spread_94 rfl rfl rfl rfl rfl rfl (by decide) rfl (by decide) (ok_X3_gatherSources hR t1 g42) ?_
            show mr X _ _ 97 _ [] (MM RR q41) _
            refine mr_iload (pc' := 99) dX3_spread_97 rfl rfl ?_
            by_cases c44 : (0 : Int32) = (0 : Int32)
            · rw [if_pos c44] at h43
              refine mr_if_eq_t (t := 111) dX3_spread_99 (by decide) c44 ?_
              refine mr_iconst (pc' := 112) (v := (0 : Int32)) dX3_spread_111 rfl (by decide) ?_
              obtain rfl := Option.some.inj h43
              exact mr_zreturn dX3_spread_112 rfl (by decide)
            · rw [if_neg c44] at h43
              refine mr_if_eq_f (t := 111) (pc' := 102) dX3_spread_99 (by decide) rfl c44 ?_
              refine mr_aload_n (pc' := 103) dX3_spread_102 rfl rfl ?_
              refine mr_iload (pc' := 105) dX3_spread_103 rfl rfl ?_
              obtain ⟨q45, g46, h47⟩ := Option.bind_eq_some_iff.mp h43
              refine mr_cv (pc' := 108) (a := 45) (d1 := 2) dX3_spread_105 rfl rfl rfl rfl rfl rfl (by decide) rfl (by decide) (ok_X3_merge hR  g46) ?_
              show mr X _ _ 108 _ [.int q45.1] (MM RR q45.2) _
              by_cases c48 : q45.1 = (0 : Int32)
              · rw [if_pos c48] at h47
                refine mr_if_ne_f (t := 113) (pc' := 111) dX3_spread_108 (by decide) rfl (not_not_intro c48) ?_
                refine mr_iconst (pc' := 112) (v := (0 : Int32)) dX3_spread_111 rfl (by decide) ?_
                obtain rfl := Option.some.inj h47
                exact mr_zreturn dX3_spread_112 rfl (by decide)
              · rw [if_neg c48] at h47
                refine mr_if_ne_t (t := 113) dX3_spread_108 (by decide) c48 ?_
                refine mr_aload_n (pc' := 114) dX3_spread_113 rfl rfl ?_
                refine mr_getR (pc' := 117) (ci := 3) (j := 1) (b := 47) hR dX3_spread_114 rfl rfl rfl (by decide) (by decide) (by decide) rfl rfl ?_
                refine mr_iload (pc' := 119) dX3_spread_117 rfl rfl ?_
                refine mr_aload_n (pc' := 120) dX3_spread_119 rfl rfl ?_
                refine mr_getI (pc' := 123) (ci := 8) (j := 6) dX3_spread_120 rfl rfl t1 (by decide) (by decide) rfl ?_
                refine mr_imul (pc' := 124) dX3_spread_123 rfl ?_
                refine mr_iload (pc' := 126) dX3_spread_124 rfl rfl ?_
                refine mr_iadd (pc' := 127) dX3_spread_126 rfl ?_
                refine mr_iconst (pc' := 128) (v := (1 : Int32)) dX3_spread_127 rfl (by decide) ?_
                refine mr_iadd (pc' := 129) dX3_spread_128 rfl ?_
                refine mr_aload_n (pc' := 130) dX3_spread_129 rfl rfl ?_
                refine mr_getI (pc' := 133) (ci := 3) (j := 5) dX3_spread_130 rfl rfl rfl (by decide) (by decide) rfl ?_
                obtain ⟨S49, g50, h51⟩ := Option.bind_eq_some_iff.mp h47
                refine mr_iast (pc' := 134) dX3_spread_133 rfl rfl rfl g50 ?_
                refine mr_iinc (pc' := 137) (x' := (p5 + (1 : Int32))) (lv' := [(5, .int (p5 + (1 : Int32))), (7, .int (0 : Int32)), (6, .int (S0.1 45 5)), (0, .ref 45), (1, .ref p1), (2, .int p2), (3, .int p3), (4, .int p4)]) dX3_spread_134 rfl (by decide) rfl rfl rfl ?_
                refine mr_goto (t := 24) dX3_spread_137 (by decide) ?_
                exact mr_sub [(0, .ref 45), (1, .ref p1), (2, .int p2), (3, .int p3), (4, .int p4), (5, .int (p5 + (1 : Int32)))] ⟨rfl, rfl, rfl, rfl, rfl, rfl, trivial⟩ rfl (ih _ _  h51)
          · rw [if_neg c40] at h39
            refine mr_if_eq_f (t := 85) (pc' := 81) dX3_spread_78 (by decide) rfl c40 ?_
            refine mr_iconst (pc' := 82) (v := (1 : Int32)) dX3_spread_81 rfl (by decide) ?_
            refine mr_goto (t := 86) dX3_spread_82 (by decide) ?_
            refine mr_istore (pc' := 88) (lv' := [(7, .int (1 : Int32)), (6, .int (S0.1 45 5)), (0, .ref 45), (1, .ref p1), (2, .int p2), (3, .int p3), (4, .int p4), (5, .int p5)]) dX3_spread_86 rfl (by decide) rfl ?_
            refine mr_aload_n (pc' := 89) dX3_spread_88 rfl rfl ?_
            refine mr_aload_n (pc' := 90) dX3_spread_89 rfl rfl ?_
            refine mr_iload (pc' := 92) dX3_spread_90 rfl rfl ?_
            refine mr_iload (pc' := 94) dX3_spread_92 rfl rfl ?_
            obtain ⟨q52, g53, h54⟩ := Option.bind_eq_some_iff.mp h39
            refine mr_cv (pc' := 97) (a := 45) (d1 := 1) dX3_spread_94 rfl rfl rfl rfl rfl rfl (by decide) rfl (by decide) (ok_X3_gatherSources hR t1 g53) ?_
            show mr X _ _ 97 _ [] (MM RR q52) _
            refine mr_iload (pc' := 99) dX3_spread_97 rfl rfl ?_
            by_cases c55 : (1 : Int32) = (0 : Int32)
            · rw [if_pos c55] at h54
              refine mr_if_eq_t (t := 111) dX3_spread_99 (by decide) c55 ?_
              refine mr_iconst (pc' := 112) (v := (0 : Int32)) dX3_spread_111 rfl (by decide) ?_
              obtain rfl := Option.some.inj h54
              exact mr_zreturn dX3_spread_112 rfl (by decide)
            · rw [if_neg c55] at h54
              refine mr_if_eq_f (t := 111) (pc' := 102) dX3_spread_99 (by decide) rfl c55 ?_
              refine mr_aload_n (pc' := 103) dX3_spread_102 rfl rfl ?_
              refine mr_iload (pc' := 105) dX3_spread_103 rfl rfl ?_
              obtain ⟨q56, g57, h58⟩ := Option.bind_eq_some_iff.mp h54
              refine mr_cv (pc' := 108) (a := 45) (d1 := 2) dX3_spread_105 rfl rfl rfl rfl rfl rfl (by decide) rfl (by decide) (ok_X3_merge hR  g57) ?_
              show mr X _ _ 108 _ [.int q56.1] (MM RR q56.2) _
              by_cases c59 : q56.1 = (0 : Int32)
              · rw [if_pos c59] at h58
                refine mr_if_ne_f (t := 113) (pc' := 111) dX3_spread_108 (by decide) rfl (not_not_intro c59) ?_
                refine mr_iconst (pc' := 112) (v := (0 : Int32)) dX3_spread_111 rfl (by decide) ?_
                obtain rfl := Option.some.inj h58
                exact mr_zreturn dX3_spread_112 rfl (by decide)
              · rw [if_neg c59] at h58
                refine mr_if_ne_t (t := 113) dX3_spread_108 (by decide) c59 ?_
                refine mr_aload_n (pc' := 114) dX3_spread_113 rfl rfl ?_
                refine mr_getR (pc' := 117) (ci := 3) (j := 1) (b := 47) hR dX3_spread_114 rfl rfl rfl (by decide) (by decide) (by decide) rfl rfl ?_
                refine mr_iload (pc' := 119) dX3_spread_117 rfl rfl ?_
                refine mr_aload_n (pc' := 120) dX3_spread_119 rfl rfl ?_
                refine mr_getI (pc' := 123) (ci := 8) (j := 6) dX3_spread_120 rfl rfl t1 (by decide) (by decide) rfl ?_
                refine mr_imul (pc' := 124) dX3_spread_123 rfl ?_
                refine mr_iload (pc' := 126) dX3_spread_124 rfl rfl ?_
                refine mr_iadd (pc' := 127) dX3_spread_126 rfl ?_
                refine mr_iconst (pc' := 128) (v := (1 : Int32)) dX3_spread_127 rfl (by decide) ?_
                refine mr_iadd (pc' := 129) dX3_spread_128 rfl ?_
                refine mr_aload_n (pc' := 130) dX3_spread_129 rfl rfl ?_
                refine mr_getI (pc' := 133) (ci := 3) (j := 5) dX3_spread_130 rfl rfl rfl (by decide) (by decide) rfl ?_
                obtain ⟨S60, g61, h62⟩ := Option.bind_eq_some_iff.mp h58
                refine mr_iast (pc' := 134) dX3_spread_133 rfl rfl rfl g61 ?_
                refine mr_iinc (pc' := 137) (x' := (p5 + (1 : Int32))) (lv' := [(5, .int (p5 + (1 : Int32))), (7, .int (1 : Int32)), (6, .int (S0.1 45 5)), (0, .ref 45), (1, .ref p1), (2, .int p2), (3, .int p3), (4, .int p4)]) dX3_spread_134 rfl (by decide) rfl rfl rfl ?_
                refine mr_goto (t := 24) dX3_spread_137 (by decide) ?_
                exact mr_sub [(0, .ref 45), (1, .ref p1), (2, .int p2), (3, .int p3), (4, .int p4), (5, .int (p5 + (1 : Int32)))] ⟨rfl, rfl, rfl, rfl, rfl, rfl, trivial⟩ rfl (ih _ _  h62)
        · rw [if_neg c22] at h9
          refine mr_icmp_ne_t (t := 81) dX3_spread_64 (by decide) c22 ?_
          refine mr_iconst (pc' := 82) (v := (1 : Int32)) dX3_spread_81 rfl (by decide) ?_
          refine mr_goto (t := 86) dX3_spread_82 (by decide) ?_
          refine mr_istore (pc' := 88) (lv' := [(7, .int (1 : Int32)), (6, .int (S0.1 45 5)), (0, .ref 45), (1, .ref p1), (2, .int p2), (3, .int p3), (4, .int p4), (5, .int p5)]) dX3_spread_86 rfl (by decide) rfl ?_
          refine mr_aload_n (pc' := 89) dX3_spread_88 rfl rfl ?_
          refine mr_aload_n (pc' := 90) dX3_spread_89 rfl rfl ?_
          refine mr_iload (pc' := 92) dX3_spread_90 rfl rfl ?_
          refine mr_iload (pc' := 94) dX3_spread_92 rfl rfl ?_
          obtain ⟨q23, g24, h25⟩ := Option.bind_eq_some_iff.mp h9
          refine mr_cv (pc' := 97) (a := 45) (d1 := 1) dX3_spread_94 rfl rfl rfl rfl rfl rfl (by decide) rfl (by decide) (ok_X3_gatherSources hR t1 g24) ?_
          show mr X _ _ 97 _ [] (MM RR q23) _
          refine mr_iload (pc' := 99) dX3_spread_97 rfl rfl ?_
          by_cases c26 : (1 : Int32) = (0 : Int32)
          · rw [if_pos c26] at h25
            refine mr_if_eq_t (t := 111) dX3_spread_99 (by decide) c26 ?_
            refine mr_iconst (pc' := 112) (v := (0 : Int32)) dX3_spread_111 rfl (by decide) ?_
            obtain rfl := Option.some.inj h25
            exact mr_zreturn dX3_spread_112 rfl (by decide)
          · rw [if_neg c26] at h25
            refine mr_if_eq_f (t := 111) (pc' := 102) dX3_spread_99 (by decide) rfl c26 ?_
            refine mr_aload_n (pc' := 103) dX3_spread_102 rfl rfl ?_
            refine mr_iload (pc' := 105) dX3_spread_103 rfl rfl ?_
            obtain ⟨q27, g28, h29⟩ := Option.bind_eq_some_iff.mp h25
            refine mr_cv (pc' := 108) (a := 45) (d1 := 2) dX3_spread_105 rfl rfl rfl rfl rfl rfl (by decide) rfl (by decide) (ok_X3_merge hR  g28) ?_
            show mr X _ _ 108 _ [.int q27.1] (MM RR q27.2) _
            by_cases c30 : q27.1 = (0 : Int32)
            · rw [if_pos c30] at h29
              refine mr_if_ne_f (t := 113) (pc' := 111) dX3_spread_108 (by decide) rfl (not_not_intro c30) ?_
              refine mr_iconst (pc' := 112) (v := (0 : Int32)) dX3_spread_111 rfl (by decide) ?_
              obtain rfl := Option.some.inj h29
              exact mr_zreturn dX3_spread_112 rfl (by decide)
            · rw [if_neg c30] at h29
              refine mr_if_ne_t (t := 113) dX3_spread_108 (by decide) c30 ?_
              refine mr_aload_n (pc' := 114) dX3_spread_113 rfl rfl ?_
              refine mr_getR (pc' := 117) (ci := 3) (j := 1) (b := 47) hR dX3_spread_114 rfl rfl rfl (by decide) (by decide) (by decide) rfl rfl ?_
              refine mr_iload (pc' := 119) dX3_spread_117 rfl rfl ?_
              refine mr_aload_n (pc' := 120) dX3_spread_119 rfl rfl ?_
              refine mr_getI (pc' := 123) (ci := 8) (j := 6) dX3_spread_120 rfl rfl t1 (by decide) (by decide) rfl ?_
              refine mr_imul (pc' := 124) dX3_spread_123 rfl ?_
              refine mr_iload (pc' := 126) dX3_spread_124 rfl rfl ?_
              refine mr_iadd (pc' := 127) dX3_spread_126 rfl ?_
              refine mr_iconst (pc' := 128) (v := (1 : Int32)) dX3_spread_127 rfl (by decide) ?_
              refine mr_iadd (pc' := 129) dX3_spread_128 rfl ?_
              refine mr_aload_n (pc' := 130) dX3_spread_129 rfl rfl ?_
              refine mr_getI (pc' := 133) (ci := 3) (j := 5) dX3_spread_130 rfl rfl rfl (by decide) (by decide) rfl ?_
              obtain ⟨S31, g32, h33⟩ := Option.bind_eq_some_iff.mp h29
              refine mr_iast (pc' := 134) dX3_spread_133 rfl rfl rfl g32 ?_
              refine mr_iinc (pc' := 137) (x' := (p5 + (1 : Int32))) (lv' := [(5, .int (p5 + (1 : Int32))), (7, .int (1 : Int32)), (6, .int (S0.1 45 5)), (0, .ref 45), (1, .ref p1), (2, .int p2), (3, .int p3), (4, .int p4)]) dX3_spread_134 rfl (by decide) rfl rfl rfl ?_
              refine mr_goto (t := 24) dX3_spread_137 (by decide) ?_
              exact mr_sub [(0, .ref 45), (1, .ref p1), (2, .int p2), (3, .int p3), (4, .int p4), (5, .int (p5 + (1 : Int32)))] ⟨rfl, rfl, rfl, rfl, rfl, rfl, trivial⟩ rfl (ih _ _  h33)
def lp_X3_spread_8 (p1 : Nat) (p2 : Int32) (p3 : Int32) (K : fS → Option (Int32 × fS)) : Nat → Int32 → fS → Option (Int32 × fS)
  | 0, _, _ => none
  | n + 1, p4, S0 =>
    if p3 < p4 then (K S0) else
    (if (16 : Int32) < p4 then (K S0) else
    (lp_X3_spread_24 p1 p2 p3 p4 (fun S63 => lp_X3_spread_8 p1 p2 p3 K n (p4 + (1 : Int32)) S63) FU (0 : Int32) S0))
set_option maxHeartbeats 4000000 in
set_option maxRecDepth 100000 in
theorem ok_lp_X3_spread_8 {X : mm_C} {RR : Nat → Nat → Option Nat} (hR : RRok RR) {p1 : Nat} {p2 : Int32} {p3 : Int32} (t1 : tg p1 = 8) {K : fS → Option (Int32 × fS)} {r : Int32 × fS} (hK : ∀ (Sk : fS), K Sk = some r → mr X 3 mY_X3_spread 146 [] [] (MM RR Sk) (some (.int r.1), MM RR r.2)) : ∀ (n : Nat) (p4 : Int32) (S0 : fS), lp_X3_spread_8 p1 p2 p3 K n p4 S0 = some r → mr X 3 mY_X3_spread 8 [(0, .ref 45), (1, .ref p1), (2, .int p2), (3, .int p3), (4, .int p4)] [] (MM RR S0) (some (.int r.1), MM RR r.2) := by
  intro n
  induction n with
  | zero => intro p4 S0 h; exact mm_no h
  | succ n ih =>
    intro p4 S0 h
    unfold lp_X3_spread_8 at h
    refine mr_iload (pc' := 10) dX3_spread_8 rfl rfl ?_
    refine mr_iload_n (pc' := 11) dX3_spread_10 rfl rfl ?_
    by_cases c4 : p3 < p4
    · rw [if_pos c4] at h
      refine mr_icmp_gt_t (t := 146) dX3_spread_11 (by decide) c4 ?_
      exact mr_sub [] trivial rfl (hK _  h)
    · rw [if_neg c4] at h
      refine mr_icmp_gt_f (t := 146) (pc' := 14) dX3_spread_11 (by decide) rfl c4 ?_
      refine mr_iload (pc' := 16) dX3_spread_14 rfl rfl ?_
      refine mr_bipush (pc' := 18) (v := (16 : Int32)) dX3_spread_16 rfl (by decide) ?_
      by_cases c5 : (16 : Int32) < p4
      · rw [if_pos c5] at h
        refine mr_icmp_gt_t (t := 146) dX3_spread_18 (by decide) c5 ?_
        exact mr_sub [] trivial rfl (hK _  h)
      · rw [if_neg c5] at h
        refine mr_icmp_gt_f (t := 146) (pc' := 21) dX3_spread_18 (by decide) rfl c5 ?_
        refine mr_iconst (pc' := 22) (v := (0 : Int32)) dX3_spread_21 rfl (by decide) ?_
        refine mr_istore (pc' := 24) (lv' := [(5, .int (0 : Int32)), (0, .ref 45), (1, .ref p1), (2, .int p2), (3, .int p3), (4, .int p4)]) dX3_spread_22 rfl (by decide) rfl ?_
        refine mr_sub [(0, .ref 45), (1, .ref p1), (2, .int p2), (3, .int p3), (4, .int p4), (5, .int (0 : Int32))] ⟨rfl, rfl, rfl, rfl, rfl, rfl, trivial⟩ rfl ?_
        refine ok_lp_X3_spread_24 hR t1 (fun S63 h64 => ?_) FU _ _  h
        refine mr_iinc (pc' := 143) (x' := (p4 + (1 : Int32))) (lv' := [(4, .int (p4 + (1 : Int32))), (0, .ref 45), (1, .ref p1), (2, .int p2), (3, .int p3)]) dX3_spread_140 rfl (by decide) rfl rfl rfl ?_
        refine mr_goto (t := 8) dX3_spread_143 (by decide) ?_
        exact mr_sub [(0, .ref 45), (1, .ref p1), (2, .int p2), (3, .int p3), (4, .int (p4 + (1 : Int32)))] ⟨rfl, rfl, rfl, rfl, rfl, trivial⟩ rfl (ih _ _  h64)
def f_X3_spread (v1 : Nat) (v2 : Int32) (v3 : Int32) (S : fS) : Option (Int32 × fS) :=
  (some (pI S 45 5 (0 : Int32))).bind fun S1 =>
  lp_X3_spread_8 v1 v2 v3 (fun S65 => some ((1 : Int32), S65)) FU (0 : Int32) S1
set_option maxHeartbeats 4000000 in
set_option maxRecDepth 100000 in
theorem ok_X3_spread {X : mm_C} {RR : Nat → Nat → Option Nat} (hR : RRok RR) {v1 : Nat} {v2 : Int32} {v3 : Int32} (t1 : tg v1 = 8) {S : fS} {r : Int32 × fS} (h : f_X3_spread v1 v2 v3 S = some r) : mr X 3 mY_X3_spread 0 (lv_args 0 [.ref 45, .ref v1, .int v2, .int v3]) [] (MM RR S) (some (.int r.1), MM RR r.2) := by
  unfold f_X3_spread at h
  show mr X _ _ 0 [(0, .ref 45), (1, .ref v1), (2, .int v2), (3, .int v3)] [] (MM RR S) _
  refine mr_aload_n (pc' := 1) dX3_spread_0 rfl rfl ?_
  refine mr_iconst (pc' := 2) (v := (0 : Int32)) dX3_spread_1 rfl (by decide) ?_
  obtain ⟨S1, g2, h3⟩ := Option.bind_eq_some_iff.mp h
  refine mr_putI (pc' := 5) (ci := 3) (j := 5) dX3_spread_2 rfl rfl rfl (by decide) (by decide) rfl rfl ?_
  rw [Option.some.inj g2]
  refine mr_iconst (pc' := 6) (v := (0 : Int32)) dX3_spread_5 rfl (by decide) ?_
  refine mr_istore (pc' := 8) (lv' := [(4, .int (0 : Int32)), (0, .ref 45), (1, .ref v1), (2, .int v2), (3, .int v3)]) dX3_spread_6 rfl (by decide) rfl ?_
  refine mr_sub [(0, .ref 45), (1, .ref v1), (2, .int v2), (3, .int v3), (4, .int (0 : Int32))] ⟨rfl, rfl, rfl, rfl, rfl, trivial⟩ rfl ?_
  refine ok_lp_X3_spread_8 hR t1 (fun S65 h66 => ?_) FU _ _  h3
  refine mr_iconst (pc' := 147) (v := (1 : Int32)) dX3_spread_146 rfl (by decide) ?_
  obtain rfl := Option.some.inj h66
  exact mr_zreturn dX3_spread_147 rfl (by decide)
