def f_J9_min_7cf53 (v0 : Int32) (v1 : Int32) (S : fS) : Option (Int32) :=
  if v1 < v0 then (some v1) else
  (some v0)
set_option maxHeartbeats 4000000 in
set_option maxRecDepth 100000 in
theorem ok_J9_min_7cf53 {X : mm_C} {RR : Nat → Nat → Option Nat} (hR : RRok RR) {v0 : Int32} {v1 : Int32}  {S : fS} {r : Int32} (h : f_J9_min_7cf53 v0 v1 S = some r) : mr X 0 mY_J9_min_7cf53 0 (lv_args 0 [.int v0, .int v1]) [] (MM RR S) (some (.int r), MM RR S) := by
  unfold f_J9_min_7cf53 at h
  show mr X _ _ 0 [(0, .int v0), (1, .int v1)] [] (MM RR S) _
  refine mr_iload_n (pc' := 1) dJ9_min_7cf53_0 rfl rfl ?_
  refine mr_iload_n (pc' := 2) dJ9_min_7cf53_1 rfl rfl ?_
  by_cases c1 : v1 < v0
  · rw [if_pos c1] at h
    refine mr_icmp_gt_t (t := 9) dJ9_min_7cf53_2 (by decide) c1 ?_
    refine mr_iload_n (pc' := 10) dJ9_min_7cf53_9 rfl rfl ?_
    obtain rfl := Option.some.inj h
    exact mr_ireturn dJ9_min_7cf53_10 rfl
  · rw [if_neg c1] at h
    refine mr_icmp_gt_f (t := 9) (pc' := 5) dJ9_min_7cf53_2 (by decide) rfl c1 ?_
    refine mr_iload_n (pc' := 6) dJ9_min_7cf53_5 rfl rfl ?_
    refine mr_goto (t := 10) dJ9_min_7cf53_6 (by decide) ?_
    obtain rfl := Option.some.inj h
    exact mr_ireturn dJ9_min_7cf53_10 rfl
def f_X3_keep (v1 : Int32) (v2 : Int64) (v4 : Int32) (S : fS) : Option (Int32 × fS) :=
  if (S.1 45 7) ≤ v1 then (if (S.1 45 7) < (4000 : Int32) then ((sL S 46 4000 (S.1 45 7) v2).bind fun S3 =>
  (sI S3 47 4000 (S3.1 45 7) v4).bind fun S6 =>
  (some (pI S6 45 7 ((S6.1 45 7) + (1 : Int32)))).bind fun S9 =>
  some ((1 : Int32), S9)) else
  (some ((0 : Int32), S))) else
  ((gL S 46 4000 ((S.1 45 7) - (1 : Int32))).bind fun a12 =>
  if a12 = v2 then ((gI S 47 4000 ((S.1 45 7) - (1 : Int32))).bind fun a26 =>
  (f_J9_min_7cf53 a26 v4 S).bind fun q29 =>
  (sI S 47 4000 ((S.1 45 7) - (1 : Int32)) q29).bind fun S32 =>
  some ((1 : Int32), S32)) else
  (if (S.1 45 7) < (4000 : Int32) then ((sL S 46 4000 (S.1 45 7) v2).bind fun S17 =>
  (sI S17 47 4000 (S17.1 45 7) v4).bind fun S20 =>
  (some (pI S20 45 7 ((S20.1 45 7) + (1 : Int32)))).bind fun S23 =>
  some ((1 : Int32), S23)) else
  (some ((0 : Int32), S))))
set_option maxHeartbeats 4000000 in
set_option maxRecDepth 100000 in
theorem ok_X3_keep {X : mm_C} {RR : Nat → Nat → Option Nat} (hR : RRok RR) {v1 : Int32} {v2 : Int64} {v4 : Int32}  {S : fS} {r : Int32 × fS} (h : f_X3_keep v1 v2 v4 S = some r) : mr X 1 mY_X3_keep 0 (lv_args 0 [.ref 45, .int v1, .long v2, .int v4]) [] (MM RR S) (some (.int r.1), MM RR r.2) := by
  unfold f_X3_keep at h
  show mr X _ _ 0 [(0, .ref 45), (1, .int v1), (2, .long v2), (4, .int v4)] [] (MM RR S) _
  refine mr_aload_n (pc' := 1) dX3_keep_0 rfl rfl ?_
  refine mr_getI (pc' := 4) (ci := 3) (j := 7) dX3_keep_1 rfl rfl rfl (by decide) (by decide) rfl ?_
  refine mr_iload_n (pc' := 5) dX3_keep_4 rfl rfl ?_
  by_cases c1 : (S.1 45 7) ≤ v1
  · rw [if_pos c1] at h
    refine mr_icmp_le_t (t := 53) dX3_keep_5 (by decide) c1 ?_
    refine mr_aload_n (pc' := 54) dX3_keep_53 rfl rfl ?_
    refine mr_getI (pc' := 57) (ci := 3) (j := 7) dX3_keep_54 rfl rfl rfl (by decide) (by decide) rfl ?_
    refine mr_sipush (pc' := 60) (v := (4000 : Int32)) dX3_keep_57 rfl (by decide) ?_
    by_cases c2 : (S.1 45 7) < (4000 : Int32)
    · rw [if_pos c2] at h
      refine mr_icmp_lt_t (t := 65) dX3_keep_60 (by decide) c2 ?_
      refine mr_aload_n (pc' := 66) dX3_keep_65 rfl rfl ?_
      refine mr_getR (pc' := 69) (ci := 3) (j := 0) (b := 46) hR dX3_keep_66 rfl rfl rfl (by decide) (by decide) (by decide) rfl rfl ?_
      refine mr_aload_n (pc' := 70) dX3_keep_69 rfl rfl ?_
      refine mr_getI (pc' := 73) (ci := 3) (j := 7) dX3_keep_70 rfl rfl rfl (by decide) (by decide) rfl ?_
      refine mr_lload_n (pc' := 74) dX3_keep_73 rfl rfl ?_
      obtain ⟨S3, g4, h5⟩ := Option.bind_eq_some_iff.mp h
      refine mr_last (pc' := 75) dX3_keep_74 rfl rfl rfl g4 ?_
      refine mr_aload_n (pc' := 76) dX3_keep_75 rfl rfl ?_
      refine mr_getR (pc' := 79) (ci := 3) (j := 1) (b := 47) hR dX3_keep_76 rfl rfl rfl (by decide) (by decide) (by decide) rfl rfl ?_
      refine mr_aload_n (pc' := 80) dX3_keep_79 rfl rfl ?_
      refine mr_getI (pc' := 83) (ci := 3) (j := 7) dX3_keep_80 rfl rfl rfl (by decide) (by decide) rfl ?_
      refine mr_iload (pc' := 85) dX3_keep_83 rfl rfl ?_
      obtain ⟨S6, g7, h8⟩ := Option.bind_eq_some_iff.mp h5
      refine mr_iast (pc' := 86) dX3_keep_85 rfl rfl rfl g7 ?_
      refine mr_aload_n (pc' := 87) dX3_keep_86 rfl rfl ?_
      refine mr_dup_ref (pc' := 88) dX3_keep_87 rfl ?_
      refine mr_getI (pc' := 91) (ci := 3) (j := 7) dX3_keep_88 rfl rfl rfl (by decide) (by decide) rfl ?_
      refine mr_iconst (pc' := 92) (v := (1 : Int32)) dX3_keep_91 rfl (by decide) ?_
      refine mr_iadd (pc' := 93) dX3_keep_92 rfl ?_
      obtain ⟨S9, g10, h11⟩ := Option.bind_eq_some_iff.mp h8
      refine mr_putI (pc' := 96) (ci := 3) (j := 7) dX3_keep_93 rfl rfl rfl (by decide) (by decide) rfl rfl ?_
      rw [Option.some.inj g10]
      refine mr_iconst (pc' := 97) (v := (1 : Int32)) dX3_keep_96 rfl (by decide) ?_
      obtain rfl := Option.some.inj h11
      exact mr_zreturn dX3_keep_97 rfl (by decide)
    · rw [if_neg c2] at h
      refine mr_icmp_lt_f (t := 65) (pc' := 63) dX3_keep_60 (by decide) rfl c2 ?_
      refine mr_iconst (pc' := 64) (v := (0 : Int32)) dX3_keep_63 rfl (by decide) ?_
      obtain rfl := Option.some.inj h
      exact mr_zreturn dX3_keep_64 rfl (by decide)
  · rw [if_neg c1] at h
    refine mr_icmp_le_f (t := 53) (pc' := 8) dX3_keep_5 (by decide) rfl c1 ?_
    refine mr_aload_n (pc' := 9) dX3_keep_8 rfl rfl ?_
    refine mr_getR (pc' := 12) (ci := 3) (j := 0) (b := 46) hR dX3_keep_9 rfl rfl rfl (by decide) (by decide) (by decide) rfl rfl ?_
    refine mr_aload_n (pc' := 13) dX3_keep_12 rfl rfl ?_
    refine mr_getI (pc' := 16) (ci := 3) (j := 7) dX3_keep_13 rfl rfl rfl (by decide) (by decide) rfl ?_
    refine mr_iconst (pc' := 17) (v := (1 : Int32)) dX3_keep_16 rfl (by decide) ?_
    refine mr_isub (pc' := 18) dX3_keep_17 rfl ?_
    obtain ⟨a12, g13, h14⟩ := Option.bind_eq_some_iff.mp h
    refine mr_lald (pc' := 19) dX3_keep_18 rfl rfl rfl g13 ?_
    refine mr_lload_n (pc' := 20) dX3_keep_19 rfl rfl ?_
    by_cases c15 : a12 = v2
    · rw [if_pos c15] at h14
      refine mr_lcmp_ne_f (t := 53) (pc' := 24) dX3_keep_20 rfl dX3_keep_21 (by decide) rfl (not_not_intro c15) ?_
      refine mr_aload_n (pc' := 25) dX3_keep_24 rfl rfl ?_
      refine mr_getR (pc' := 28) (ci := 3) (j := 1) (b := 47) hR dX3_keep_25 rfl rfl rfl (by decide) (by decide) (by decide) rfl rfl ?_
      refine mr_aload_n (pc' := 29) dX3_keep_28 rfl rfl ?_
      refine mr_getI (pc' := 32) (ci := 3) (j := 7) dX3_keep_29 rfl rfl rfl (by decide) (by decide) rfl ?_
      refine mr_iconst (pc' := 33) (v := (1 : Int32)) dX3_keep_32 rfl (by decide) ?_
      refine mr_isub (pc' := 34) dX3_keep_33 rfl ?_
      refine mr_aload_n (pc' := 35) dX3_keep_34 rfl rfl ?_
      refine mr_getR (pc' := 38) (ci := 3) (j := 1) (b := 47) hR dX3_keep_35 rfl rfl rfl (by decide) (by decide) (by decide) rfl rfl ?_
      refine mr_aload_n (pc' := 39) dX3_keep_38 rfl rfl ?_
      refine mr_getI (pc' := 42) (ci := 3) (j := 7) dX3_keep_39 rfl rfl rfl (by decide) (by decide) rfl ?_
      refine mr_iconst (pc' := 43) (v := (1 : Int32)) dX3_keep_42 rfl (by decide) ?_
      refine mr_isub (pc' := 44) dX3_keep_43 rfl ?_
      obtain ⟨a26, g27, h28⟩ := Option.bind_eq_some_iff.mp h14
      refine mr_iald (pc' := 45) dX3_keep_44 rfl rfl rfl g27 ?_
      refine mr_iload (pc' := 47) dX3_keep_45 rfl rfl ?_
      obtain ⟨q29, g30, h31⟩ := Option.bind_eq_some_iff.mp h28
      refine mr_cs (pc' := 50) (d1 := 0) dX3_keep_47 rfl rfl rfl rfl (by decide) (Nat.le_of_ble_eq_true rfl) rfl rfl rfl (by decide) (ok_J9_min_7cf53 hR  g30) ?_
      show mr X _ _ 50 _ [.int q29, .int ((S.1 45 7) - (1 : Int32)), .ref 47] (MM RR S) _
      obtain ⟨S32, g33, h34⟩ := Option.bind_eq_some_iff.mp h31
      refine mr_iast (pc' := 51) dX3_keep_50 rfl rfl rfl g33 ?_
      refine mr_iconst (pc' := 52) (v := (1 : Int32)) dX3_keep_51 rfl (by decide) ?_
      obtain rfl := Option.some.inj h34
      exact mr_zreturn dX3_keep_52 rfl (by decide)
    · rw [if_neg c15] at h14
      refine mr_lcmp_ne_t (t := 53) dX3_keep_20 rfl dX3_keep_21 (by decide) c15 ?_
      refine mr_aload_n (pc' := 54) dX3_keep_53 rfl rfl ?_
      refine mr_getI (pc' := 57) (ci := 3) (j := 7) dX3_keep_54 rfl rfl rfl (by decide) (by decide) rfl ?_
      refine mr_sipush (pc' := 60) (v := (4000 : Int32)) dX3_keep_57 rfl (by decide) ?_
      by_cases c16 : (S.1 45 7) < (4000 : Int32)
      · rw [if_pos c16] at h14
        refine mr_icmp_lt_t (t := 65) dX3_keep_60 (by decide) c16 ?_
        refine mr_aload_n (pc' := 66) dX3_keep_65 rfl rfl ?_
        refine mr_getR (pc' := 69) (ci := 3) (j := 0) (b := 46) hR dX3_keep_66 rfl rfl rfl (by decide) (by decide) (by decide) rfl rfl ?_
        refine mr_aload_n (pc' := 70) dX3_keep_69 rfl rfl ?_
        refine mr_getI (pc' := 73) (ci := 3) (j := 7) dX3_keep_70 rfl rfl rfl (by decide) (by decide) rfl ?_
        refine mr_lload_n (pc' := 74) dX3_keep_73 rfl rfl ?_
        obtain ⟨S17, g18, h19⟩ := Option.bind_eq_some_iff.mp h14
        refine mr_last (pc' := 75) dX3_keep_74 rfl rfl rfl g18 ?_
        refine mr_aload_n (pc' := 76) dX3_keep_75 rfl rfl ?_
        refine mr_getR (pc' := 79) (ci := 3) (j := 1) (b := 47) hR dX3_keep_76 rfl rfl rfl (by decide) (by decide) (by decide) rfl rfl ?_
        refine mr_aload_n (pc' := 80) dX3_keep_79 rfl rfl ?_
        refine mr_getI (pc' := 83) (ci := 3) (j := 7) dX3_keep_80 rfl rfl rfl (by decide) (by decide) rfl ?_
        refine mr_iload (pc' := 85) dX3_keep_83 rfl rfl ?_
        obtain ⟨S20, g21, h22⟩ := Option.bind_eq_some_iff.mp h19
        refine mr_iast (pc' := 86) dX3_keep_85 rfl rfl rfl g21 ?_
        refine mr_aload_n (pc' := 87) dX3_keep_86 rfl rfl ?_
        refine mr_dup_ref (pc' := 88) dX3_keep_87 rfl ?_
        refine mr_getI (pc' := 91) (ci := 3) (j := 7) dX3_keep_88 rfl rfl rfl (by decide) (by decide) rfl ?_
        refine mr_iconst (pc' := 92) (v := (1 : Int32)) dX3_keep_91 rfl (by decide) ?_
        refine mr_iadd (pc' := 93) dX3_keep_92 rfl ?_
        obtain ⟨S23, g24, h25⟩ := Option.bind_eq_some_iff.mp h22
        refine mr_putI (pc' := 96) (ci := 3) (j := 7) dX3_keep_93 rfl rfl rfl (by decide) (by decide) rfl rfl ?_
        rw [Option.some.inj g24]
        refine mr_iconst (pc' := 97) (v := (1 : Int32)) dX3_keep_96 rfl (by decide) ?_
        obtain rfl := Option.some.inj h25
        exact mr_zreturn dX3_keep_97 rfl (by decide)
      · rw [if_neg c16] at h14
        refine mr_icmp_lt_f (t := 65) (pc' := 63) dX3_keep_60 (by decide) rfl c16 ?_
        refine mr_iconst (pc' := 64) (v := (0 : Int32)) dX3_keep_63 rfl (by decide) ?_
        obtain rfl := Option.some.inj h14
        exact mr_zreturn dX3_keep_64 rfl (by decide)
def f_X3_addSource (v1 : Int32) (v2 : Int64) (v4 : Int32) (S : fS) : Option (fS) :=
  if (13 : Int32) ≤ (S.1 45 8) then (some S) else
  ((gI S 48 171 v1).bind fun a2 =>
  (gI S 48 171 (v1 + (1 : Int32))).bind fun a5 =>
  if a5 ≤ a2 then (some S) else
  ((gI S 48 171 v1).bind fun a9 =>
  (sI S 49 13 (S.1 45 8) a9).bind fun S12 =>
  (gI S12 48 171 (v1 + (1 : Int32))).bind fun a15 =>
  (sI S12 50 13 (S12.1 45 8) a15).bind fun S18 =>
  (sL S18 51 13 (S18.1 45 8) v2).bind fun S21 =>
  (sI S21 52 13 (S21.1 45 8) v4).bind fun S24 =>
  (some (pI S24 45 8 ((S24.1 45 8) + (1 : Int32)))).bind fun S27 =>
  some S27))
set_option maxHeartbeats 4000000 in
set_option maxRecDepth 100000 in
theorem ok_X3_addSource {X : mm_C} {RR : Nat → Nat → Option Nat} (hR : RRok RR) {v1 : Int32} {v2 : Int64} {v4 : Int32}  {S : fS} {r : fS} (h : f_X3_addSource v1 v2 v4 S = some r) : mr X 0 mY_X3_addSource 0 (lv_args 0 [.ref 45, .int v1, .long v2, .int v4]) [] (MM RR S) (none, MM RR r) := by
  unfold f_X3_addSource at h
  show mr X _ _ 0 [(0, .ref 45), (1, .int v1), (2, .long v2), (4, .int v4)] [] (MM RR S) _
  refine mr_aload_n (pc' := 1) dX3_addSource_0 rfl rfl ?_
  refine mr_getI (pc' := 4) (ci := 3) (j := 8) dX3_addSource_1 rfl rfl rfl (by decide) (by decide) rfl ?_
  refine mr_bipush (pc' := 6) (v := (13 : Int32)) dX3_addSource_4 rfl (by decide) ?_
  by_cases c1 : (13 : Int32) ≤ (S.1 45 8)
  · rw [if_pos c1] at h
    refine mr_icmp_ge_t (t := 89) dX3_addSource_6 (by decide) c1 ?_
    obtain rfl := Option.some.inj h
    exact mr_return dX3_addSource_89 rfl
  · rw [if_neg c1] at h
    refine mr_icmp_ge_f (t := 89) (pc' := 9) dX3_addSource_6 (by decide) rfl c1 ?_
    refine mr_aload_n (pc' := 10) dX3_addSource_9 rfl rfl ?_
    refine mr_getR (pc' := 13) (ci := 3) (j := 2) (b := 48) hR dX3_addSource_10 rfl rfl rfl (by decide) (by decide) (by decide) rfl rfl ?_
    refine mr_iload_n (pc' := 14) dX3_addSource_13 rfl rfl ?_
    obtain ⟨a2, g3, h4⟩ := Option.bind_eq_some_iff.mp h
    refine mr_iald (pc' := 15) dX3_addSource_14 rfl rfl rfl g3 ?_
    refine mr_aload_n (pc' := 16) dX3_addSource_15 rfl rfl ?_
    refine mr_getR (pc' := 19) (ci := 3) (j := 2) (b := 48) hR dX3_addSource_16 rfl rfl rfl (by decide) (by decide) (by decide) rfl rfl ?_
    refine mr_iload_n (pc' := 20) dX3_addSource_19 rfl rfl ?_
    refine mr_iconst (pc' := 21) (v := (1 : Int32)) dX3_addSource_20 rfl (by decide) ?_
    refine mr_iadd (pc' := 22) dX3_addSource_21 rfl ?_
    obtain ⟨a5, g6, h7⟩ := Option.bind_eq_some_iff.mp h4
    refine mr_iald (pc' := 23) dX3_addSource_22 rfl rfl rfl g6 ?_
    by_cases c8 : a5 ≤ a2
    · rw [if_pos c8] at h7
      refine mr_icmp_ge_t (t := 89) dX3_addSource_23 (by decide) c8 ?_
      obtain rfl := Option.some.inj h7
      exact mr_return dX3_addSource_89 rfl
    · rw [if_neg c8] at h7
      refine mr_icmp_ge_f (t := 89) (pc' := 26) dX3_addSource_23 (by decide) rfl c8 ?_
      refine mr_aload_n (pc' := 27) dX3_addSource_26 rfl rfl ?_
      refine mr_getR (pc' := 30) (ci := 3) (j := 3) (b := 49) hR dX3_addSource_27 rfl rfl rfl (by decide) (by decide) (by decide) rfl rfl ?_
      refine mr_aload_n (pc' := 31) dX3_addSource_30 rfl rfl ?_
      refine mr_getI (pc' := 34) (ci := 3) (j := 8) dX3_addSource_31 rfl rfl rfl (by decide) (by decide) rfl ?_
      refine mr_aload_n (pc' := 35) dX3_addSource_34 rfl rfl ?_
      refine mr_getR (pc' := 38) (ci := 3) (j := 2) (b := 48) hR dX3_addSource_35 rfl rfl rfl (by decide) (by decide) (by decide) rfl rfl ?_
      refine mr_iload_n (pc' := 39) dX3_addSource_38 rfl rfl ?_
      obtain ⟨a9, g10, h11⟩ := Option.bind_eq_some_iff.mp h7
      refine mr_iald (pc' := 40) dX3_addSource_39 rfl rfl rfl g10 ?_
      obtain ⟨S12, g13, h14⟩ := Option.bind_eq_some_iff.mp h11
      refine mr_iast (pc' := 41) dX3_addSource_40 rfl rfl rfl g13 ?_
      refine mr_aload_n (pc' := 42) dX3_addSource_41 rfl rfl ?_
      refine mr_getR (pc' := 45) (ci := 3) (j := 4) (b := 50) hR dX3_addSource_42 rfl rfl rfl (by decide) (by decide) (by decide) rfl rfl ?_
      refine mr_aload_n (pc' := 46) dX3_addSource_45 rfl rfl ?_
      refine mr_getI (pc' := 49) (ci := 3) (j := 8) dX3_addSource_46 rfl rfl rfl (by decide) (by decide) rfl ?_
      refine mr_aload_n (pc' := 50) dX3_addSource_49 rfl rfl ?_
      refine mr_getR (pc' := 53) (ci := 3) (j := 2) (b := 48) hR dX3_addSource_50 rfl rfl rfl (by decide) (by decide) (by decide) rfl rfl ?_
      refine mr_iload_n (pc' := 54) dX3_addSource_53 rfl rfl ?_
      refine mr_iconst (pc' := 55) (v := (1 : Int32)) dX3_addSource_54 rfl (by decide) ?_
      refine mr_iadd (pc' := 56) dX3_addSource_55 rfl ?_
      obtain ⟨a15, g16, h17⟩ := Option.bind_eq_some_iff.mp h14
      refine mr_iald (pc' := 57) dX3_addSource_56 rfl rfl rfl g16 ?_
      obtain ⟨S18, g19, h20⟩ := Option.bind_eq_some_iff.mp h17
      refine mr_iast (pc' := 58) dX3_addSource_57 rfl rfl rfl g19 ?_
      refine mr_aload_n (pc' := 59) dX3_addSource_58 rfl rfl ?_
      refine mr_getR (pc' := 62) (ci := 3) (j := 5) (b := 51) hR dX3_addSource_59 rfl rfl rfl (by decide) (by decide) (by decide) rfl rfl ?_
      refine mr_aload_n (pc' := 63) dX3_addSource_62 rfl rfl ?_
      refine mr_getI (pc' := 66) (ci := 3) (j := 8) dX3_addSource_63 rfl rfl rfl (by decide) (by decide) rfl ?_
      refine mr_lload_n (pc' := 67) dX3_addSource_66 rfl rfl ?_
      obtain ⟨S21, g22, h23⟩ := Option.bind_eq_some_iff.mp h20
      refine mr_last (pc' := 68) dX3_addSource_67 rfl rfl rfl g22 ?_
      refine mr_aload_n (pc' := 69) dX3_addSource_68 rfl rfl ?_
      refine mr_getR (pc' := 72) (ci := 3) (j := 6) (b := 52) hR dX3_addSource_69 rfl rfl rfl (by decide) (by decide) (by decide) rfl rfl ?_
      refine mr_aload_n (pc' := 73) dX3_addSource_72 rfl rfl ?_
      refine mr_getI (pc' := 76) (ci := 3) (j := 8) dX3_addSource_73 rfl rfl rfl (by decide) (by decide) rfl ?_
      refine mr_iload (pc' := 78) dX3_addSource_76 rfl rfl ?_
      obtain ⟨S24, g25, h26⟩ := Option.bind_eq_some_iff.mp h23
      refine mr_iast (pc' := 79) dX3_addSource_78 rfl rfl rfl g25 ?_
      refine mr_aload_n (pc' := 80) dX3_addSource_79 rfl rfl ?_
      refine mr_dup_ref (pc' := 81) dX3_addSource_80 rfl ?_
      refine mr_getI (pc' := 84) (ci := 3) (j := 8) dX3_addSource_81 rfl rfl rfl (by decide) (by decide) rfl ?_
      refine mr_iconst (pc' := 85) (v := (1 : Int32)) dX3_addSource_84 rfl (by decide) ?_
      refine mr_iadd (pc' := 86) dX3_addSource_85 rfl ?_
      obtain ⟨S27, g28, h29⟩ := Option.bind_eq_some_iff.mp h26
      refine mr_putI (pc' := 89) (ci := 3) (j := 8) dX3_addSource_86 rfl rfl rfl (by decide) (by decide) rfl rfl ?_
      rw [Option.some.inj g28]
      obtain rfl := Option.some.inj h29
      exact mr_return dX3_addSource_89 rfl
def lp_X3_gatherSources_34 (p1 : Nat) (p2 : Int32) (p3 : Int32) (K : fS → Option (fS)) : Nat → Int32 → fS → Option (fS)
  | 0, _, _ => none
  | n + 1, p4, S0 =>
    if (S0.1 p1 7) ≤ p4 then (K S0) else
    ((f_X8_otherEnd p1 p4 p3 S0).bind fun q6 =>
    (gI S0 (p1 + 4) 12 p4).bind fun a9 =>
    if q6 < (0 : Int32) then (lp_X3_gatherSources_34 p1 p2 p3 K n (p4 + (1 : Int32)) S0) else
    (if p2 < a9 then (lp_X3_gatherSources_34 p1 p2 p3 K n (p4 + (1 : Int32)) S0) else
    ((gL S0 (p1 + 5) 12 p4).bind fun a14 =>
    (f_X3_addSource (((p2 - a9) * (S0.1 p1 6)) + q6) ((Int32.toInt64 a9) * a14) a9 S0).bind fun q17 =>
    lp_X3_gatherSources_34 p1 p2 p3 K n (p4 + (1 : Int32)) q17)))
set_option maxHeartbeats 4000000 in
set_option maxRecDepth 100000 in
theorem ok_lp_X3_gatherSources_34 {X : mm_C} {RR : Nat → Nat → Option Nat} (hR : RRok RR) {p1 : Nat} {p2 : Int32} {p3 : Int32} (t1 : tg p1 = 8) {K : fS → Option (fS)} {r : fS} (hK : ∀ (Sk : fS), K Sk = some r → mr X 1 mY_X3_gatherSources 107 [] [] (MM RR Sk) (none, MM RR r)) : ∀ (n : Nat) (p4 : Int32) (S0 : fS), lp_X3_gatherSources_34 p1 p2 p3 K n p4 S0 = some r → mr X 1 mY_X3_gatherSources 34 [(0, .ref 45), (1, .ref p1), (2, .int p2), (3, .int p3), (4, .int p4)] [] (MM RR S0) (none, MM RR r) := by
  intro n
  induction n with
  | zero => intro p4 S0 h; exact mm_no h
  | succ n ih =>
    intro p4 S0 h
    unfold lp_X3_gatherSources_34 at h
    refine mr_iload (pc' := 36) dX3_gatherSources_34 rfl rfl ?_
    refine mr_aload_n (pc' := 37) dX3_gatherSources_36 rfl rfl ?_
    refine mr_getI (pc' := 40) (ci := 8) (j := 7) dX3_gatherSources_37 rfl rfl t1 (by decide) (by decide) rfl ?_
    by_cases c5 : (S0.1 p1 7) ≤ p4
    · rw [if_pos c5] at h
      refine mr_icmp_ge_t (t := 107) dX3_gatherSources_40 (by decide) c5 ?_
      exact mr_sub [] trivial rfl (hK _  h)
    · rw [if_neg c5] at h
      refine mr_icmp_ge_f (t := 107) (pc' := 43) dX3_gatherSources_40 (by decide) rfl c5 ?_
      refine mr_aload_n (pc' := 44) dX3_gatherSources_43 rfl rfl ?_
      refine mr_iload (pc' := 46) dX3_gatherSources_44 rfl rfl ?_
      refine mr_iload_n (pc' := 47) dX3_gatherSources_46 rfl rfl ?_
      obtain ⟨q6, g7, h8⟩ := Option.bind_eq_some_iff.mp h
      refine mr_cv (pc' := 50) (a := p1) (d1 := 0) dX3_gatherSources_47 rfl rfl rfl rfl rfl t1 (by decide) rfl (by decide) (ok_X8_otherEnd hR t1 g7) ?_
      show mr X _ _ 50 _ [.int q6] (MM RR S0) _
      refine mr_istore (pc' := 52) (lv' := [(5, .int q6), (0, .ref 45), (1, .ref p1), (2, .int p2), (3, .int p3), (4, .int p4)]) dX3_gatherSources_50 rfl (by decide) rfl ?_
      refine mr_aload_n (pc' := 53) dX3_gatherSources_52 rfl rfl ?_
      refine mr_getR (pc' := 56) (ci := 8) (j := 3) (b := (p1 + 4)) hR dX3_gatherSources_53 rfl rfl t1 (by decide) (by decide) (by decide) rfl (ly8_3 t1).1 ?_
      refine mr_iload (pc' := 58) dX3_gatherSources_56 rfl rfl ?_
      obtain ⟨a9, g10, h11⟩ := Option.bind_eq_some_iff.mp h8
      refine mr_iald (pc' := 59) dX3_gatherSources_58 rfl (ly8_3 t1).2.1 (ly8_3 t1).2.2 g10 ?_
      refine mr_istore (pc' := 61) (lv' := [(6, .int a9), (5, .int q6), (0, .ref 45), (1, .ref p1), (2, .int p2), (3, .int p3), (4, .int p4)]) dX3_gatherSources_59 rfl (by decide) rfl ?_
      refine mr_iload (pc' := 63) dX3_gatherSources_61 rfl rfl ?_
      by_cases c12 : q6 < (0 : Int32)
      · rw [if_pos c12] at h11
        refine mr_if_lt_t (t := 101) dX3_gatherSources_63 (by decide) c12 ?_
        refine mr_iinc (pc' := 104) (x' := (p4 + (1 : Int32))) (lv' := [(4, .int (p4 + (1 : Int32))), (6, .int a9), (5, .int q6), (0, .ref 45), (1, .ref p1), (2, .int p2), (3, .int p3)]) dX3_gatherSources_101 rfl (by decide) rfl rfl rfl ?_
        refine mr_goto (t := 34) dX3_gatherSources_104 (by decide) ?_
        exact mr_sub [(0, .ref 45), (1, .ref p1), (2, .int p2), (3, .int p3), (4, .int (p4 + (1 : Int32)))] ⟨rfl, rfl, rfl, rfl, rfl, trivial⟩ rfl (ih _ _  h11)
      · rw [if_neg c12] at h11
        refine mr_if_lt_f (t := 101) (pc' := 66) dX3_gatherSources_63 (by decide) rfl c12 ?_
        refine mr_iload (pc' := 68) dX3_gatherSources_66 rfl rfl ?_
        refine mr_iload_n (pc' := 69) dX3_gatherSources_68 rfl rfl ?_
        by_cases c13 : p2 < a9
        · rw [if_pos c13] at h11
          refine mr_icmp_gt_t (t := 101) dX3_gatherSources_69 (by decide) c13 ?_
          refine mr_iinc (pc' := 104) (x' := (p4 + (1 : Int32))) (lv' := [(4, .int (p4 + (1 : Int32))), (6, .int a9), (5, .int q6), (0, .ref 45), (1, .ref p1), (2, .int p2), (3, .int p3)]) dX3_gatherSources_101 rfl (by decide) rfl rfl rfl ?_
          refine mr_goto (t := 34) dX3_gatherSources_104 (by decide) ?_
          exact mr_sub [(0, .ref 45), (1, .ref p1), (2, .int p2), (3, .int p3), (4, .int (p4 + (1 : Int32)))] ⟨rfl, rfl, rfl, rfl, rfl, trivial⟩ rfl (ih _ _  h11)
        · rw [if_neg c13] at h11
          refine mr_icmp_gt_f (t := 101) (pc' := 72) dX3_gatherSources_69 (by decide) rfl c13 ?_
          refine mr_aload_n (pc' := 73) dX3_gatherSources_72 rfl rfl ?_
          refine mr_iload_n (pc' := 74) dX3_gatherSources_73 rfl rfl ?_
          refine mr_iload (pc' := 76) dX3_gatherSources_74 rfl rfl ?_
          refine mr_isub (pc' := 77) dX3_gatherSources_76 rfl ?_
          refine mr_aload_n (pc' := 78) dX3_gatherSources_77 rfl rfl ?_
          refine mr_getI (pc' := 81) (ci := 8) (j := 6) dX3_gatherSources_78 rfl rfl t1 (by decide) (by decide) rfl ?_
          refine mr_imul (pc' := 82) dX3_gatherSources_81 rfl ?_
          refine mr_iload (pc' := 84) dX3_gatherSources_82 rfl rfl ?_
          refine mr_iadd (pc' := 85) dX3_gatherSources_84 rfl ?_
          refine mr_iload (pc' := 87) dX3_gatherSources_85 rfl rfl ?_
          refine mr_i2l (pc' := 88) dX3_gatherSources_87 rfl ?_
          refine mr_aload_n (pc' := 89) dX3_gatherSources_88 rfl rfl ?_
          refine mr_getR (pc' := 92) (ci := 8) (j := 4) (b := (p1 + 5)) hR dX3_gatherSources_89 rfl rfl t1 (by decide) (by decide) (by decide) rfl (ly8_4 t1).1 ?_
          refine mr_iload (pc' := 94) dX3_gatherSources_92 rfl rfl ?_
          obtain ⟨a14, g15, h16⟩ := Option.bind_eq_some_iff.mp h11
          refine mr_lald (pc' := 95) dX3_gatherSources_94 rfl (ly8_4 t1).2.1 (ly8_4 t1).2.2 g15 ?_
          refine mr_lmul (pc' := 96) dX3_gatherSources_95 rfl ?_
          refine mr_iload (pc' := 98) dX3_gatherSources_96 rfl rfl ?_
          obtain ⟨q17, g18, h19⟩ := Option.bind_eq_some_iff.mp h16
          refine mr_cv (pc' := 101) (a := 45) (d1 := 0) dX3_gatherSources_98 rfl rfl rfl rfl rfl rfl (by decide) rfl (by decide) (ok_X3_addSource hR  g18) ?_
          show mr X _ _ 101 _ [] (MM RR q17) _
          refine mr_iinc (pc' := 104) (x' := (p4 + (1 : Int32))) (lv' := [(4, .int (p4 + (1 : Int32))), (6, .int a9), (5, .int q6), (0, .ref 45), (1, .ref p1), (2, .int p2), (3, .int p3)]) dX3_gatherSources_101 rfl (by decide) rfl rfl rfl ?_
          refine mr_goto (t := 34) dX3_gatherSources_104 (by decide) ?_
          exact mr_sub [(0, .ref 45), (1, .ref p1), (2, .int p2), (3, .int p3), (4, .int (p4 + (1 : Int32)))] ⟨rfl, rfl, rfl, rfl, rfl, trivial⟩ rfl (ih _ _  h19)
def f_X3_gatherSources (v1 : Nat) (v2 : Int32) (v3 : Int32) (S : fS) : Option (fS) :=
  (some (pI S 45 8 (0 : Int32))).bind fun S1 =>
  if v2 < (1 : Int32) then (lp_X3_gatherSources_34 v1 v2 v3 (fun S20 => some S20) FU (0 : Int32) S1) else
  ((gL S1 (v1 + 1) 10 v3).bind fun a22 =>
  (f_X3_addSource (((v2 - (1 : Int32)) * (S1.1 v1 6)) + v3) a22 (0 : Int32) S1).bind fun q25 =>
  lp_X3_gatherSources_34 v1 v2 v3 (fun S28 => some S28) FU (0 : Int32) q25)
set_option maxHeartbeats 4000000 in
set_option maxRecDepth 100000 in
theorem ok_X3_gatherSources {X : mm_C} {RR : Nat → Nat → Option Nat} (hR : RRok RR) {v1 : Nat} {v2 : Int32} {v3 : Int32} (t1 : tg v1 = 8) {S : fS} {r : fS} (h : f_X3_gatherSources v1 v2 v3 S = some r) : mr X 1 mY_X3_gatherSources 0 (lv_args 0 [.ref 45, .ref v1, .int v2, .int v3]) [] (MM RR S) (none, MM RR r) := by
  unfold f_X3_gatherSources at h
  show mr X _ _ 0 [(0, .ref 45), (1, .ref v1), (2, .int v2), (3, .int v3)] [] (MM RR S) _
  refine mr_aload_n (pc' := 1) dX3_gatherSources_0 rfl rfl ?_
  refine mr_iconst (pc' := 2) (v := (0 : Int32)) dX3_gatherSources_1 rfl (by decide) ?_
  obtain ⟨S1, g2, h3⟩ := Option.bind_eq_some_iff.mp h
  refine mr_putI (pc' := 5) (ci := 3) (j := 8) dX3_gatherSources_2 rfl rfl rfl (by decide) (by decide) rfl rfl ?_
  rw [Option.some.inj g2]
  refine mr_iload_n (pc' := 6) dX3_gatherSources_5 rfl rfl ?_
  refine mr_iconst (pc' := 7) (v := (1 : Int32)) dX3_gatherSources_6 rfl (by decide) ?_
  by_cases c4 : v2 < (1 : Int32)
  · rw [if_pos c4] at h3
    refine mr_icmp_lt_t (t := 31) dX3_gatherSources_7 (by decide) c4 ?_
    refine mr_iconst (pc' := 32) (v := (0 : Int32)) dX3_gatherSources_31 rfl (by decide) ?_
    refine mr_istore (pc' := 34) (lv' := [(4, .int (0 : Int32)), (0, .ref 45), (1, .ref v1), (2, .int v2), (3, .int v3)]) dX3_gatherSources_32 rfl (by decide) rfl ?_
    refine mr_sub [(0, .ref 45), (1, .ref v1), (2, .int v2), (3, .int v3), (4, .int (0 : Int32))] ⟨rfl, rfl, rfl, rfl, rfl, trivial⟩ rfl ?_
    refine ok_lp_X3_gatherSources_34 hR t1 (fun S20 h21 => ?_) FU _ _  h3
    obtain rfl := Option.some.inj h21
    exact mr_return dX3_gatherSources_107 rfl
  · rw [if_neg c4] at h3
    refine mr_icmp_lt_f (t := 31) (pc' := 10) dX3_gatherSources_7 (by decide) rfl c4 ?_
    refine mr_aload_n (pc' := 11) dX3_gatherSources_10 rfl rfl ?_
    refine mr_iload_n (pc' := 12) dX3_gatherSources_11 rfl rfl ?_
    refine mr_iconst (pc' := 13) (v := (1 : Int32)) dX3_gatherSources_12 rfl (by decide) ?_
    refine mr_isub (pc' := 14) dX3_gatherSources_13 rfl ?_
    refine mr_aload_n (pc' := 15) dX3_gatherSources_14 rfl rfl ?_
    refine mr_getI (pc' := 18) (ci := 8) (j := 6) dX3_gatherSources_15 rfl rfl t1 (by decide) (by decide) rfl ?_
    refine mr_imul (pc' := 19) dX3_gatherSources_18 rfl ?_
    refine mr_iload_n (pc' := 20) dX3_gatherSources_19 rfl rfl ?_
    refine mr_iadd (pc' := 21) dX3_gatherSources_20 rfl ?_
    refine mr_aload_n (pc' := 22) dX3_gatherSources_21 rfl rfl ?_
    refine mr_getR (pc' := 25) (ci := 8) (j := 0) (b := (v1 + 1)) hR dX3_gatherSources_22 rfl rfl t1 (by decide) (by decide) (by decide) rfl (ly8_0 t1).1 ?_
    refine mr_iload_n (pc' := 26) dX3_gatherSources_25 rfl rfl ?_
    obtain ⟨a22, g23, h24⟩ := Option.bind_eq_some_iff.mp h3
    refine mr_lald (pc' := 27) dX3_gatherSources_26 rfl (ly8_0 t1).2.1 (ly8_0 t1).2.2 g23 ?_
    refine mr_iconst (pc' := 28) (v := (0 : Int32)) dX3_gatherSources_27 rfl (by decide) ?_
    obtain ⟨q25, g26, h27⟩ := Option.bind_eq_some_iff.mp h24
    refine mr_cv (pc' := 31) (a := 45) (d1 := 0) dX3_gatherSources_28 rfl rfl rfl rfl rfl rfl (by decide) rfl (by decide) (ok_X3_addSource hR  g26) ?_
    show mr X _ _ 31 _ [] (MM RR q25) _
    refine mr_iconst (pc' := 32) (v := (0 : Int32)) dX3_gatherSources_31 rfl (by decide) ?_
    refine mr_istore (pc' := 34) (lv' := [(4, .int (0 : Int32)), (0, .ref 45), (1, .ref v1), (2, .int v2), (3, .int v3)]) dX3_gatherSources_32 rfl (by decide) rfl ?_
    refine mr_sub [(0, .ref 45), (1, .ref v1), (2, .int v2), (3, .int v3), (4, .int (0 : Int32))] ⟨rfl, rfl, rfl, rfl, rfl, trivial⟩ rfl ?_
    refine ok_lp_X3_gatherSources_34 hR t1 (fun S28 h29 => ?_) FU _ _  h27
    obtain rfl := Option.some.inj h29
    exact mr_return dX3_gatherSources_107 rfl
def lp_X3_youngestSource_7  (S : fS) (K : Int32 → Option (Int32)) : Nat → Int32 → Int64 → Int32 → Option (Int32)
  | 0, _, _, _ => none
  | n + 1, p1, p2, p4 =>
    if (S.1 45 8) ≤ p4 then (K p1) else
    ((gI S 49 13 p4).bind fun a2 =>
    (gI S 50 13 p4).bind fun a5 =>
    if a2 < a5 then ((gI S 49 13 p4).bind fun a9 =>
    (gL S 46 4000 a9).bind fun a12 =>
    (gL S 51 13 p4).bind fun a15 =>
    if p1 < (0 : Int32) then (lp_X3_youngestSource_7  S K n p4 (a12 + a15) (p4 + (1 : Int32))) else
    (if p2 ≤ (a12 + a15) then (lp_X3_youngestSource_7  S K n p1 p2 (p4 + (1 : Int32))) else
    (lp_X3_youngestSource_7  S K n p4 (a12 + a15) (p4 + (1 : Int32))))) else
    (lp_X3_youngestSource_7  S K n p1 p2 (p4 + (1 : Int32))))
set_option maxHeartbeats 4000000 in
set_option maxRecDepth 100000 in
theorem ok_lp_X3_youngestSource_7 {X : mm_C} {RR : Nat → Nat → Option Nat} (hR : RRok RR)   {S : fS} {K : Int32 → Option (Int32)} {r : Int32} (hK : ∀ (k1 : Int32), K k1 = some r → mr X 0 mY_X3_youngestSource 81 [(1, .int k1)] [] (MM RR S) (some (.int r), MM RR S)) : ∀ (n : Nat) (p1 : Int32) (p2 : Int64) (p4 : Int32), lp_X3_youngestSource_7  S K n p1 p2 p4 = some r → mr X 0 mY_X3_youngestSource 7 [(0, .ref 45), (1, .int p1), (2, .long p2), (4, .int p4)] [] (MM RR S) (some (.int r), MM RR S) := by
  intro n
  induction n with
  | zero => intro p1 p2 p4 h; exact mm_no h
  | succ n ih =>
    intro p1 p2 p4 h
    unfold lp_X3_youngestSource_7 at h
    refine mr_iload (pc' := 9) dX3_youngestSource_7 rfl rfl ?_
    refine mr_aload_n (pc' := 10) dX3_youngestSource_9 rfl rfl ?_
    refine mr_getI (pc' := 13) (ci := 3) (j := 8) dX3_youngestSource_10 rfl rfl rfl (by decide) (by decide) rfl ?_
    by_cases c1 : (S.1 45 8) ≤ p4
    · rw [if_pos c1] at h
      refine mr_icmp_ge_t (t := 81) dX3_youngestSource_13 (by decide) c1 ?_
      exact mr_sub [(1, .int p1)] ⟨rfl, trivial⟩ rfl (hK _  h)
    · rw [if_neg c1] at h
      refine mr_icmp_ge_f (t := 81) (pc' := 16) dX3_youngestSource_13 (by decide) rfl c1 ?_
      refine mr_aload_n (pc' := 17) dX3_youngestSource_16 rfl rfl ?_
      refine mr_getR (pc' := 20) (ci := 3) (j := 3) (b := 49) hR dX3_youngestSource_17 rfl rfl rfl (by decide) (by decide) (by decide) rfl rfl ?_
      refine mr_iload (pc' := 22) dX3_youngestSource_20 rfl rfl ?_
      obtain ⟨a2, g3, h4⟩ := Option.bind_eq_some_iff.mp h
      refine mr_iald (pc' := 23) dX3_youngestSource_22 rfl rfl rfl g3 ?_
      refine mr_aload_n (pc' := 24) dX3_youngestSource_23 rfl rfl ?_
      refine mr_getR (pc' := 27) (ci := 3) (j := 4) (b := 50) hR dX3_youngestSource_24 rfl rfl rfl (by decide) (by decide) (by decide) rfl rfl ?_
      refine mr_iload (pc' := 29) dX3_youngestSource_27 rfl rfl ?_
      obtain ⟨a5, g6, h7⟩ := Option.bind_eq_some_iff.mp h4
      refine mr_iald (pc' := 30) dX3_youngestSource_29 rfl rfl rfl g6 ?_
      by_cases c8 : a2 < a5
      · rw [if_pos c8] at h7
        refine mr_icmp_lt_t (t := 36) dX3_youngestSource_30 (by decide) c8 ?_
        refine mr_aload_n (pc' := 37) dX3_youngestSource_36 rfl rfl ?_
        refine mr_getR (pc' := 40) (ci := 3) (j := 0) (b := 46) hR dX3_youngestSource_37 rfl rfl rfl (by decide) (by decide) (by decide) rfl rfl ?_
        refine mr_aload_n (pc' := 41) dX3_youngestSource_40 rfl rfl ?_
        refine mr_getR (pc' := 44) (ci := 3) (j := 3) (b := 49) hR dX3_youngestSource_41 rfl rfl rfl (by decide) (by decide) (by decide) rfl rfl ?_
        refine mr_iload (pc' := 46) dX3_youngestSource_44 rfl rfl ?_
        obtain ⟨a9, g10, h11⟩ := Option.bind_eq_some_iff.mp h7
        refine mr_iald (pc' := 47) dX3_youngestSource_46 rfl rfl rfl g10 ?_
        obtain ⟨a12, g13, h14⟩ := Option.bind_eq_some_iff.mp h11
        refine mr_lald (pc' := 48) dX3_youngestSource_47 rfl rfl rfl g13 ?_
        refine mr_aload_n (pc' := 49) dX3_youngestSource_48 rfl rfl ?_
        refine mr_getR (pc' := 52) (ci := 3) (j := 5) (b := 51) hR dX3_youngestSource_49 rfl rfl rfl (by decide) (by decide) (by decide) rfl rfl ?_
        refine mr_iload (pc' := 54) dX3_youngestSource_52 rfl rfl ?_
        obtain ⟨a15, g16, h17⟩ := Option.bind_eq_some_iff.mp h14
        refine mr_lald (pc' := 55) dX3_youngestSource_54 rfl rfl rfl g16 ?_
        refine mr_ladd (pc' := 56) dX3_youngestSource_55 rfl ?_
        refine mr_lstore (pc' := 58) (lv' := [(5, .long (a12 + a15)), (0, .ref 45), (1, .int p1), (2, .long p2), (4, .int p4)]) dX3_youngestSource_56 rfl (by decide) rfl ?_
        refine mr_iload_n (pc' := 59) dX3_youngestSource_58 rfl rfl ?_
        by_cases c18 : p1 < (0 : Int32)
        · rw [if_pos c18] at h17
          refine mr_if_lt_t (t := 69) dX3_youngestSource_59 (by decide) c18 ?_
          refine mr_iload (pc' := 71) dX3_youngestSource_69 rfl rfl ?_
          refine mr_istore_n (pc' := 72) (lv' := [(1, .int p4), (5, .long (a12 + a15)), (0, .ref 45), (2, .long p2), (4, .int p4)]) dX3_youngestSource_71 rfl (by decide) rfl ?_
          refine mr_lload (pc' := 74) dX3_youngestSource_72 rfl rfl ?_
          refine mr_lstore_n (pc' := 75) (lv' := [(2, .long (a12 + a15)), (1, .int p4), (5, .long (a12 + a15)), (0, .ref 45), (4, .int p4)]) dX3_youngestSource_74 rfl (by decide) rfl ?_
          refine mr_iinc (pc' := 78) (x' := (p4 + (1 : Int32))) (lv' := [(4, .int (p4 + (1 : Int32))), (2, .long (a12 + a15)), (1, .int p4), (5, .long (a12 + a15)), (0, .ref 45)]) dX3_youngestSource_75 rfl (by decide) rfl rfl rfl ?_
          refine mr_goto (t := 7) dX3_youngestSource_78 (by decide) ?_
          exact mr_sub [(0, .ref 45), (1, .int p4), (2, .long (a12 + a15)), (4, .int (p4 + (1 : Int32)))] ⟨rfl, rfl, rfl, rfl, trivial⟩ rfl (ih _ _ _  h17)
        · rw [if_neg c18] at h17
          refine mr_if_lt_f (t := 69) (pc' := 62) dX3_youngestSource_59 (by decide) rfl c18 ?_
          refine mr_lload (pc' := 64) dX3_youngestSource_62 rfl rfl ?_
          refine mr_lload_n (pc' := 65) dX3_youngestSource_64 rfl rfl ?_
          by_cases c19 : p2 ≤ (a12 + a15)
          · rw [if_pos c19] at h17
            refine mr_lcmp_ge_t (t := 75) dX3_youngestSource_65 rfl dX3_youngestSource_66 (by decide) c19 ?_
            refine mr_iinc (pc' := 78) (x' := (p4 + (1 : Int32))) (lv' := [(4, .int (p4 + (1 : Int32))), (5, .long (a12 + a15)), (0, .ref 45), (1, .int p1), (2, .long p2)]) dX3_youngestSource_75 rfl (by decide) rfl rfl rfl ?_
            refine mr_goto (t := 7) dX3_youngestSource_78 (by decide) ?_
            exact mr_sub [(0, .ref 45), (1, .int p1), (2, .long p2), (4, .int (p4 + (1 : Int32)))] ⟨rfl, rfl, rfl, rfl, trivial⟩ rfl (ih _ _ _  h17)
          · rw [if_neg c19] at h17
            refine mr_lcmp_ge_f (t := 75) (pc' := 69) dX3_youngestSource_65 rfl dX3_youngestSource_66 (by decide) rfl c19 ?_
            refine mr_iload (pc' := 71) dX3_youngestSource_69 rfl rfl ?_
            refine mr_istore_n (pc' := 72) (lv' := [(1, .int p4), (5, .long (a12 + a15)), (0, .ref 45), (2, .long p2), (4, .int p4)]) dX3_youngestSource_71 rfl (by decide) rfl ?_
            refine mr_lload (pc' := 74) dX3_youngestSource_72 rfl rfl ?_
            refine mr_lstore_n (pc' := 75) (lv' := [(2, .long (a12 + a15)), (1, .int p4), (5, .long (a12 + a15)), (0, .ref 45), (4, .int p4)]) dX3_youngestSource_74 rfl (by decide) rfl ?_
            refine mr_iinc (pc' := 78) (x' := (p4 + (1 : Int32))) (lv' := [(4, .int (p4 + (1 : Int32))), (2, .long (a12 + a15)), (1, .int p4), (5, .long (a12 + a15)), (0, .ref 45)]) dX3_youngestSource_75 rfl (by decide) rfl rfl rfl ?_
            refine mr_goto (t := 7) dX3_youngestSource_78 (by decide) ?_
            exact mr_sub [(0, .ref 45), (1, .int p4), (2, .long (a12 + a15)), (4, .int (p4 + (1 : Int32)))] ⟨rfl, rfl, rfl, rfl, trivial⟩ rfl (ih _ _ _  h17)
      · rw [if_neg c8] at h7
        refine mr_icmp_lt_f (t := 36) (pc' := 33) dX3_youngestSource_30 (by decide) rfl c8 ?_
        refine mr_goto (t := 75) dX3_youngestSource_33 (by decide) ?_
        refine mr_iinc (pc' := 78) (x' := (p4 + (1 : Int32))) (lv' := [(4, .int (p4 + (1 : Int32))), (0, .ref 45), (1, .int p1), (2, .long p2)]) dX3_youngestSource_75 rfl (by decide) rfl rfl rfl ?_
        refine mr_goto (t := 7) dX3_youngestSource_78 (by decide) ?_
        exact mr_sub [(0, .ref 45), (1, .int p1), (2, .long p2), (4, .int (p4 + (1 : Int32)))] ⟨rfl, rfl, rfl, rfl, trivial⟩ rfl (ih _ _ _  h7)
def f_X3_youngestSource  (S : fS) : Option (Int32) :=
  lp_X3_youngestSource_7  S (fun u20 => some u20) FU (-1 : Int32) (0 : Int64) (0 : Int32)
set_option maxHeartbeats 4000000 in
set_option maxRecDepth 100000 in
theorem ok_X3_youngestSource {X : mm_C} {RR : Nat → Nat → Option Nat} (hR : RRok RR)   {S : fS} {r : Int32} (h : f_X3_youngestSource  S = some r) : mr X 0 mY_X3_youngestSource 0 (lv_args 0 [.ref 45]) [] (MM RR S) (some (.int r), MM RR S) := by
  unfold f_X3_youngestSource at h
  show mr X _ _ 0 [(0, .ref 45)] [] (MM RR S) _
  refine mr_iconst (pc' := 1) (v := (-1 : Int32)) dX3_youngestSource_0 rfl (by decide) ?_
  refine mr_istore_n (pc' := 2) (lv' := [(1, .int (-1 : Int32)), (0, .ref 45)]) dX3_youngestSource_1 rfl (by decide) rfl ?_
  refine mr_lconst (pc' := 3) (v := (0 : Int64)) dX3_youngestSource_2 rfl (by decide) ?_
  refine mr_lstore_n (pc' := 4) (lv' := [(2, .long (0 : Int64)), (1, .int (-1 : Int32)), (0, .ref 45)]) dX3_youngestSource_3 rfl (by decide) rfl ?_
  refine mr_iconst (pc' := 5) (v := (0 : Int32)) dX3_youngestSource_4 rfl (by decide) ?_
  refine mr_istore (pc' := 7) (lv' := [(4, .int (0 : Int32)), (2, .long (0 : Int64)), (1, .int (-1 : Int32)), (0, .ref 45)]) dX3_youngestSource_5 rfl (by decide) rfl ?_
  refine mr_sub [(0, .ref 45), (1, .int (-1 : Int32)), (2, .long (0 : Int64)), (4, .int (0 : Int32))] ⟨rfl, rfl, rfl, rfl, trivial⟩ rfl ?_
  refine ok_lp_X3_youngestSource_7 hR  (fun u20 h21 => ?_) FU _ _ _  h
  refine mr_iload_n (pc' := 82) dX3_youngestSource_81 rfl rfl ?_
  obtain rfl := Option.some.inj h21
  exact mr_ireturn dX3_youngestSource_82 rfl
def lp_X3_merge_2 (p1 : Int32) (K : fS → Option (Int32 × fS)) : Nat → Int32 → fS → Option (Int32 × fS)
  | 0, _, _ => none
  | n + 1, p2, S0 =>
    if (52000 : Int32) < p2 then (K S0) else
    ((f_X3_youngestSource  S0).bind fun q2 =>
    if (0 : Int32) ≤ q2 then ((gI S0 49 13 q2).bind fun a6 =>
    (gI S0 49 13 q2).bind fun a9 =>
    (sI S0 49 13 q2 (a9 + (1 : Int32))).bind fun S12 =>
    (gL S12 46 4000 a6).bind fun a15 =>
    (gL S12 51 13 q2).bind fun a18 =>
    (gI S12 47 4000 a6).bind fun a21 =>
    (gI S12 52 13 q2).bind fun a24 =>
    (f_X3_keep p1 (a15 + a18) (a21 + a24) S12).bind fun q27 =>
    if q27.1 = (0 : Int32) then (some ((0 : Int32), q27.2)) else
    (lp_X3_merge_2 p1 K n (p2 + (1 : Int32)) q27.2)) else
    (some ((1 : Int32), S0)))
set_option maxHeartbeats 4000000 in
set_option maxRecDepth 100000 in
theorem ok_lp_X3_merge_2 {X : mm_C} {RR : Nat → Nat → Option Nat} (hR : RRok RR) {p1 : Int32}  {K : fS → Option (Int32 × fS)} {r : Int32 × fS} (hK : ∀ (Sk : fS), K Sk = some r → mr X 2 mY_X3_merge 81 [] [] (MM RR Sk) (some (.int r.1), MM RR r.2)) : ∀ (n : Nat) (p2 : Int32) (S0 : fS), lp_X3_merge_2 p1 K n p2 S0 = some r → mr X 2 mY_X3_merge 2 [(0, .ref 45), (1, .int p1), (2, .int p2)] [] (MM RR S0) (some (.int r.1), MM RR r.2) := by
  intro n
  induction n with
  | zero => intro p2 S0 h; exact mm_no h
  | succ n ih =>
    intro p2 S0 h
    unfold lp_X3_merge_2 at h
    refine mr_iload_n (pc' := 3) dX3_merge_2 rfl rfl ?_
    refine mr_ldc (pc' := 5) (v := (52000 : Int32)) dX3_merge_3 rfl rfl ?_
    by_cases c1 : (52000 : Int32) < p2
    · rw [if_pos c1] at h
      refine mr_icmp_gt_t (t := 81) dX3_merge_5 (by decide) c1 ?_
      exact mr_sub [] trivial rfl (hK _  h)
    · rw [if_neg c1] at h
      refine mr_icmp_gt_f (t := 81) (pc' := 8) dX3_merge_5 (by decide) rfl c1 ?_
      refine mr_aload_n (pc' := 9) dX3_merge_8 rfl rfl ?_
      obtain ⟨q2, g3, h4⟩ := Option.bind_eq_some_iff.mp h
      refine mr_cv (pc' := 12) (a := 45) (d1 := 0) dX3_merge_9 rfl rfl rfl rfl rfl rfl (by decide) rfl (by decide) (ok_X3_youngestSource hR  g3) ?_
      show mr X _ _ 12 _ [.int q2] (MM RR S0) _
      refine mr_istore_n (pc' := 13) (lv' := [(3, .int q2), (0, .ref 45), (1, .int p1), (2, .int p2)]) dX3_merge_12 rfl (by decide) rfl ?_
      refine mr_iload_n (pc' := 14) dX3_merge_13 rfl rfl ?_
      by_cases c5 : (0 : Int32) ≤ q2
      · rw [if_pos c5] at h4
        refine mr_if_ge_t (t := 19) dX3_merge_14 (by decide) c5 ?_
        refine mr_aload_n (pc' := 20) dX3_merge_19 rfl rfl ?_
        refine mr_getR (pc' := 23) (ci := 3) (j := 3) (b := 49) hR dX3_merge_20 rfl rfl rfl (by decide) (by decide) (by decide) rfl rfl ?_
        refine mr_iload_n (pc' := 24) dX3_merge_23 rfl rfl ?_
        obtain ⟨a6, g7, h8⟩ := Option.bind_eq_some_iff.mp h4
        refine mr_iald (pc' := 25) dX3_merge_24 rfl rfl rfl g7 ?_
        refine mr_istore (pc' := 27) (lv' := [(4, .int a6), (3, .int q2), (0, .ref 45), (1, .int p1), (2, .int p2)]) dX3_merge_25 rfl (by decide) rfl ?_
        refine mr_aload_n (pc' := 28) dX3_merge_27 rfl rfl ?_
        refine mr_getR (pc' := 31) (ci := 3) (j := 3) (b := 49) hR dX3_merge_28 rfl rfl rfl (by decide) (by decide) (by decide) rfl rfl ?_
        refine mr_iload_n (pc' := 32) dX3_merge_31 rfl rfl ?_
        refine mr_dup2 (pc' := 33) dX3_merge_32 rfl ?_
        obtain ⟨a9, g10, h11⟩ := Option.bind_eq_some_iff.mp h8
        refine mr_iald (pc' := 34) dX3_merge_33 rfl rfl rfl g10 ?_
        refine mr_iconst (pc' := 35) (v := (1 : Int32)) dX3_merge_34 rfl (by decide) ?_
        refine mr_iadd (pc' := 36) dX3_merge_35 rfl ?_
        obtain ⟨S12, g13, h14⟩ := Option.bind_eq_some_iff.mp h11
        refine mr_iast (pc' := 37) dX3_merge_36 rfl rfl rfl g13 ?_
        refine mr_aload_n (pc' := 38) dX3_merge_37 rfl rfl ?_
        refine mr_iload_n (pc' := 39) dX3_merge_38 rfl rfl ?_
        refine mr_aload_n (pc' := 40) dX3_merge_39 rfl rfl ?_
        refine mr_getR (pc' := 43) (ci := 3) (j := 0) (b := 46) hR dX3_merge_40 rfl rfl rfl (by decide) (by decide) (by decide) rfl rfl ?_
        refine mr_iload (pc' := 45) dX3_merge_43 rfl rfl ?_
        obtain ⟨a15, g16, h17⟩ := Option.bind_eq_some_iff.mp h14
        refine mr_lald (pc' := 46) dX3_merge_45 rfl rfl rfl g16 ?_
        refine mr_aload_n (pc' := 47) dX3_merge_46 rfl rfl ?_
        refine mr_getR (pc' := 50) (ci := 3) (j := 5) (b := 51) hR dX3_merge_47 rfl rfl rfl (by decide) (by decide) (by decide) rfl rfl ?_
        refine mr_iload_n (pc' := 51) dX3_merge_50 rfl rfl ?_
        obtain ⟨a18, g19, h20⟩ := Option.bind_eq_some_iff.mp h17
        refine mr_lald (pc' := 52) dX3_merge_51 rfl rfl rfl g19 ?_
        refine mr_ladd (pc' := 53) dX3_merge_52 rfl ?_
        refine mr_aload_n (pc' := 54) dX3_merge_53 rfl rfl ?_
        refine mr_getR (pc' := 57) (ci := 3) (j := 1) (b := 47) hR dX3_merge_54 rfl rfl rfl (by decide) (by decide) (by decide) rfl rfl ?_
        refine mr_iload (pc' := 59) dX3_merge_57 rfl rfl ?_
        obtain ⟨a21, g22, h23⟩ := Option.bind_eq_some_iff.mp h20
        refine mr_iald (pc' := 60) dX3_merge_59 rfl rfl rfl g22 ?_
        refine mr_aload_n (pc' := 61) dX3_merge_60 rfl rfl ?_
        refine mr_getR (pc' := 64) (ci := 3) (j := 6) (b := 52) hR dX3_merge_61 rfl rfl rfl (by decide) (by decide) (by decide) rfl rfl ?_
        refine mr_iload_n (pc' := 65) dX3_merge_64 rfl rfl ?_
        obtain ⟨a24, g25, h26⟩ := Option.bind_eq_some_iff.mp h23
        refine mr_iald (pc' := 66) dX3_merge_65 rfl rfl rfl g25 ?_
        refine mr_iadd (pc' := 67) dX3_merge_66 rfl ?_
        obtain ⟨q27, g28, h29⟩ := Option.bind_eq_some_iff.mp h26
        refine mr_cv (pc' := 70) (a := 45) (d1 := 1) dX3_merge_67 rfl rfl rfl rfl rfl rfl (by decide) rfl (by decide) (ok_X3_keep hR  g28) ?_
        show mr X _ _ 70 _ [.int q27.1] (MM RR q27.2) _
        by_cases c30 : q27.1 = (0 : Int32)
        · rw [if_pos c30] at h29
          refine mr_if_ne_f (t := 75) (pc' := 73) dX3_merge_70 (by decide) rfl (not_not_intro c30) ?_
          refine mr_iconst (pc' := 74) (v := (0 : Int32)) dX3_merge_73 rfl (by decide) ?_
          obtain rfl := Option.some.inj h29
          exact mr_zreturn dX3_merge_74 rfl (by decide)
        · rw [if_neg c30] at h29
          refine mr_if_ne_t (t := 75) dX3_merge_70 (by decide) c30 ?_
          refine mr_iinc (pc' := 78) (x' := (p2 + (1 : Int32))) (lv' := [(2, .int (p2 + (1 : Int32))), (4, .int a6), (3, .int q2), (0, .ref 45), (1, .int p1)]) dX3_merge_75 rfl (by decide) rfl rfl rfl ?_
          refine mr_goto (t := 2) dX3_merge_78 (by decide) ?_
          exact mr_sub [(0, .ref 45), (1, .int p1), (2, .int (p2 + (1 : Int32)))] ⟨rfl, rfl, rfl, trivial⟩ rfl (ih _ _  h29)
      · rw [if_neg c5] at h4
        refine mr_if_ge_f (t := 19) (pc' := 17) dX3_merge_14 (by decide) rfl c5 ?_
        refine mr_iconst (pc' := 18) (v := (1 : Int32)) dX3_merge_17 rfl (by decide) ?_
        obtain rfl := Option.some.inj h4
        exact mr_zreturn dX3_merge_18 rfl (by decide)
def f_X3_merge (v1 : Int32) (S : fS) : Option (Int32 × fS) :=
  lp_X3_merge_2 v1 (fun S31 => some ((0 : Int32), S31)) FU (0 : Int32) S
set_option maxHeartbeats 4000000 in
set_option maxRecDepth 100000 in
theorem ok_X3_merge {X : mm_C} {RR : Nat → Nat → Option Nat} (hR : RRok RR) {v1 : Int32}  {S : fS} {r : Int32 × fS} (h : f_X3_merge v1 S = some r) : mr X 2 mY_X3_merge 0 (lv_args 0 [.ref 45, .int v1]) [] (MM RR S) (some (.int r.1), MM RR r.2) := by
  unfold f_X3_merge at h
  show mr X _ _ 0 [(0, .ref 45), (1, .int v1)] [] (MM RR S) _
  refine mr_iconst (pc' := 1) (v := (0 : Int32)) dX3_merge_0 rfl (by decide) ?_
  refine mr_istore_n (pc' := 2) (lv' := [(2, .int (0 : Int32)), (0, .ref 45), (1, .int v1)]) dX3_merge_1 rfl (by decide) rfl ?_
  refine mr_sub [(0, .ref 45), (1, .int v1), (2, .int (0 : Int32))] ⟨rfl, rfl, rfl, trivial⟩ rfl ?_
  refine ok_lp_X3_merge_2 hR  (fun S31 h32 => ?_) FU _ _  h
  refine mr_iconst (pc' := 82) (v := (0 : Int32)) dX3_merge_81 rfl (by decide) ?_
  obtain rfl := Option.some.inj h32
  exact mr_zreturn dX3_merge_82 rfl (by decide)
def lp_X3_spread_24 (p1 : Nat) (p2 : Int32) (p3 : Int32) (p4 : Int32) (K : fS → Option (Int32 × fS)) : Nat → Int32 → fS → Option (Int32 × fS)
  | 0, _, _ => none
  | n + 1, p5, S0 =>
    if (S0.1 p1 6) ≤ p5 then (K S0) else
    ((sI S0 48 171 ((p4 * (S0.1 p1 6)) + p5) (S0.1 45 7)).bind fun S7 =>
    if (0 : Int32) < p4 then ((f_X3_gatherSources p1 p4 p5 S7).bind fun q11 =>
    if (1 : Int32) = (0 : Int32) then (some ((0 : Int32), q11)) else
    ((f_X3_merge (S0.1 45 7) q11).bind fun q15 =>
    if q15.1 = (0 : Int32) then (some ((0 : Int32), q15.2)) else
    ((sI q15.2 48 171 (((p4 * (q15.2.1 p1 6)) + p5) + (1 : Int32)) (q15.2.1 45 7)).bind fun S19 =>
    lp_X3_spread_24 p1 p2 p3 p4 K n (p5 + (1 : Int32)) S19))) else
    (if p5 = p2 then ((f_X3_keep (S0.1 45 7) (0 : Int64) (0 : Int32) S7).bind fun q34 =>
    if q34.1 = (0 : Int32) then ((f_X3_gatherSources p1 p4 p5 q34.2).bind fun q38 =>
    if (0 : Int32) = (0 : Int32) then (some ((0 : Int32), q38)) else
    ((f_X3_merge (S0.1 45 7) q38).bind fun q42 =>
    if q42.1 = (0 : Int32) then (some ((0 : Int32), q42.2)) else
    ((sI q42.2 48 171 (((p4 * (q42.2.1 p1 6)) + p5) + (1 : Int32)) (q42.2.1 45 7)).bind fun S46 =>
    lp_X3_spread_24 p1 p2 p3 p4 K n (p5 + (1 : Int32)) S46))) else
    ((f_X3_gatherSources p1 p4 p5 q34.2).bind fun q49 =>
    if (1 : Int32) = (0 : Int32) then (some ((0 : Int32), q49)) else
    ((f_X3_merge (S0.1 45 7) q49).bind fun q53 =>
    if q53.1 = (0 : Int32) then (some ((0 : Int32), q53.2)) else
    ((sI q53.2 48 171 (((p4 * (q53.2.1 p1 6)) + p5) + (1 : Int32)) (q53.2.1 45 7)).bind fun S57 =>
    lp_X3_spread_24 p1 p2 p3 p4 K n (p5 + (1 : Int32)) S57)))) else
    ((f_X3_gatherSources p1 p4 p5 S7).bind fun q23 =>
    if (1 : Int32) = (0 : Int32) then (some ((0 : Int32), q23)) else
    ((f_X3_merge (S0.1 45 7) q23).bind fun q27 =>
    if q27.1 = (0 : Int32) then (some ((0 : Int32), q27.2)) else
    ((sI q27.2 48 171 (((p4 * (q27.2.1 p1 6)) + p5) + (1 : Int32)) (q27.2.1 45 7)).bind fun S31 =>
    lp_X3_spread_24 p1 p2 p3 p4 K n (p5 + (1 : Int32)) S31)))))
set_option maxHeartbeats 4000000 in
set_option maxRecDepth 100000 in
theorem ok_lp_X3_spread_24 {X : mm_C} {RR : Nat → Nat → Option Nat} (hR : RRok RR) {p1 : Nat} {p2 : Int32} {p3 : Int32} {p4 : Int32} (t1 : tg p1 = 8) {K : fS → Option (Int32 × fS)} {r : Int32 × fS} (hK : ∀ (Sk : fS), K Sk = some r → mr X 3 mY_X3_spread 137 [(0, .ref 45), (1, .ref p1), (2, .int p2), (3, .int p3), (4, .int p4)] [] (MM RR Sk) (some (.int r.1), MM RR r.2)) : ∀ (n : Nat) (p5 : Int32) (S0 : fS), lp_X3_spread_24 p1 p2 p3 p4 K n p5 S0 = some r → mr X 3 mY_X3_spread 24 [(0, .ref 45), (1, .ref p1), (2, .int p2), (3, .int p3), (4, .int p4), (5, .int p5)] [] (MM RR S0) (some (.int r.1), MM RR r.2) := by
  intro n
  induction n with
  | zero => intro p5 S0 h; exact mm_no h
  | succ n ih =>
    intro p5 S0 h
    unfold lp_X3_spread_24 at h
    refine mr_iload (pc' := 26) dX3_spread_24 rfl rfl ?_
    refine mr_aload_n (pc' := 27) dX3_spread_26 rfl rfl ?_
    refine mr_getI (pc' := 30) (ci := 8) (j := 6) dX3_spread_27 rfl rfl t1 (by decide) (by decide) rfl ?_
    by_cases c6 : (S0.1 p1 6) ≤ p5
    · rw [if_pos c6] at h
      refine mr_icmp_ge_t (t := 137) dX3_spread_30 (by decide) c6 ?_
      exact mr_sub [(0, .ref 45), (1, .ref p1), (2, .int p2), (3, .int p3), (4, .int p4)] ⟨rfl, rfl, rfl, rfl, rfl, trivial⟩ rfl (hK _  h)
    · rw [if_neg c6] at h
      refine mr_icmp_ge_f (t := 137) (pc' := 33) dX3_spread_30 (by decide) rfl c6 ?_
      refine mr_aload_n (pc' := 34) dX3_spread_33 rfl rfl ?_
      refine mr_getI (pc' := 37) (ci := 3) (j := 7) dX3_spread_34 rfl rfl rfl (by decide) (by decide) rfl ?_
      refine mr_istore (pc' := 39) (lv' := [(6, .int (S0.1 45 7)), (0, .ref 45), (1, .ref p1), (2, .int p2), (3, .int p3), (4, .int p4), (5, .int p5)]) dX3_spread_37 rfl (by decide) rfl ?_
      refine mr_aload_n (pc' := 40) dX3_spread_39 rfl rfl ?_
      refine mr_getR (pc' := 43) (ci := 3) (j := 2) (b := 48) hR dX3_spread_40 rfl rfl rfl (by decide) (by decide) (by decide) rfl rfl ?_
      refine mr_iload (pc' := 45) dX3_spread_43 rfl rfl ?_
      refine mr_aload_n (pc' := 46) dX3_spread_45 rfl rfl ?_
      refine mr_getI (pc' := 49) (ci := 8) (j := 6) dX3_spread_46 rfl rfl t1 (by decide) (by decide) rfl ?_
      refine mr_imul (pc' := 50) dX3_spread_49 rfl ?_
      refine mr_iload (pc' := 52) dX3_spread_50 rfl rfl ?_
      refine mr_iadd (pc' := 53) dX3_spread_52 rfl ?_
      refine mr_iload (pc' := 55) dX3_spread_53 rfl rfl ?_
      obtain ⟨S7, g8, h9⟩ := Option.bind_eq_some_iff.mp h
      refine mr_iast (pc' := 56) dX3_spread_55 rfl rfl rfl g8 ?_
      refine mr_iload (pc' := 58) dX3_spread_56 rfl rfl ?_
      by_cases c10 : (0 : Int32) < p4
      · rw [if_pos c10] at h9
        refine mr_if_gt_t (t := 78) dX3_spread_58 (by decide) c10 ?_
        refine mr_iconst (pc' := 79) (v := (1 : Int32)) dX3_spread_78 rfl (by decide) ?_
        refine mr_goto (t := 83) dX3_spread_79 (by decide) ?_
        refine mr_istore (pc' := 85) (lv' := [(7, .int (1 : Int32)), (6, .int (S0.1 45 7)), (0, .ref 45), (1, .ref p1), (2, .int p2), (3, .int p3), (4, .int p4), (5, .int p5)]) dX3_spread_83 rfl (by decide) rfl ?_
        refine mr_aload_n (pc' := 86) dX3_spread_85 rfl rfl ?_
        refine mr_aload_n (pc' := 87) dX3_spread_86 rfl rfl ?_
        refine mr_iload (pc' := 89) dX3_spread_87 rfl rfl ?_
        refine mr_iload (pc' := 91) dX3_spread_89 rfl rfl ?_
        obtain ⟨q11, g12, h13⟩ := Option.bind_eq_some_iff.mp h9
        refine mr_cv (pc' := 94) (a := 45) (d1 := 1) dX3_spread_91 rfl rfl rfl rfl rfl rfl (by decide) rfl (by decide) (ok_X3_gatherSources hR t1 g12) ?_
        show mr X _ _ 94 _ [] (MM RR q11) _
        refine mr_iload (pc' := 96) dX3_spread_94 rfl rfl ?_
        by_cases c14 : (1 : Int32) = (0 : Int32)
        · rw [if_pos c14] at h13
          refine mr_if_eq_t (t := 108) dX3_spread_96 (by decide) c14 ?_
          refine mr_iconst (pc' := 109) (v := (0 : Int32)) dX3_spread_108 rfl (by decide) ?_
          obtain rfl := Option.some.inj h13
          exact mr_zreturn dX3_spread_109 rfl (by decide)
        · rw [if_neg c14] at h13
          refine mr_if_eq_f (t := 108) (pc' := 99) dX3_spread_96 (by decide) rfl c14 ?_
          refine mr_aload_n (pc' := 100) dX3_spread_99 rfl rfl ?_
          refine mr_iload (pc' := 102) dX3_spread_100 rfl rfl ?_
          obtain ⟨q15, g16, h17⟩ := Option.bind_eq_some_iff.mp h13
          refine mr_cv (pc' := 105) (a := 45) (d1 := 2) dX3_spread_102 rfl rfl rfl rfl rfl rfl (by decide) rfl (by decide) (ok_X3_merge hR  g16) ?_
          show mr X _ _ 105 _ [.int q15.1] (MM RR q15.2) _
          by_cases c18 : q15.1 = (0 : Int32)
          · rw [if_pos c18] at h17
            refine mr_if_ne_f (t := 110) (pc' := 108) dX3_spread_105 (by decide) rfl (not_not_intro c18) ?_
            refine mr_iconst (pc' := 109) (v := (0 : Int32)) dX3_spread_108 rfl (by decide) ?_
            obtain rfl := Option.some.inj h17
            exact mr_zreturn dX3_spread_109 rfl (by decide)
          · rw [if_neg c18] at h17
            refine mr_if_ne_t (t := 110) dX3_spread_105 (by decide) c18 ?_
            refine mr_aload_n (pc' := 111) dX3_spread_110 rfl rfl ?_
            refine mr_getR (pc' := 114) (ci := 3) (j := 2) (b := 48) hR dX3_spread_111 rfl rfl rfl (by decide) (by decide) (by decide) rfl rfl ?_
            refine mr_iload (pc' := 116) dX3_spread_114 rfl rfl ?_
            refine mr_aload_n (pc' := 117) dX3_spread_116 rfl rfl ?_
            refine mr_getI (pc' := 120) (ci := 8) (j := 6) dX3_spread_117 rfl rfl t1 (by decide) (by decide) rfl ?_
            refine mr_imul (pc' := 121) dX3_spread_120 rfl ?_
            refine mr_iload (pc' := 123) dX3_spread_121 rfl rfl ?_
            refine mr_iadd (pc' := 124) dX3_spread_123 rfl ?_
            refine mr_iconst (pc' := 125) (v := (1 : Int32)) dX3_spread_124 rfl (by decide) ?_
            refine mr_iadd (pc' := 126) dX3_spread_125 rfl ?_
            refine mr_aload_n (pc' := 127) dX3_spread_126 rfl rfl ?_
            refine mr_getI (pc' := 130) (ci := 3) (j := 7) dX3_spread_127 rfl rfl rfl (by decide) (by decide) rfl ?_
            obtain ⟨S19, g20, h21⟩ := Option.bind_eq_some_iff.mp h17
            refine mr_iast (pc' := 131) dX3_spread_130 rfl rfl rfl g20 ?_
            refine mr_iinc (pc' := 134) (x' := (p5 + (1 : Int32))) (lv' := [(5, .int (p5 + (1 : Int32))), (7, .int (1 : Int32)), (6, .int (S0.1 45 7)), (0, .ref 45), (1, .ref p1), (2, .int p2), (3, .int p3), (4, .int p4)]) dX3_spread_131 rfl (by decide) rfl rfl rfl ?_
            refine mr_goto (t := 24) dX3_spread_134 (by decide) ?_
            exact mr_sub [(0, .ref 45), (1, .ref p1), (2, .int p2), (3, .int p3), (4, .int p4), (5, .int (p5 + (1 : Int32)))] ⟨rfl, rfl, rfl, rfl, rfl, rfl, trivial⟩ rfl (ih _ _  h21)
      · rw [if_neg c10] at h9
        refine mr_if_gt_f (t := 78) (pc' := 61) dX3_spread_58 (by decide) rfl c10 ?_
        refine mr_iload (pc' := 63) dX3_spread_61 rfl rfl ?_
        refine mr_iload_n (pc' := 64) dX3_spread_63 rfl rfl ?_
        by_cases c22 : p5 = p2
        · rw [if_pos c22] at h9
          refine mr_icmp_ne_f (t := 78) (pc' := 67) dX3_spread_64 (by decide) rfl (not_not_intro c22) ?_
          refine mr_aload_n (pc' := 68) dX3_spread_67 rfl rfl ?_
          refine mr_iload (pc' := 70) dX3_spread_68 rfl rfl ?_
          refine mr_lconst (pc' := 71) (v := (0 : Int64)) dX3_spread_70 rfl (by decide) ?_
          refine mr_iconst (pc' := 72) (v := (0 : Int32)) dX3_spread_71 rfl (by decide) ?_
          obtain ⟨q34, g35, h36⟩ := Option.bind_eq_some_iff.mp h9
          refine mr_cv (pc' := 75) (a := 45) (d1 := 1) dX3_spread_72 rfl rfl rfl rfl rfl rfl (by decide) rfl (by decide) (ok_X3_keep hR  g35) ?_
          show mr X _ _ 75 _ [.int q34.1] (MM RR q34.2) _
          by_cases c37 : q34.1 = (0 : Int32)
          · rw [if_pos c37] at h36
            refine mr_if_eq_t (t := 82) dX3_spread_75 (by decide) c37 ?_
            refine mr_iconst (pc' := 83) (v := (0 : Int32)) dX3_spread_82 rfl (by decide) ?_
            refine mr_istore (pc' := 85) (lv' := [(7, .int (0 : Int32)), (6, .int (S0.1 45 7)), (0, .ref 45), (1, .ref p1), (2, .int p2), (3, .int p3), (4, .int p4), (5, .int p5)]) dX3_spread_83 rfl (by decide) rfl ?_
            refine mr_aload_n (pc' := 86) dX3_spread_85 rfl rfl ?_
            refine mr_aload_n (pc' := 87) dX3_spread_86 rfl rfl ?_
            refine mr_iload (pc' := 89) dX3_spread_87 rfl rfl ?_
            refine mr_iload (pc' := 91) dX3_spread_89 rfl rfl ?_
            obtain ⟨q38, g39, h40⟩ := Option.bind_eq_some_iff.mp h36
            refine mr_cv (pc' := 94) (a := 45) (d1 := 1) dX3_spread_91 rfl rfl rfl rfl rfl rfl (by decide) rfl (by decide) (ok_X3_gatherSources hR t1 g39) ?_
            show mr X _ _ 94 _ [] (MM RR q38) _
            refine mr_iload (pc' := 96) dX3_spread_94 rfl rfl ?_
            by_cases c41 : (0 : Int32) = (0 : Int32)
            · rw [if_pos c41] at h40
              refine mr_if_eq_t (t := 108) dX3_spread_96 (by decide) c41 ?_
              refine mr_iconst (pc' := 109) (v := (0 : Int32)) dX3_spread_108 rfl (by decide) ?_
              obtain rfl := Option.some.inj h40
              exact mr_zreturn dX3_spread_109 rfl (by decide)
            · rw [if_neg c41] at h40
              refine mr_if_eq_f (t := 108) (pc' := 99) dX3_spread_96 (by decide) rfl c41 ?_
              refine mr_aload_n (pc' := 100) dX3_spread_99 rfl rfl ?_
              refine mr_iload (pc' := 102) dX3_spread_100 rfl rfl ?_
              obtain ⟨q42, g43, h44⟩ := Option.bind_eq_some_iff.mp h40
              refine mr_cv (pc' := 105) (a := 45) (d1 := 2) dX3_spread_102 rfl rfl rfl rfl rfl rfl (by decide) rfl (by decide) (ok_X3_merge hR  g43) ?_
              show mr X _ _ 105 _ [.int q42.1] (MM RR q42.2) _
              by_cases c45 : q42.1 = (0 : Int32)
              · rw [if_pos c45] at h44
                refine mr_if_ne_f (t := 110) (pc' := 108) dX3_spread_105 (by decide) rfl (not_not_intro c45) ?_
                refine mr_iconst (pc' := 109) (v := (0 : Int32)) dX3_spread_108 rfl (by decide) ?_
                obtain rfl := Option.some.inj h44
                exact mr_zreturn dX3_spread_109 rfl (by decide)
              · rw [if_neg c45] at h44
                refine mr_if_ne_t (t := 110) dX3_spread_105 (by decide) c45 ?_
                refine mr_aload_n (pc' := 111) dX3_spread_110 rfl rfl ?_
                refine mr_getR (pc' := 114) (ci := 3) (j := 2) (b := 48) hR dX3_spread_111 rfl rfl rfl (by decide) (by decide) (by decide) rfl rfl ?_
                refine mr_iload (pc' := 116) dX3_spread_114 rfl rfl ?_
                refine mr_aload_n (pc' := 117) dX3_spread_116 rfl rfl ?_
                refine mr_getI (pc' := 120) (ci := 8) (j := 6) dX3_spread_117 rfl rfl t1 (by decide) (by decide) rfl ?_
                refine mr_imul (pc' := 121) dX3_spread_120 rfl ?_
                refine mr_iload (pc' := 123) dX3_spread_121 rfl rfl ?_
                refine mr_iadd (pc' := 124) dX3_spread_123 rfl ?_
                refine mr_iconst (pc' := 125) (v := (1 : Int32)) dX3_spread_124 rfl (by decide) ?_
                refine mr_iadd (pc' := 126) dX3_spread_125 rfl ?_
                refine mr_aload_n (pc' := 127) dX3_spread_126 rfl rfl ?_
                refine mr_getI (pc' := 130) (ci := 3) (j := 7) dX3_spread_127 rfl rfl rfl (by decide) (by decide) rfl ?_
                obtain ⟨S46, g47, h48⟩ := Option.bind_eq_some_iff.mp h44
                refine mr_iast (pc' := 131) dX3_spread_130 rfl rfl rfl g47 ?_
                refine mr_iinc (pc' := 134) (x' := (p5 + (1 : Int32))) (lv' := [(5, .int (p5 + (1 : Int32))), (7, .int (0 : Int32)), (6, .int (S0.1 45 7)), (0, .ref 45), (1, .ref p1), (2, .int p2), (3, .int p3), (4, .int p4)]) dX3_spread_131 rfl (by decide) rfl rfl rfl ?_
                refine mr_goto (t := 24) dX3_spread_134 (by decide) ?_
                exact mr_sub [(0, .ref 45), (1, .ref p1), (2, .int p2), (3, .int p3), (4, .int p4), (5, .int (p5 + (1 : Int32)))] ⟨rfl, rfl, rfl, rfl, rfl, rfl, trivial⟩ rfl (ih _ _  h48)
          · rw [if_neg c37] at h36
            refine mr_if_eq_f (t := 82) (pc' := 78) dX3_spread_75 (by decide) rfl c37 ?_
            refine mr_iconst (pc' := 79) (v := (1 : Int32)) dX3_spread_78 rfl (by decide) ?_
            refine mr_goto (t := 83) dX3_spread_79 (by decide) ?_
            refine mr_istore (pc' := 85) (lv' := [(7, .int (1 : Int32)), (6, .int (S0.1 45 7)), (0, .ref 45), (1, .ref p1), (2, .int p2), (3, .int p3), (4, .int p4), (5, .int p5)]) dX3_spread_83 rfl (by decide) rfl ?_
            refine mr_aload_n (pc' := 86) dX3_spread_85 rfl rfl ?_
            refine mr_aload_n (pc' := 87) dX3_spread_86 rfl rfl ?_
            refine mr_iload (pc' := 89) dX3_spread_87 rfl rfl ?_
            refine mr_iload (pc' := 91) dX3_spread_89 rfl rfl ?_
            obtain ⟨q49, g50, h51⟩ := Option.bind_eq_some_iff.mp h36
            refine mr_cv (pc' := 94) (a := 45) (d1 := 1) dX3_spread_91 rfl rfl rfl rfl rfl rfl (by decide) rfl (by decide) (ok_X3_gatherSources hR t1 g50) ?_
            show mr X _ _ 94 _ [] (MM RR q49) _
            refine mr_iload (pc' := 96) dX3_spread_94 rfl rfl ?_
            by_cases c52 : (1 : Int32) = (0 : Int32)
            · rw [if_pos c52] at h51
              refine mr_if_eq_t (t := 108) dX3_spread_96 (by decide) c52 ?_
              refine mr_iconst (pc' := 109) (v := (0 : Int32)) dX3_spread_108 rfl (by decide) ?_
              obtain rfl := Option.some.inj h51
              exact mr_zreturn dX3_spread_109 rfl (by decide)
            · rw [if_neg c52] at h51
              refine mr_if_eq_f (t := 108) (pc' := 99) dX3_spread_96 (by decide) rfl c52 ?_
              refine mr_aload_n (pc' := 100) dX3_spread_99 rfl rfl ?_
              refine mr_iload (pc' := 102) dX3_spread_100 rfl rfl ?_
              obtain ⟨q53, g54, h55⟩ := Option.bind_eq_some_iff.mp h51
              refine mr_cv (pc' := 105) (a := 45) (d1 := 2) dX3_spread_102 rfl rfl rfl rfl rfl rfl (by decide) rfl (by decide) (ok_X3_merge hR  g54) ?_
              show mr X _ _ 105 _ [.int q53.1] (MM RR q53.2) _
              by_cases c56 : q53.1 = (0 : Int32)
              · rw [if_pos c56] at h55
                refine mr_if_ne_f (t := 110) (pc' := 108) dX3_spread_105 (by decide) rfl (not_not_intro c56) ?_
                refine mr_iconst (pc' := 109) (v := (0 : Int32)) dX3_spread_108 rfl (by decide) ?_
                obtain rfl := Option.some.inj h55
                exact mr_zreturn dX3_spread_109 rfl (by decide)
              · rw [if_neg c56] at h55
                refine mr_if_ne_t (t := 110) dX3_spread_105 (by decide) c56 ?_
                refine mr_aload_n (pc' := 111) dX3_spread_110 rfl rfl ?_
                refine mr_getR (pc' := 114) (ci := 3) (j := 2) (b := 48) hR dX3_spread_111 rfl rfl rfl (by decide) (by decide) (by decide) rfl rfl ?_
                refine mr_iload (pc' := 116) dX3_spread_114 rfl rfl ?_
                refine mr_aload_n (pc' := 117) dX3_spread_116 rfl rfl ?_
                refine mr_getI (pc' := 120) (ci := 8) (j := 6) dX3_spread_117 rfl rfl t1 (by decide) (by decide) rfl ?_
                refine mr_imul (pc' := 121) dX3_spread_120 rfl ?_
                refine mr_iload (pc' := 123) dX3_spread_121 rfl rfl ?_
                refine mr_iadd (pc' := 124) dX3_spread_123 rfl ?_
                refine mr_iconst (pc' := 125) (v := (1 : Int32)) dX3_spread_124 rfl (by decide) ?_
                refine mr_iadd (pc' := 126) dX3_spread_125 rfl ?_
                refine mr_aload_n (pc' := 127) dX3_spread_126 rfl rfl ?_
                refine mr_getI (pc' := 130) (ci := 3) (j := 7) dX3_spread_127 rfl rfl rfl (by decide) (by decide) rfl ?_
                obtain ⟨S57, g58, h59⟩ := Option.bind_eq_some_iff.mp h55
                refine mr_iast (pc' := 131) dX3_spread_130 rfl rfl rfl g58 ?_
                refine mr_iinc (pc' := 134) (x' := (p5 + (1 : Int32))) (lv' := [(5, .int (p5 + (1 : Int32))), (7, .int (1 : Int32)), (6, .int (S0.1 45 7)), (0, .ref 45), (1, .ref p1), (2, .int p2), (3, .int p3), (4, .int p4)]) dX3_spread_131 rfl (by decide) rfl rfl rfl ?_
                refine mr_goto (t := 24) dX3_spread_134 (by decide) ?_
                exact mr_sub [(0, .ref 45), (1, .ref p1), (2, .int p2), (3, .int p3), (4, .int p4), (5, .int (p5 + (1 : Int32)))] ⟨rfl, rfl, rfl, rfl, rfl, rfl, trivial⟩ rfl (ih _ _  h59)
        · rw [if_neg c22] at h9
          refine mr_icmp_ne_t (t := 78) dX3_spread_64 (by decide) c22 ?_
          refine mr_iconst (pc' := 79) (v := (1 : Int32)) dX3_spread_78 rfl (by decide) ?_
          refine mr_goto (t := 83) dX3_spread_79 (by decide) ?_
          refine mr_istore (pc' := 85) (lv' := [(7, .int (1 : Int32)), (6, .int (S0.1 45 7)), (0, .ref 45), (1, .ref p1), (2, .int p2), (3, .int p3), (4, .int p4), (5, .int p5)]) dX3_spread_83 rfl (by decide) rfl ?_
          refine mr_aload_n (pc' := 86) dX3_spread_85 rfl rfl ?_
          refine mr_aload_n (pc' := 87) dX3_spread_86 rfl rfl ?_
          refine mr_iload (pc' := 89) dX3_spread_87 rfl rfl ?_
          refine mr_iload (pc' := 91) dX3_spread_89 rfl rfl ?_
          obtain ⟨q23, g24, h25⟩ := Option.bind_eq_some_iff.mp h9
          refine mr_cv (pc' := 94) (a := 45) (d1 := 1) dX3_spread_91 rfl rfl rfl rfl rfl rfl (by decide) rfl (by decide) (ok_X3_gatherSources hR t1 g24) ?_
          show mr X _ _ 94 _ [] (MM RR q23) _
          refine mr_iload (pc' := 96) dX3_spread_94 rfl rfl ?_
          by_cases c26 : (1 : Int32) = (0 : Int32)
          · rw [if_pos c26] at h25
            refine mr_if_eq_t (t := 108) dX3_spread_96 (by decide) c26 ?_
            refine mr_iconst (pc' := 109) (v := (0 : Int32)) dX3_spread_108 rfl (by decide) ?_
            obtain rfl := Option.some.inj h25
            exact mr_zreturn dX3_spread_109 rfl (by decide)
          · rw [if_neg c26] at h25
            refine mr_if_eq_f (t := 108) (pc' := 99) dX3_spread_96 (by decide) rfl c26 ?_
            refine mr_aload_n (pc' := 100) dX3_spread_99 rfl rfl ?_
            refine mr_iload (pc' := 102) dX3_spread_100 rfl rfl ?_
            obtain ⟨q27, g28, h29⟩ := Option.bind_eq_some_iff.mp h25
            refine mr_cv (pc' := 105) (a := 45) (d1 := 2) dX3_spread_102 rfl rfl rfl rfl rfl rfl (by decide) rfl (by decide) (ok_X3_merge hR  g28) ?_
            show mr X _ _ 105 _ [.int q27.1] (MM RR q27.2) _
            by_cases c30 : q27.1 = (0 : Int32)
            · rw [if_pos c30] at h29
              refine mr_if_ne_f (t := 110) (pc' := 108) dX3_spread_105 (by decide) rfl (not_not_intro c30) ?_
              refine mr_iconst (pc' := 109) (v := (0 : Int32)) dX3_spread_108 rfl (by decide) ?_
              obtain rfl := Option.some.inj h29
              exact mr_zreturn dX3_spread_109 rfl (by decide)
            · rw [if_neg c30] at h29
              refine mr_if_ne_t (t := 110) dX3_spread_105 (by decide) c30 ?_
              refine mr_aload_n (pc' := 111) dX3_spread_110 rfl rfl ?_
              refine mr_getR (pc' := 114) (ci := 3) (j := 2) (b := 48) hR dX3_spread_111 rfl rfl rfl (by decide) (by decide) (by decide) rfl rfl ?_
              refine mr_iload (pc' := 116) dX3_spread_114 rfl rfl ?_
              refine mr_aload_n (pc' := 117) dX3_spread_116 rfl rfl ?_
              refine mr_getI (pc' := 120) (ci := 8) (j := 6) dX3_spread_117 rfl rfl t1 (by decide) (by decide) rfl ?_
              refine mr_imul (pc' := 121) dX3_spread_120 rfl ?_
              refine mr_iload (pc' := 123) dX3_spread_121 rfl rfl ?_
              refine mr_iadd (pc' := 124) dX3_spread_123 rfl ?_
              refine mr_iconst (pc' := 125) (v := (1 : Int32)) dX3_spread_124 rfl (by decide) ?_
              refine mr_iadd (pc' := 126) dX3_spread_125 rfl ?_
              refine mr_aload_n (pc' := 127) dX3_spread_126 rfl rfl ?_
              refine mr_getI (pc' := 130) (ci := 3) (j := 7) dX3_spread_127 rfl rfl rfl (by decide) (by decide) rfl ?_
              obtain ⟨S31, g32, h33⟩ := Option.bind_eq_some_iff.mp h29
              refine mr_iast (pc' := 131) dX3_spread_130 rfl rfl rfl g32 ?_
              refine mr_iinc (pc' := 134) (x' := (p5 + (1 : Int32))) (lv' := [(5, .int (p5 + (1 : Int32))), (7, .int (1 : Int32)), (6, .int (S0.1 45 7)), (0, .ref 45), (1, .ref p1), (2, .int p2), (3, .int p3), (4, .int p4)]) dX3_spread_131 rfl (by decide) rfl rfl rfl ?_
              refine mr_goto (t := 24) dX3_spread_134 (by decide) ?_
              exact mr_sub [(0, .ref 45), (1, .ref p1), (2, .int p2), (3, .int p3), (4, .int p4), (5, .int (p5 + (1 : Int32)))] ⟨rfl, rfl, rfl, rfl, rfl, rfl, trivial⟩ rfl (ih _ _  h33)
def lp_X3_spread_8 (p1 : Nat) (p2 : Int32) (p3 : Int32) (K : fS → Option (Int32 × fS)) : Nat → Int32 → fS → Option (Int32 × fS)
  | 0, _, _ => none
  | n + 1, p4, S0 =>
    if p3 < p4 then (K S0) else
    (if (16 : Int32) < p4 then (K S0) else
    (lp_X3_spread_24 p1 p2 p3 p4 (fun S60 => lp_X3_spread_8 p1 p2 p3 K n (p4 + (1 : Int32)) S60) FU (0 : Int32) S0))
set_option maxHeartbeats 4000000 in
set_option maxRecDepth 100000 in
theorem ok_lp_X3_spread_8 {X : mm_C} {RR : Nat → Nat → Option Nat} (hR : RRok RR) {p1 : Nat} {p2 : Int32} {p3 : Int32} (t1 : tg p1 = 8) {K : fS → Option (Int32 × fS)} {r : Int32 × fS} (hK : ∀ (Sk : fS), K Sk = some r → mr X 3 mY_X3_spread 143 [] [] (MM RR Sk) (some (.int r.1), MM RR r.2)) : ∀ (n : Nat) (p4 : Int32) (S0 : fS), lp_X3_spread_8 p1 p2 p3 K n p4 S0 = some r → mr X 3 mY_X3_spread 8 [(0, .ref 45), (1, .ref p1), (2, .int p2), (3, .int p3), (4, .int p4)] [] (MM RR S0) (some (.int r.1), MM RR r.2) := by
  intro n
  induction n with
  | zero => intro p4 S0 h; exact mm_no h
  | succ n ih =>
    intro p4 S0 h
    unfold lp_X3_spread_8 at h
    refine mr_iload (pc' := 10) dX3_spread_8 rfl rfl ?_
    refine mr_iload_n (pc' := 11) dX3_spread_10 rfl rfl ?_
    by_cases c4 : p3 < p4
    · rw [if_pos c4] at h
      refine mr_icmp_gt_t (t := 143) dX3_spread_11 (by decide) c4 ?_
      exact mr_sub [] trivial rfl (hK _  h)
    · rw [if_neg c4] at h
      refine mr_icmp_gt_f (t := 143) (pc' := 14) dX3_spread_11 (by decide) rfl c4 ?_
      refine mr_iload (pc' := 16) dX3_spread_14 rfl rfl ?_
      refine mr_bipush (pc' := 18) (v := (16 : Int32)) dX3_spread_16 rfl (by decide) ?_
      by_cases c5 : (16 : Int32) < p4
      · rw [if_pos c5] at h
        refine mr_icmp_gt_t (t := 143) dX3_spread_18 (by decide) c5 ?_
        exact mr_sub [] trivial rfl (hK _  h)
      · rw [if_neg c5] at h
        refine mr_icmp_gt_f (t := 143) (pc' := 21) dX3_spread_18 (by decide) rfl c5 ?_
        refine mr_iconst (pc' := 22) (v := (0 : Int32)) dX3_spread_21 rfl (by decide) ?_
        refine mr_istore (pc' := 24) (lv' := [(5, .int (0 : Int32)), (0, .ref 45), (1, .ref p1), (2, .int p2), (3, .int p3), (4, .int p4)]) dX3_spread_22 rfl (by decide) rfl ?_
        refine mr_sub [(0, .ref 45), (1, .ref p1), (2, .int p2), (3, .int p3), (4, .int p4), (5, .int (0 : Int32))] ⟨rfl, rfl, rfl, rfl, rfl, rfl, trivial⟩ rfl ?_
        refine ok_lp_X3_spread_24 hR t1 (fun S60 h61 => ?_) FU _ _  h
        refine mr_iinc (pc' := 140) (x' := (p4 + (1 : Int32))) (lv' := [(4, .int (p4 + (1 : Int32))), (0, .ref 45), (1, .ref p1), (2, .int p2), (3, .int p3)]) dX3_spread_137 rfl (by decide) rfl rfl rfl ?_
        refine mr_goto (t := 8) dX3_spread_140 (by decide) ?_
        exact mr_sub [(0, .ref 45), (1, .ref p1), (2, .int p2), (3, .int p3), (4, .int (p4 + (1 : Int32)))] ⟨rfl, rfl, rfl, rfl, rfl, trivial⟩ rfl (ih _ _  h61)
def f_X3_spread (v1 : Nat) (v2 : Int32) (v3 : Int32) (S : fS) : Option (Int32 × fS) :=
  (some (pI S 45 7 (0 : Int32))).bind fun S1 =>
  lp_X3_spread_8 v1 v2 v3 (fun S62 => some ((1 : Int32), S62)) FU (0 : Int32) S1
set_option maxHeartbeats 4000000 in
set_option maxRecDepth 100000 in
theorem ok_X3_spread {X : mm_C} {RR : Nat → Nat → Option Nat} (hR : RRok RR) {v1 : Nat} {v2 : Int32} {v3 : Int32} (t1 : tg v1 = 8) {S : fS} {r : Int32 × fS} (h : f_X3_spread v1 v2 v3 S = some r) : mr X 3 mY_X3_spread 0 (lv_args 0 [.ref 45, .ref v1, .int v2, .int v3]) [] (MM RR S) (some (.int r.1), MM RR r.2) := by
  unfold f_X3_spread at h
  show mr X _ _ 0 [(0, .ref 45), (1, .ref v1), (2, .int v2), (3, .int v3)] [] (MM RR S) _
  refine mr_aload_n (pc' := 1) dX3_spread_0 rfl rfl ?_
  refine mr_iconst (pc' := 2) (v := (0 : Int32)) dX3_spread_1 rfl (by decide) ?_
  obtain ⟨S1, g2, h3⟩ := Option.bind_eq_some_iff.mp h
  refine mr_putI (pc' := 5) (ci := 3) (j := 7) dX3_spread_2 rfl rfl rfl (by decide) (by decide) rfl rfl ?_
  rw [Option.some.inj g2]
  refine mr_iconst (pc' := 6) (v := (0 : Int32)) dX3_spread_5 rfl (by decide) ?_
  refine mr_istore (pc' := 8) (lv' := [(4, .int (0 : Int32)), (0, .ref 45), (1, .ref v1), (2, .int v2), (3, .int v3)]) dX3_spread_6 rfl (by decide) rfl ?_
  refine mr_sub [(0, .ref 45), (1, .ref v1), (2, .int v2), (3, .int v3), (4, .int (0 : Int32))] ⟨rfl, rfl, rfl, rfl, rfl, trivial⟩ rfl ?_
  refine ok_lp_X3_spread_8 hR t1 (fun S62 h63 => ?_) FU _ _  h3
  refine mr_iconst (pc' := 144) (v := (1 : Int32)) dX3_spread_143 rfl (by decide) ?_
  obtain rfl := Option.some.inj h63
  exact mr_zreturn dX3_spread_144 rfl (by decide)
