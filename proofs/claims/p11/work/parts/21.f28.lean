def f_X11_hands (v1 : Int32) (v2 : Int32) (v3 : Int32) (v4 : Int32) (S : fS) : Option (Int32) :=
  (f_X11_isFloor v1 S).bind fun q1 =>
  if q1 = (0 : Int32) then (some (-1 : Int32)) else
  ((f_X11_isFloor v2 S).bind fun q5 =>
  if q5 = (0 : Int32) then (some (-1 : Int32)) else
  ((f_X11_in (Int32.toInt64 v3) (1 : Int64) (9999 : Int64) S).bind fun q9 =>
  if q9 = (0 : Int32) then (some (-1 : Int32)) else
  ((f_X11_in (Int32.toInt64 v4) (1 : Int64) (9999 : Int64) S).bind fun q13 =>
  if q13 = (0 : Int32) then (some (-1 : Int32)) else
  ((gI S 157 158 ((10 : Int32) + ((2 : Int32) * v2))).bind fun a17 =>
  (gI S 157 158 (((10 : Int32) + ((2 : Int32) * v1)) + (1 : Int32))).bind fun a20 =>
  (gI S 157 158 (((10 : Int32) + ((2 : Int32) * v2)) + (1 : Int32))).bind fun a23 =>
  (gI S 157 158 ((10 : Int32) + ((2 : Int32) * v1))).bind fun a26 =>
  (dL (((((Int32.toInt64 v3) * (Int32.toInt64 a17)) * (Int32.toInt64 a20)) + (((Int32.toInt64 v4) * (Int32.toInt64 a23)) * (Int32.toInt64 a26))) - (1 : Int64)) (((Int32.toInt64 v4) * (Int32.toInt64 a23)) * (Int32.toInt64 a26))).bind fun a29 =>
  some (Int64.toInt32 a29)))))
set_option maxHeartbeats 4000000 in
set_option maxRecDepth 100000 in
theorem ok_X11_hands {X : mm_C} {RR : Nat → Nat → Option Nat} (hR : RRok RR) {v1 : Int32} {v2 : Int32} {v3 : Int32} {v4 : Int32}  {S : fS} {r : Int32} (h : f_X11_hands v1 v2 v3 v4 S = some r) : mr X 1 mY_X11_hands 0 (lv_args 0 [.ref 145, .int v1, .int v2, .int v3, .int v4]) [] (MM RR S) (some (.int r), MM RR S) := by
  unfold f_X11_hands at h
  show mr X _ _ 0 [(0, .ref 145), (1, .int v1), (2, .int v2), (3, .int v3), (4, .int v4)] [] (MM RR S) _
  refine mr_aload_n (pc' := 1) dX11_hands_0 rfl rfl ?_
  refine mr_iload_n (pc' := 2) dX11_hands_1 rfl rfl ?_
  obtain ⟨q1, g2, h3⟩ := Option.bind_eq_some_iff.mp h
  refine mr_cv (pc' := 5) (a := 145) (d1 := 0) dX11_hands_2 rfl rfl rfl rfl rfl rfl (by decide) rfl (by decide) (ok_X11_isFloor hR  g2) ?_
  show mr X _ _ 5 _ [.int q1] (MM RR S) _
  by_cases c4 : q1 = (0 : Int32)
  · rw [if_pos c4] at h3
    refine mr_if_eq_t (t := 41) dX11_hands_5 (by decide) c4 ?_
    refine mr_iconst (pc' := 42) (v := (-1 : Int32)) dX11_hands_41 rfl (by decide) ?_
    obtain rfl := Option.some.inj h3
    exact mr_ireturn dX11_hands_42 rfl
  · rw [if_neg c4] at h3
    refine mr_if_eq_f (t := 41) (pc' := 8) dX11_hands_5 (by decide) rfl c4 ?_
    refine mr_aload_n (pc' := 9) dX11_hands_8 rfl rfl ?_
    refine mr_iload_n (pc' := 10) dX11_hands_9 rfl rfl ?_
    obtain ⟨q5, g6, h7⟩ := Option.bind_eq_some_iff.mp h3
    refine mr_cv (pc' := 13) (a := 145) (d1 := 0) dX11_hands_10 rfl rfl rfl rfl rfl rfl (by decide) rfl (by decide) (ok_X11_isFloor hR  g6) ?_
    show mr X _ _ 13 _ [.int q5] (MM RR S) _
    by_cases c8 : q5 = (0 : Int32)
    · rw [if_pos c8] at h7
      refine mr_if_eq_t (t := 41) dX11_hands_13 (by decide) c8 ?_
      refine mr_iconst (pc' := 42) (v := (-1 : Int32)) dX11_hands_41 rfl (by decide) ?_
      obtain rfl := Option.some.inj h7
      exact mr_ireturn dX11_hands_42 rfl
    · rw [if_neg c8] at h7
      refine mr_if_eq_f (t := 41) (pc' := 16) dX11_hands_13 (by decide) rfl c8 ?_
      refine mr_iload_n (pc' := 17) dX11_hands_16 rfl rfl ?_
      refine mr_i2l (pc' := 18) dX11_hands_17 rfl ?_
      refine mr_lconst (pc' := 19) (v := (1 : Int64)) dX11_hands_18 rfl (by decide) ?_
      refine mr_ldc2 (pc' := 22) (v := (9999 : Int64)) dX11_hands_19 rfl rfl ?_
      obtain ⟨q9, g10, h11⟩ := Option.bind_eq_some_iff.mp h7
      refine mr_cs (pc' := 25) (d1 := 0) dX11_hands_22 rfl rfl rfl rfl (by decide) (Nat.le_of_ble_eq_true rfl) rfl rfl rfl (by decide) (ok_X11_in hR  g10) ?_
      show mr X _ _ 25 _ [.int q9] (MM RR S) _
      by_cases c12 : q9 = (0 : Int32)
      · rw [if_pos c12] at h11
        refine mr_if_eq_t (t := 41) dX11_hands_25 (by decide) c12 ?_
        refine mr_iconst (pc' := 42) (v := (-1 : Int32)) dX11_hands_41 rfl (by decide) ?_
        obtain rfl := Option.some.inj h11
        exact mr_ireturn dX11_hands_42 rfl
      · rw [if_neg c12] at h11
        refine mr_if_eq_f (t := 41) (pc' := 28) dX11_hands_25 (by decide) rfl c12 ?_
        refine mr_iload (pc' := 30) dX11_hands_28 rfl rfl ?_
        refine mr_i2l (pc' := 31) dX11_hands_30 rfl ?_
        refine mr_lconst (pc' := 32) (v := (1 : Int64)) dX11_hands_31 rfl (by decide) ?_
        refine mr_ldc2 (pc' := 35) (v := (9999 : Int64)) dX11_hands_32 rfl rfl ?_
        obtain ⟨q13, g14, h15⟩ := Option.bind_eq_some_iff.mp h11
        refine mr_cs (pc' := 38) (d1 := 0) dX11_hands_35 rfl rfl rfl rfl (by decide) (Nat.le_of_ble_eq_true rfl) rfl rfl rfl (by decide) (ok_X11_in hR  g14) ?_
        show mr X _ _ 38 _ [.int q13] (MM RR S) _
        by_cases c16 : q13 = (0 : Int32)
        · rw [if_pos c16] at h15
          refine mr_if_ne_f (t := 43) (pc' := 41) dX11_hands_38 (by decide) rfl (not_not_intro c16) ?_
          refine mr_iconst (pc' := 42) (v := (-1 : Int32)) dX11_hands_41 rfl (by decide) ?_
          obtain rfl := Option.some.inj h15
          exact mr_ireturn dX11_hands_42 rfl
        · rw [if_neg c16] at h15
          refine mr_if_ne_t (t := 43) dX11_hands_38 (by decide) c16 ?_
          refine mr_iload_n (pc' := 44) dX11_hands_43 rfl rfl ?_
          refine mr_i2l (pc' := 45) dX11_hands_44 rfl ?_
          refine mr_aload_n (pc' := 46) dX11_hands_45 rfl rfl ?_
          refine mr_getR (pc' := 49) (ci := 11) (j := 25) (b := 157) hR dX11_hands_46 rfl rfl rfl (by decide) (by decide) (by decide) rfl rfl ?_
          refine mr_bipush (pc' := 51) (v := (10 : Int32)) dX11_hands_49 rfl (by decide) ?_
          refine mr_iconst (pc' := 52) (v := (2 : Int32)) dX11_hands_51 rfl (by decide) ?_
          refine mr_iload_n (pc' := 53) dX11_hands_52 rfl rfl ?_
          refine mr_imul (pc' := 54) dX11_hands_53 rfl ?_
          refine mr_iadd (pc' := 55) dX11_hands_54 rfl ?_
          obtain ⟨a17, g18, h19⟩ := Option.bind_eq_some_iff.mp h15
          refine mr_iald (pc' := 56) dX11_hands_55 rfl rfl rfl g18 ?_
          refine mr_i2l (pc' := 57) dX11_hands_56 rfl ?_
          refine mr_lmul (pc' := 58) dX11_hands_57 rfl ?_
          refine mr_aload_n (pc' := 59) dX11_hands_58 rfl rfl ?_
          refine mr_getR (pc' := 62) (ci := 11) (j := 25) (b := 157) hR dX11_hands_59 rfl rfl rfl (by decide) (by decide) (by decide) rfl rfl ?_
          refine mr_bipush (pc' := 64) (v := (10 : Int32)) dX11_hands_62 rfl (by decide) ?_
          refine mr_iconst (pc' := 65) (v := (2 : Int32)) dX11_hands_64 rfl (by decide) ?_
          refine mr_iload_n (pc' := 66) dX11_hands_65 rfl rfl ?_
          refine mr_imul (pc' := 67) dX11_hands_66 rfl ?_
          refine mr_iadd (pc' := 68) dX11_hands_67 rfl ?_
          refine mr_iconst (pc' := 69) (v := (1 : Int32)) dX11_hands_68 rfl (by decide) ?_
          refine mr_iadd (pc' := 70) dX11_hands_69 rfl ?_
          obtain ⟨a20, g21, h22⟩ := Option.bind_eq_some_iff.mp h19
          refine mr_iald (pc' := 71) dX11_hands_70 rfl rfl rfl g21 ?_
          refine mr_i2l (pc' := 72) dX11_hands_71 rfl ?_
          refine mr_lmul (pc' := 73) dX11_hands_72 rfl ?_
          refine mr_lstore (pc' := 75) (lv' := [(5, .long (((Int32.toInt64 v3) * (Int32.toInt64 a17)) * (Int32.toInt64 a20))), (0, .ref 145), (1, .int v1), (2, .int v2), (3, .int v3), (4, .int v4)]) dX11_hands_73 rfl (by decide) rfl ?_
          refine mr_iload (pc' := 77) dX11_hands_75 rfl rfl ?_
          refine mr_i2l (pc' := 78) dX11_hands_77 rfl ?_
          refine mr_aload_n (pc' := 79) dX11_hands_78 rfl rfl ?_
          refine mr_getR (pc' := 82) (ci := 11) (j := 25) (b := 157) hR dX11_hands_79 rfl rfl rfl (by decide) (by decide) (by decide) rfl rfl ?_
          refine mr_bipush (pc' := 84) (v := (10 : Int32)) dX11_hands_82 rfl (by decide) ?_
          refine mr_iconst (pc' := 85) (v := (2 : Int32)) dX11_hands_84 rfl (by decide) ?_
          refine mr_iload_n (pc' := 86) dX11_hands_85 rfl rfl ?_
          refine mr_imul (pc' := 87) dX11_hands_86 rfl ?_
          refine mr_iadd (pc' := 88) dX11_hands_87 rfl ?_
          refine mr_iconst (pc' := 89) (v := (1 : Int32)) dX11_hands_88 rfl (by decide) ?_
          refine mr_iadd (pc' := 90) dX11_hands_89 rfl ?_
          obtain ⟨a23, g24, h25⟩ := Option.bind_eq_some_iff.mp h22
          refine mr_iald (pc' := 91) dX11_hands_90 rfl rfl rfl g24 ?_
          refine mr_i2l (pc' := 92) dX11_hands_91 rfl ?_
          refine mr_lmul (pc' := 93) dX11_hands_92 rfl ?_
          refine mr_aload_n (pc' := 94) dX11_hands_93 rfl rfl ?_
          refine mr_getR (pc' := 97) (ci := 11) (j := 25) (b := 157) hR dX11_hands_94 rfl rfl rfl (by decide) (by decide) (by decide) rfl rfl ?_
          refine mr_bipush (pc' := 99) (v := (10 : Int32)) dX11_hands_97 rfl (by decide) ?_
          refine mr_iconst (pc' := 100) (v := (2 : Int32)) dX11_hands_99 rfl (by decide) ?_
          refine mr_iload_n (pc' := 101) dX11_hands_100 rfl rfl ?_
          refine mr_imul (pc' := 102) dX11_hands_101 rfl ?_
          refine mr_iadd (pc' := 103) dX11_hands_102 rfl ?_
          obtain ⟨a26, g27, h28⟩ := Option.bind_eq_some_iff.mp h25
          refine mr_iald (pc' := 104) dX11_hands_103 rfl rfl rfl g27 ?_
          refine mr_i2l (pc' := 105) dX11_hands_104 rfl ?_
          refine mr_lmul (pc' := 106) dX11_hands_105 rfl ?_
          refine mr_lstore (pc' := 108) (lv' := [(7, .long (((Int32.toInt64 v4) * (Int32.toInt64 a23)) * (Int32.toInt64 a26))), (5, .long (((Int32.toInt64 v3) * (Int32.toInt64 a17)) * (Int32.toInt64 a20))), (0, .ref 145), (1, .int v1), (2, .int v2), (3, .int v3), (4, .int v4)]) dX11_hands_106 rfl (by decide) rfl ?_
          refine mr_lload (pc' := 110) dX11_hands_108 rfl rfl ?_
          refine mr_lload (pc' := 112) dX11_hands_110 rfl rfl ?_
          refine mr_ladd (pc' := 113) dX11_hands_112 rfl ?_
          refine mr_lconst (pc' := 114) (v := (1 : Int64)) dX11_hands_113 rfl (by decide) ?_
          refine mr_lsub (pc' := 115) dX11_hands_114 rfl ?_
          refine mr_lload (pc' := 117) dX11_hands_115 rfl rfl ?_
          obtain ⟨a29, g30, h31⟩ := Option.bind_eq_some_iff.mp h28
          refine mr_ldiv (pc' := 118) dX11_hands_117 rfl g30 ?_
          refine mr_l2i (pc' := 119) dX11_hands_118 rfl ?_
          obtain rfl := Option.some.inj h31
          exact mr_ireturn dX11_hands_119 rfl
def f_X11_letter (v1 : Int32) (v2 : Int32) (v3 : Int32) (S : fS) : Option (Int32 × fS) :=
  if v1 = (-1 : Int32) then ((sI S 157 158 (4 : Int32) (0 : Int32)).bind fun S43 =>
  some ((0 : Int32), S43)) else
  ((gI S 157 158 (4 : Int32)).bind fun a2 =>
  if a2 = (12 : Int32) then (some ((-2 : Int32), S)) else
  ((f_X11_isFloor v1 S).bind fun q6 =>
  if q6 = (0 : Int32) then (some ((-2 : Int32), S)) else
  ((f_X11_isFloor v2 S).bind fun q10 =>
  if q10 = (0 : Int32) then (some ((-2 : Int32), S)) else
  ((f_X11_in (Int32.toInt64 v3) (0 : Int64) (9999 : Int64) S).bind fun q14 =>
  if q14 = (0 : Int32) then (some ((-2 : Int32), S)) else
  ((f_X11_between v1 v2 S).bind fun q18 =>
  if q18 < (99999 : Int64) then ((gI S 157 158 (4 : Int32)).bind fun a22 =>
  (sI S 157 158 ((122 : Int32) + ((3 : Int32) * a22)) v1).bind fun S25 =>
  (sI S25 157 158 (((122 : Int32) + ((3 : Int32) * a22)) + (1 : Int32)) v2).bind fun S28 =>
  (sI S28 157 158 (((122 : Int32) + ((3 : Int32) * a22)) + (2 : Int32)) v3).bind fun S31 =>
  (gI S31 157 158 (4 : Int32)).bind fun a34 =>
  (sI S31 157 158 (4 : Int32) (a34 + (1 : Int32))).bind fun S37 =>
  (gI S37 157 158 (4 : Int32)).bind fun a40 =>
  some (a40, S37)) else
  (some ((-2 : Int32), S)))))))
set_option maxHeartbeats 4000000 in
set_option maxRecDepth 100000 in
theorem ok_X11_letter {X : mm_C} {RR : Nat → Nat → Option Nat} (hR : RRok RR) {v1 : Int32} {v2 : Int32} {v3 : Int32}  {S : fS} {r : Int32 × fS} (h : f_X11_letter v1 v2 v3 S = some r) : mr X 1 mY_X11_letter 0 (lv_args 0 [.ref 145, .int v1, .int v2, .int v3]) [] (MM RR S) (some (.int r.1), MM RR r.2) := by
  unfold f_X11_letter at h
  show mr X _ _ 0 [(0, .ref 145), (1, .int v1), (2, .int v2), (3, .int v3)] [] (MM RR S) _
  refine mr_iload_n (pc' := 1) dX11_letter_0 rfl rfl ?_
  refine mr_iconst (pc' := 2) (v := (-1 : Int32)) dX11_letter_1 rfl (by decide) ?_
  by_cases c1 : v1 = (-1 : Int32)
  · rw [if_pos c1] at h
    refine mr_icmp_ne_f (t := 14) (pc' := 5) dX11_letter_2 (by decide) rfl (not_not_intro c1) ?_
    refine mr_aload_n (pc' := 6) dX11_letter_5 rfl rfl ?_
    refine mr_getR (pc' := 9) (ci := 11) (j := 25) (b := 157) hR dX11_letter_6 rfl rfl rfl (by decide) (by decide) (by decide) rfl rfl ?_
    refine mr_iconst (pc' := 10) (v := (4 : Int32)) dX11_letter_9 rfl (by decide) ?_
    refine mr_iconst (pc' := 11) (v := (0 : Int32)) dX11_letter_10 rfl (by decide) ?_
    obtain ⟨S43, g44, h45⟩ := Option.bind_eq_some_iff.mp h
    refine mr_iast (pc' := 12) dX11_letter_11 rfl rfl rfl g44 ?_
    refine mr_iconst (pc' := 13) (v := (0 : Int32)) dX11_letter_12 rfl (by decide) ?_
    obtain rfl := Option.some.inj h45
    exact mr_ireturn dX11_letter_13 rfl
  · rw [if_neg c1] at h
    refine mr_icmp_ne_t (t := 14) dX11_letter_2 (by decide) c1 ?_
    refine mr_aload_n (pc' := 15) dX11_letter_14 rfl rfl ?_
    refine mr_getR (pc' := 18) (ci := 11) (j := 25) (b := 157) hR dX11_letter_15 rfl rfl rfl (by decide) (by decide) (by decide) rfl rfl ?_
    refine mr_iconst (pc' := 19) (v := (4 : Int32)) dX11_letter_18 rfl (by decide) ?_
    obtain ⟨a2, g3, h4⟩ := Option.bind_eq_some_iff.mp h
    refine mr_iald (pc' := 20) dX11_letter_19 rfl rfl rfl g3 ?_
    refine mr_bipush (pc' := 22) (v := (12 : Int32)) dX11_letter_20 rfl (by decide) ?_
    by_cases c5 : a2 = (12 : Int32)
    · rw [if_pos c5] at h4
      refine mr_icmp_eq_t (t := 66) dX11_letter_22 (by decide) c5 ?_
      refine mr_bipush (pc' := 68) (v := (-2 : Int32)) dX11_letter_66 rfl (by decide) ?_
      obtain rfl := Option.some.inj h4
      exact mr_ireturn dX11_letter_68 rfl
    · rw [if_neg c5] at h4
      refine mr_icmp_eq_f (t := 66) (pc' := 25) dX11_letter_22 (by decide) rfl c5 ?_
      refine mr_aload_n (pc' := 26) dX11_letter_25 rfl rfl ?_
      refine mr_iload_n (pc' := 27) dX11_letter_26 rfl rfl ?_
      obtain ⟨q6, g7, h8⟩ := Option.bind_eq_some_iff.mp h4
      refine mr_cv (pc' := 30) (a := 145) (d1 := 0) dX11_letter_27 rfl rfl rfl rfl rfl rfl (by decide) rfl (by decide) (ok_X11_isFloor hR  g7) ?_
      show mr X _ _ 30 _ [.int q6] (MM RR S) _
      by_cases c9 : q6 = (0 : Int32)
      · rw [if_pos c9] at h8
        refine mr_if_eq_t (t := 66) dX11_letter_30 (by decide) c9 ?_
        refine mr_bipush (pc' := 68) (v := (-2 : Int32)) dX11_letter_66 rfl (by decide) ?_
        obtain rfl := Option.some.inj h8
        exact mr_ireturn dX11_letter_68 rfl
      · rw [if_neg c9] at h8
        refine mr_if_eq_f (t := 66) (pc' := 33) dX11_letter_30 (by decide) rfl c9 ?_
        refine mr_aload_n (pc' := 34) dX11_letter_33 rfl rfl ?_
        refine mr_iload_n (pc' := 35) dX11_letter_34 rfl rfl ?_
        obtain ⟨q10, g11, h12⟩ := Option.bind_eq_some_iff.mp h8
        refine mr_cv (pc' := 38) (a := 145) (d1 := 0) dX11_letter_35 rfl rfl rfl rfl rfl rfl (by decide) rfl (by decide) (ok_X11_isFloor hR  g11) ?_
        show mr X _ _ 38 _ [.int q10] (MM RR S) _
        by_cases c13 : q10 = (0 : Int32)
        · rw [if_pos c13] at h12
          refine mr_if_eq_t (t := 66) dX11_letter_38 (by decide) c13 ?_
          refine mr_bipush (pc' := 68) (v := (-2 : Int32)) dX11_letter_66 rfl (by decide) ?_
          obtain rfl := Option.some.inj h12
          exact mr_ireturn dX11_letter_68 rfl
        · rw [if_neg c13] at h12
          refine mr_if_eq_f (t := 66) (pc' := 41) dX11_letter_38 (by decide) rfl c13 ?_
          refine mr_iload_n (pc' := 42) dX11_letter_41 rfl rfl ?_
          refine mr_i2l (pc' := 43) dX11_letter_42 rfl ?_
          refine mr_lconst (pc' := 44) (v := (0 : Int64)) dX11_letter_43 rfl (by decide) ?_
          refine mr_ldc2 (pc' := 47) (v := (9999 : Int64)) dX11_letter_44 rfl rfl ?_
          obtain ⟨q14, g15, h16⟩ := Option.bind_eq_some_iff.mp h12
          refine mr_cs (pc' := 50) (d1 := 0) dX11_letter_47 rfl rfl rfl rfl (by decide) (Nat.le_of_ble_eq_true rfl) rfl rfl rfl (by decide) (ok_X11_in hR  g15) ?_
          show mr X _ _ 50 _ [.int q14] (MM RR S) _
          by_cases c17 : q14 = (0 : Int32)
          · rw [if_pos c17] at h16
            refine mr_if_eq_t (t := 66) dX11_letter_50 (by decide) c17 ?_
            refine mr_bipush (pc' := 68) (v := (-2 : Int32)) dX11_letter_66 rfl (by decide) ?_
            obtain rfl := Option.some.inj h16
            exact mr_ireturn dX11_letter_68 rfl
          · rw [if_neg c17] at h16
            refine mr_if_eq_f (t := 66) (pc' := 53) dX11_letter_50 (by decide) rfl c17 ?_
            refine mr_aload_n (pc' := 54) dX11_letter_53 rfl rfl ?_
            refine mr_iload_n (pc' := 55) dX11_letter_54 rfl rfl ?_
            refine mr_iload_n (pc' := 56) dX11_letter_55 rfl rfl ?_
            obtain ⟨q18, g19, h20⟩ := Option.bind_eq_some_iff.mp h16
            refine mr_cv (pc' := 59) (a := 145) (d1 := 0) dX11_letter_56 rfl rfl rfl rfl rfl rfl (by decide) rfl (by decide) (ok_X11_between hR  g19) ?_
            show mr X _ _ 59 _ [.long q18] (MM RR S) _
            refine mr_ldc2 (pc' := 62) (v := (99999 : Int64)) dX11_letter_59 rfl rfl ?_
            by_cases c21 : q18 < (99999 : Int64)
            · rw [if_pos c21] at h20
              refine mr_lcmp_lt_t (t := 69) dX11_letter_62 rfl dX11_letter_63 (by decide) c21 ?_
              refine mr_bipush (pc' := 71) (v := (122 : Int32)) dX11_letter_69 rfl (by decide) ?_
              refine mr_iconst (pc' := 72) (v := (3 : Int32)) dX11_letter_71 rfl (by decide) ?_
              refine mr_aload_n (pc' := 73) dX11_letter_72 rfl rfl ?_
              refine mr_getR (pc' := 76) (ci := 11) (j := 25) (b := 157) hR dX11_letter_73 rfl rfl rfl (by decide) (by decide) (by decide) rfl rfl ?_
              refine mr_iconst (pc' := 77) (v := (4 : Int32)) dX11_letter_76 rfl (by decide) ?_
              obtain ⟨a22, g23, h24⟩ := Option.bind_eq_some_iff.mp h20
              refine mr_iald (pc' := 78) dX11_letter_77 rfl rfl rfl g23 ?_
              refine mr_imul (pc' := 79) dX11_letter_78 rfl ?_
              refine mr_iadd (pc' := 80) dX11_letter_79 rfl ?_
              refine mr_istore (pc' := 82) (lv' := [(4, .int ((122 : Int32) + ((3 : Int32) * a22))), (0, .ref 145), (1, .int v1), (2, .int v2), (3, .int v3)]) dX11_letter_80 rfl (by decide) rfl ?_
              refine mr_aload_n (pc' := 83) dX11_letter_82 rfl rfl ?_
              refine mr_getR (pc' := 86) (ci := 11) (j := 25) (b := 157) hR dX11_letter_83 rfl rfl rfl (by decide) (by decide) (by decide) rfl rfl ?_
              refine mr_iload (pc' := 88) dX11_letter_86 rfl rfl ?_
              refine mr_iload_n (pc' := 89) dX11_letter_88 rfl rfl ?_
              obtain ⟨S25, g26, h27⟩ := Option.bind_eq_some_iff.mp h24
              refine mr_iast (pc' := 90) dX11_letter_89 rfl rfl rfl g26 ?_
              refine mr_aload_n (pc' := 91) dX11_letter_90 rfl rfl ?_
              refine mr_getR (pc' := 94) (ci := 11) (j := 25) (b := 157) hR dX11_letter_91 rfl rfl rfl (by decide) (by decide) (by decide) rfl rfl ?_
              refine mr_iload (pc' := 96) dX11_letter_94 rfl rfl ?_
              refine mr_iconst (pc' := 97) (v := (1 : Int32)) dX11_letter_96 rfl (by decide) ?_
              refine mr_iadd (pc' := 98) dX11_letter_97 rfl ?_
              refine mr_iload_n (pc' := 99) dX11_letter_98 rfl rfl ?_
              obtain ⟨S28, g29, h30⟩ := Option.bind_eq_some_iff.mp h27
              refine mr_iast (pc' := 100) dX11_letter_99 rfl rfl rfl g29 ?_
              refine mr_aload_n (pc' := 101) dX11_letter_100 rfl rfl ?_
              refine mr_getR (pc' := 104) (ci := 11) (j := 25) (b := 157) hR dX11_letter_101 rfl rfl rfl (by decide) (by decide) (by decide) rfl rfl ?_
              refine mr_iload (pc' := 106) dX11_letter_104 rfl rfl ?_
              refine mr_iconst (pc' := 107) (v := (2 : Int32)) dX11_letter_106 rfl (by decide) ?_
              refine mr_iadd (pc' := 108) dX11_letter_107 rfl ?_
              refine mr_iload_n (pc' := 109) dX11_letter_108 rfl rfl ?_
              obtain ⟨S31, g32, h33⟩ := Option.bind_eq_some_iff.mp h30
              refine mr_iast (pc' := 110) dX11_letter_109 rfl rfl rfl g32 ?_
              refine mr_aload_n (pc' := 111) dX11_letter_110 rfl rfl ?_
              refine mr_getR (pc' := 114) (ci := 11) (j := 25) (b := 157) hR dX11_letter_111 rfl rfl rfl (by decide) (by decide) (by decide) rfl rfl ?_
              refine mr_iconst (pc' := 115) (v := (4 : Int32)) dX11_letter_114 rfl (by decide) ?_
              refine mr_dup2 (pc' := 116) dX11_letter_115 rfl ?_
              obtain ⟨a34, g35, h36⟩ := Option.bind_eq_some_iff.mp h33
              refine mr_iald (pc' := 117) dX11_letter_116 rfl rfl rfl g35 ?_
              refine mr_iconst (pc' := 118) (v := (1 : Int32)) dX11_letter_117 rfl (by decide) ?_
              refine mr_iadd (pc' := 119) dX11_letter_118 rfl ?_
              obtain ⟨S37, g38, h39⟩ := Option.bind_eq_some_iff.mp h36
              refine mr_iast (pc' := 120) dX11_letter_119 rfl rfl rfl g38 ?_
              refine mr_aload_n (pc' := 121) dX11_letter_120 rfl rfl ?_
              refine mr_getR (pc' := 124) (ci := 11) (j := 25) (b := 157) hR dX11_letter_121 rfl rfl rfl (by decide) (by decide) (by decide) rfl rfl ?_
              refine mr_iconst (pc' := 125) (v := (4 : Int32)) dX11_letter_124 rfl (by decide) ?_
              obtain ⟨a40, g41, h42⟩ := Option.bind_eq_some_iff.mp h39
              refine mr_iald (pc' := 126) dX11_letter_125 rfl rfl rfl g41 ?_
              obtain rfl := Option.some.inj h42
              exact mr_ireturn dX11_letter_126 rfl
            · rw [if_neg c21] at h20
              refine mr_lcmp_lt_f (t := 69) (pc' := 66) dX11_letter_62 rfl dX11_letter_63 (by decide) rfl c21 ?_
              refine mr_bipush (pc' := 68) (v := (-2 : Int32)) dX11_letter_66 rfl (by decide) ?_
              obtain rfl := Option.some.inj h20
              exact mr_ireturn dX11_letter_68 rfl
def f_X11_letterOf (v1 : Int32) (v2 : Int32) (S : fS) : Option (Int32) :=
  (gI S 157 158 (((122 : Int32) + ((3 : Int32) * v1)) + v2)).bind fun a1 =>
  some a1
set_option maxHeartbeats 4000000 in
set_option maxRecDepth 100000 in
theorem ok_X11_letterOf {X : mm_C} {RR : Nat → Nat → Option Nat} (hR : RRok RR) {v1 : Int32} {v2 : Int32}  {S : fS} {r : Int32} (h : f_X11_letterOf v1 v2 S = some r) : mr X 0 mY_X11_letterOf 0 (lv_args 0 [.ref 145, .int v1, .int v2]) [] (MM RR S) (some (.int r), MM RR S) := by
  unfold f_X11_letterOf at h
  show mr X _ _ 0 [(0, .ref 145), (1, .int v1), (2, .int v2)] [] (MM RR S) _
  refine mr_aload_n (pc' := 1) dX11_letterOf_0 rfl rfl ?_
  refine mr_getR (pc' := 4) (ci := 11) (j := 25) (b := 157) hR dX11_letterOf_1 rfl rfl rfl (by decide) (by decide) (by decide) rfl rfl ?_
  refine mr_bipush (pc' := 6) (v := (122 : Int32)) dX11_letterOf_4 rfl (by decide) ?_
  refine mr_iconst (pc' := 7) (v := (3 : Int32)) dX11_letterOf_6 rfl (by decide) ?_
  refine mr_iload_n (pc' := 8) dX11_letterOf_7 rfl rfl ?_
  refine mr_imul (pc' := 9) dX11_letterOf_8 rfl ?_
  refine mr_iadd (pc' := 10) dX11_letterOf_9 rfl ?_
  refine mr_iload_n (pc' := 11) dX11_letterOf_10 rfl rfl ?_
  refine mr_iadd (pc' := 12) dX11_letterOf_11 rfl ?_
  obtain ⟨a1, g2, h3⟩ := Option.bind_eq_some_iff.mp h
  refine mr_iald (pc' := 13) dX11_letterOf_12 rfl rfl rfl g2 ?_
  obtain rfl := Option.some.inj h3
  exact mr_ireturn dX11_letterOf_13 rfl
def f_X11_comesAt (v1 : Int32) (S : fS) : Option (Int32) :=
  (f_X11_letterOf v1 (2 : Int32) S).bind fun q1 =>
  (f_X11_letterOf v1 (0 : Int32) S).bind fun q4 =>
  (f_X11_letterOf v1 (1 : Int32) S).bind fun q7 =>
  (f_X11_between q4 q7 S).bind fun q10 =>
  some (q1 + (Int64.toInt32 q10))
set_option maxHeartbeats 4000000 in
set_option maxRecDepth 100000 in
theorem ok_X11_comesAt {X : mm_C} {RR : Nat → Nat → Option Nat} (hR : RRok RR) {v1 : Int32}  {S : fS} {r : Int32} (h : f_X11_comesAt v1 S = some r) : mr X 1 mY_X11_comesAt 0 (lv_args 0 [.ref 145, .int v1]) [] (MM RR S) (some (.int r), MM RR S) := by
  unfold f_X11_comesAt at h
  show mr X _ _ 0 [(0, .ref 145), (1, .int v1)] [] (MM RR S) _
  refine mr_aload_n (pc' := 1) dX11_comesAt_0 rfl rfl ?_
  refine mr_iload_n (pc' := 2) dX11_comesAt_1 rfl rfl ?_
  refine mr_iconst (pc' := 3) (v := (2 : Int32)) dX11_comesAt_2 rfl (by decide) ?_
  obtain ⟨q1, g2, h3⟩ := Option.bind_eq_some_iff.mp h
  refine mr_cv (pc' := 6) (a := 145) (d1 := 0) dX11_comesAt_3 rfl rfl rfl rfl rfl rfl (by decide) rfl (by decide) (ok_X11_letterOf hR  g2) ?_
  show mr X _ _ 6 _ [.int q1] (MM RR S) _
  refine mr_aload_n (pc' := 7) dX11_comesAt_6 rfl rfl ?_
  refine mr_aload_n (pc' := 8) dX11_comesAt_7 rfl rfl ?_
  refine mr_iload_n (pc' := 9) dX11_comesAt_8 rfl rfl ?_
  refine mr_iconst (pc' := 10) (v := (0 : Int32)) dX11_comesAt_9 rfl (by decide) ?_
  obtain ⟨q4, g5, h6⟩ := Option.bind_eq_some_iff.mp h3
  refine mr_cv (pc' := 13) (a := 145) (d1 := 0) dX11_comesAt_10 rfl rfl rfl rfl rfl rfl (by decide) rfl (by decide) (ok_X11_letterOf hR  g5) ?_
  show mr X _ _ 13 _ [.int q4, .ref 145, .int q1] (MM RR S) _
  refine mr_aload_n (pc' := 14) dX11_comesAt_13 rfl rfl ?_
  refine mr_iload_n (pc' := 15) dX11_comesAt_14 rfl rfl ?_
  refine mr_iconst (pc' := 16) (v := (1 : Int32)) dX11_comesAt_15 rfl (by decide) ?_
  obtain ⟨q7, g8, h9⟩ := Option.bind_eq_some_iff.mp h6
  refine mr_cv (pc' := 19) (a := 145) (d1 := 0) dX11_comesAt_16 rfl rfl rfl rfl rfl rfl (by decide) rfl (by decide) (ok_X11_letterOf hR  g8) ?_
  show mr X _ _ 19 _ [.int q7, .int q4, .ref 145, .int q1] (MM RR S) _
  obtain ⟨q10, g11, h12⟩ := Option.bind_eq_some_iff.mp h9
  refine mr_cv (pc' := 22) (a := 145) (d1 := 0) dX11_comesAt_19 rfl rfl rfl rfl rfl rfl (by decide) rfl (by decide) (ok_X11_between hR  g11) ?_
  show mr X _ _ 22 _ [.long q10, .int q1] (MM RR S) _
  refine mr_l2i (pc' := 23) dX11_comesAt_22 rfl ?_
  refine mr_iadd (pc' := 24) dX11_comesAt_23 rfl ?_
  obtain rfl := Option.some.inj h12
  exact mr_ireturn dX11_comesAt_24 rfl
def f_X11_isEarly (v1 : Int32) (S : fS) : Option (Int32) :=
  (f_X11_comesAt v1 S).bind fun q1 =>
  (f_X11_letterOf v1 (1 : Int32) S).bind fun q4 =>
  (f_X11_floorParts q4 S).bind fun q7 =>
  (f_X11_letterOf v1 (2 : Int32) S).bind fun q10 =>
  (f_X11_letterOf v1 (0 : Int32) S).bind fun q13 =>
  (f_X11_floorParts q13 S).bind fun q16 =>
  if ((Int32.toInt64 q10) * q16) ≤ ((Int32.toInt64 q1) * q7) then (some (0 : Int32)) else
  (some (1 : Int32))
set_option maxHeartbeats 4000000 in
set_option maxRecDepth 100000 in
theorem ok_X11_isEarly {X : mm_C} {RR : Nat → Nat → Option Nat} (hR : RRok RR) {v1 : Int32}  {S : fS} {r : Int32} (h : f_X11_isEarly v1 S = some r) : mr X 2 mY_X11_isEarly 0 (lv_args 0 [.ref 145, .int v1]) [] (MM RR S) (some (.int r), MM RR S) := by
  unfold f_X11_isEarly at h
  show mr X _ _ 0 [(0, .ref 145), (1, .int v1)] [] (MM RR S) _
  refine mr_aload_n (pc' := 1) dX11_isEarly_0 rfl rfl ?_
  refine mr_iload_n (pc' := 2) dX11_isEarly_1 rfl rfl ?_
  obtain ⟨q1, g2, h3⟩ := Option.bind_eq_some_iff.mp h
  refine mr_cv (pc' := 5) (a := 145) (d1 := 1) dX11_isEarly_2 rfl rfl rfl rfl rfl rfl (by decide) rfl (by decide) (ok_X11_comesAt hR  g2) ?_
  show mr X _ _ 5 _ [.int q1] (MM RR S) _
  refine mr_i2l (pc' := 6) dX11_isEarly_5 rfl ?_
  refine mr_aload_n (pc' := 7) dX11_isEarly_6 rfl rfl ?_
  refine mr_aload_n (pc' := 8) dX11_isEarly_7 rfl rfl ?_
  refine mr_iload_n (pc' := 9) dX11_isEarly_8 rfl rfl ?_
  refine mr_iconst (pc' := 10) (v := (1 : Int32)) dX11_isEarly_9 rfl (by decide) ?_
  obtain ⟨q4, g5, h6⟩ := Option.bind_eq_some_iff.mp h3
  refine mr_cv (pc' := 13) (a := 145) (d1 := 0) dX11_isEarly_10 rfl rfl rfl rfl rfl rfl (by decide) rfl (by decide) (ok_X11_letterOf hR  g5) ?_
  show mr X _ _ 13 _ [.int q4, .ref 145, .long (Int32.toInt64 q1)] (MM RR S) _
  obtain ⟨q7, g8, h9⟩ := Option.bind_eq_some_iff.mp h6
  refine mr_cv (pc' := 16) (a := 145) (d1 := 0) dX11_isEarly_13 rfl rfl rfl rfl rfl rfl (by decide) rfl (by decide) (ok_X11_floorParts hR  g8) ?_
  show mr X _ _ 16 _ [.long q7, .long (Int32.toInt64 q1)] (MM RR S) _
  refine mr_lmul (pc' := 17) dX11_isEarly_16 rfl ?_
  refine mr_aload_n (pc' := 18) dX11_isEarly_17 rfl rfl ?_
  refine mr_iload_n (pc' := 19) dX11_isEarly_18 rfl rfl ?_
  refine mr_iconst (pc' := 20) (v := (2 : Int32)) dX11_isEarly_19 rfl (by decide) ?_
  obtain ⟨q10, g11, h12⟩ := Option.bind_eq_some_iff.mp h9
  refine mr_cv (pc' := 23) (a := 145) (d1 := 0) dX11_isEarly_20 rfl rfl rfl rfl rfl rfl (by decide) rfl (by decide) (ok_X11_letterOf hR  g11) ?_
  show mr X _ _ 23 _ [.int q10, .long ((Int32.toInt64 q1) * q7)] (MM RR S) _
  refine mr_i2l (pc' := 24) dX11_isEarly_23 rfl ?_
  refine mr_aload_n (pc' := 25) dX11_isEarly_24 rfl rfl ?_
  refine mr_aload_n (pc' := 26) dX11_isEarly_25 rfl rfl ?_
  refine mr_iload_n (pc' := 27) dX11_isEarly_26 rfl rfl ?_
  refine mr_iconst (pc' := 28) (v := (0 : Int32)) dX11_isEarly_27 rfl (by decide) ?_
  obtain ⟨q13, g14, h15⟩ := Option.bind_eq_some_iff.mp h12
  refine mr_cv (pc' := 31) (a := 145) (d1 := 0) dX11_isEarly_28 rfl rfl rfl rfl rfl rfl (by decide) rfl (by decide) (ok_X11_letterOf hR  g14) ?_
  show mr X _ _ 31 _ [.int q13, .ref 145, .long (Int32.toInt64 q10), .long ((Int32.toInt64 q1) * q7)] (MM RR S) _
  obtain ⟨q16, g17, h18⟩ := Option.bind_eq_some_iff.mp h15
  refine mr_cv (pc' := 34) (a := 145) (d1 := 0) dX11_isEarly_31 rfl rfl rfl rfl rfl rfl (by decide) rfl (by decide) (ok_X11_floorParts hR  g17) ?_
  show mr X _ _ 34 _ [.long q16, .long (Int32.toInt64 q10), .long ((Int32.toInt64 q1) * q7)] (MM RR S) _
  refine mr_lmul (pc' := 35) dX11_isEarly_34 rfl ?_
  by_cases c19 : ((Int32.toInt64 q10) * q16) ≤ ((Int32.toInt64 q1) * q7)
  · rw [if_pos c19] at h18
    refine mr_lcmp_ge_t (t := 43) dX11_isEarly_35 rfl dX11_isEarly_36 (by decide) c19 ?_
    refine mr_iconst (pc' := 44) (v := (0 : Int32)) dX11_isEarly_43 rfl (by decide) ?_
    obtain rfl := Option.some.inj h18
    exact mr_zreturn dX11_isEarly_44 rfl (by decide)
  · rw [if_neg c19] at h18
    refine mr_lcmp_ge_f (t := 43) (pc' := 39) dX11_isEarly_35 rfl dX11_isEarly_36 (by decide) rfl c19 ?_
    refine mr_iconst (pc' := 40) (v := (1 : Int32)) dX11_isEarly_39 rfl (by decide) ?_
    refine mr_goto (t := 44) dX11_isEarly_40 (by decide) ?_
    obtain rfl := Option.some.inj h18
    exact mr_zreturn dX11_isEarly_44 rfl (by decide)
def f_X11_letters (v1 : Int32) (v2 : Int32) (S : fS) : Option (Int32) :=
  (gI S 157 158 (4 : Int32)).bind fun a1 =>
  (f_X11_in (Int32.toInt64 v1) (0 : Int64) (Int32.toInt64 (a1 - (1 : Int32))) S).bind fun q4 =>
  if q4 = (0 : Int32) then (some (-1 : Int32)) else
  ((f_X11_in (Int32.toInt64 v2) (0 : Int64) (4 : Int64) S).bind fun q8 =>
  if q8 = (0 : Int32) then (some (-1 : Int32)) else
  (if (3 : Int32) ≤ v2 then (if v2 = (3 : Int32) then ((f_X11_comesAt v1 S).bind fun q18 =>
  some q18) else
  ((f_X11_isEarly v1 S).bind fun q14 =>
  if q14 = (0 : Int32) then (some (0 : Int32)) else
  (some (1 : Int32)))) else
  ((f_X11_letterOf v1 v2 S).bind fun q21 =>
  some q21)))
set_option maxHeartbeats 4000000 in
set_option maxRecDepth 100000 in
theorem ok_X11_letters {X : mm_C} {RR : Nat → Nat → Option Nat} (hR : RRok RR) {v1 : Int32} {v2 : Int32}  {S : fS} {r : Int32} (h : f_X11_letters v1 v2 S = some r) : mr X 3 mY_X11_letters 0 (lv_args 0 [.ref 145, .int v1, .int v2]) [] (MM RR S) (some (.int r), MM RR S) := by
  unfold f_X11_letters at h
  show mr X _ _ 0 [(0, .ref 145), (1, .int v1), (2, .int v2)] [] (MM RR S) _
  refine mr_iload_n (pc' := 1) dX11_letters_0 rfl rfl ?_
  refine mr_i2l (pc' := 2) dX11_letters_1 rfl ?_
  refine mr_lconst (pc' := 3) (v := (0 : Int64)) dX11_letters_2 rfl (by decide) ?_
  refine mr_aload_n (pc' := 4) dX11_letters_3 rfl rfl ?_
  refine mr_getR (pc' := 7) (ci := 11) (j := 25) (b := 157) hR dX11_letters_4 rfl rfl rfl (by decide) (by decide) (by decide) rfl rfl ?_
  refine mr_iconst (pc' := 8) (v := (4 : Int32)) dX11_letters_7 rfl (by decide) ?_
  obtain ⟨a1, g2, h3⟩ := Option.bind_eq_some_iff.mp h
  refine mr_iald (pc' := 9) dX11_letters_8 rfl rfl rfl g2 ?_
  refine mr_iconst (pc' := 10) (v := (1 : Int32)) dX11_letters_9 rfl (by decide) ?_
  refine mr_isub (pc' := 11) dX11_letters_10 rfl ?_
  refine mr_i2l (pc' := 12) dX11_letters_11 rfl ?_
  obtain ⟨q4, g5, h6⟩ := Option.bind_eq_some_iff.mp h3
  refine mr_cs (pc' := 15) (d1 := 0) dX11_letters_12 rfl rfl rfl rfl (by decide) (Nat.le_of_ble_eq_true rfl) rfl rfl rfl (by decide) (ok_X11_in hR  g5) ?_
  show mr X _ _ 15 _ [.int q4] (MM RR S) _
  by_cases c7 : q4 = (0 : Int32)
  · rw [if_pos c7] at h6
    refine mr_if_eq_t (t := 30) dX11_letters_15 (by decide) c7 ?_
    refine mr_iconst (pc' := 31) (v := (-1 : Int32)) dX11_letters_30 rfl (by decide) ?_
    obtain rfl := Option.some.inj h6
    exact mr_ireturn dX11_letters_31 rfl
  · rw [if_neg c7] at h6
    refine mr_if_eq_f (t := 30) (pc' := 18) dX11_letters_15 (by decide) rfl c7 ?_
    refine mr_iload_n (pc' := 19) dX11_letters_18 rfl rfl ?_
    refine mr_i2l (pc' := 20) dX11_letters_19 rfl ?_
    refine mr_lconst (pc' := 21) (v := (0 : Int64)) dX11_letters_20 rfl (by decide) ?_
    refine mr_ldc2 (pc' := 24) (v := (4 : Int64)) dX11_letters_21 rfl rfl ?_
    obtain ⟨q8, g9, h10⟩ := Option.bind_eq_some_iff.mp h6
    refine mr_cs (pc' := 27) (d1 := 0) dX11_letters_24 rfl rfl rfl rfl (by decide) (Nat.le_of_ble_eq_true rfl) rfl rfl rfl (by decide) (ok_X11_in hR  g9) ?_
    show mr X _ _ 27 _ [.int q8] (MM RR S) _
    by_cases c11 : q8 = (0 : Int32)
    · rw [if_pos c11] at h10
      refine mr_if_ne_f (t := 32) (pc' := 30) dX11_letters_27 (by decide) rfl (not_not_intro c11) ?_
      refine mr_iconst (pc' := 31) (v := (-1 : Int32)) dX11_letters_30 rfl (by decide) ?_
      obtain rfl := Option.some.inj h10
      exact mr_ireturn dX11_letters_31 rfl
    · rw [if_neg c11] at h10
      refine mr_if_ne_t (t := 32) dX11_letters_27 (by decide) c11 ?_
      refine mr_iload_n (pc' := 33) dX11_letters_32 rfl rfl ?_
      refine mr_iconst (pc' := 34) (v := (3 : Int32)) dX11_letters_33 rfl (by decide) ?_
      by_cases c12 : (3 : Int32) ≤ v2
      · rw [if_pos c12] at h10
        refine mr_icmp_ge_t (t := 46) dX11_letters_34 (by decide) c12 ?_
        refine mr_iload_n (pc' := 47) dX11_letters_46 rfl rfl ?_
        refine mr_iconst (pc' := 48) (v := (3 : Int32)) dX11_letters_47 rfl (by decide) ?_
        by_cases c13 : v2 = (3 : Int32)
        · rw [if_pos c13] at h10
          refine mr_icmp_ne_f (t := 59) (pc' := 51) dX11_letters_48 (by decide) rfl (not_not_intro c13) ?_
          refine mr_aload_n (pc' := 52) dX11_letters_51 rfl rfl ?_
          refine mr_iload_n (pc' := 53) dX11_letters_52 rfl rfl ?_
          obtain ⟨q18, g19, h20⟩ := Option.bind_eq_some_iff.mp h10
          refine mr_cv (pc' := 56) (a := 145) (d1 := 1) dX11_letters_53 rfl rfl rfl rfl rfl rfl (by decide) rfl (by decide) (ok_X11_comesAt hR  g19) ?_
          show mr X _ _ 56 _ [.int q18] (MM RR S) _
          refine mr_goto (t := 72) dX11_letters_56 (by decide) ?_
          obtain rfl := Option.some.inj h20
          exact mr_ireturn dX11_letters_72 rfl
        · rw [if_neg c13] at h10
          refine mr_icmp_ne_t (t := 59) dX11_letters_48 (by decide) c13 ?_
          refine mr_aload_n (pc' := 60) dX11_letters_59 rfl rfl ?_
          refine mr_iload_n (pc' := 61) dX11_letters_60 rfl rfl ?_
          obtain ⟨q14, g15, h16⟩ := Option.bind_eq_some_iff.mp h10
          refine mr_cv (pc' := 64) (a := 145) (d1 := 2) dX11_letters_61 rfl rfl rfl rfl rfl rfl (by decide) rfl (by decide) (ok_X11_isEarly hR  g15) ?_
          show mr X _ _ 64 _ [.int q14] (MM RR S) _
          by_cases c17 : q14 = (0 : Int32)
          · rw [if_pos c17] at h16
            refine mr_if_eq_t (t := 71) dX11_letters_64 (by decide) c17 ?_
            refine mr_iconst (pc' := 72) (v := (0 : Int32)) dX11_letters_71 rfl (by decide) ?_
            obtain rfl := Option.some.inj h16
            exact mr_ireturn dX11_letters_72 rfl
          · rw [if_neg c17] at h16
            refine mr_if_eq_f (t := 71) (pc' := 67) dX11_letters_64 (by decide) rfl c17 ?_
            refine mr_iconst (pc' := 68) (v := (1 : Int32)) dX11_letters_67 rfl (by decide) ?_
            refine mr_goto (t := 72) dX11_letters_68 (by decide) ?_
            obtain rfl := Option.some.inj h16
            exact mr_ireturn dX11_letters_72 rfl
      · rw [if_neg c12] at h10
        refine mr_icmp_ge_f (t := 46) (pc' := 37) dX11_letters_34 (by decide) rfl c12 ?_
        refine mr_aload_n (pc' := 38) dX11_letters_37 rfl rfl ?_
        refine mr_iload_n (pc' := 39) dX11_letters_38 rfl rfl ?_
        refine mr_iload_n (pc' := 40) dX11_letters_39 rfl rfl ?_
        obtain ⟨q21, g22, h23⟩ := Option.bind_eq_some_iff.mp h10
        refine mr_cv (pc' := 43) (a := 145) (d1 := 0) dX11_letters_40 rfl rfl rfl rfl rfl rfl (by decide) rfl (by decide) (ok_X11_letterOf hR  g22) ?_
        show mr X _ _ 43 _ [.int q21] (MM RR S) _
        refine mr_goto (t := 72) dX11_letters_43 (by decide) ?_
        obtain rfl := Option.some.inj h23
        exact mr_ireturn dX11_letters_72 rfl
def f_X11_sentAt (v1 : Int32) (S : fS) : Option (Int64) :=
  (f_X11_letterOf v1 (2 : Int32) S).bind fun q1 =>
  (f_X11_letterOf v1 (0 : Int32) S).bind fun q4 =>
  (f_X11_floorParts q4 S).bind fun q7 =>
  some ((Int32.toInt64 q1) * q7)
set_option maxHeartbeats 4000000 in
set_option maxRecDepth 100000 in
theorem ok_X11_sentAt {X : mm_C} {RR : Nat → Nat → Option Nat} (hR : RRok RR) {v1 : Int32}  {S : fS} {r : Int64} (h : f_X11_sentAt v1 S = some r) : mr X 1 mY_X11_sentAt 0 (lv_args 0 [.ref 145, .int v1]) [] (MM RR S) (some (.long r), MM RR S) := by
  unfold f_X11_sentAt at h
  show mr X _ _ 0 [(0, .ref 145), (1, .int v1)] [] (MM RR S) _
  refine mr_aload_n (pc' := 1) dX11_sentAt_0 rfl rfl ?_
  refine mr_iload_n (pc' := 2) dX11_sentAt_1 rfl rfl ?_
  refine mr_iconst (pc' := 3) (v := (2 : Int32)) dX11_sentAt_2 rfl (by decide) ?_
  obtain ⟨q1, g2, h3⟩ := Option.bind_eq_some_iff.mp h
  refine mr_cv (pc' := 6) (a := 145) (d1 := 0) dX11_sentAt_3 rfl rfl rfl rfl rfl rfl (by decide) rfl (by decide) (ok_X11_letterOf hR  g2) ?_
  show mr X _ _ 6 _ [.int q1] (MM RR S) _
  refine mr_i2l (pc' := 7) dX11_sentAt_6 rfl ?_
  refine mr_aload_n (pc' := 8) dX11_sentAt_7 rfl rfl ?_
  refine mr_aload_n (pc' := 9) dX11_sentAt_8 rfl rfl ?_
  refine mr_iload_n (pc' := 10) dX11_sentAt_9 rfl rfl ?_
  refine mr_iconst (pc' := 11) (v := (0 : Int32)) dX11_sentAt_10 rfl (by decide) ?_
  obtain ⟨q4, g5, h6⟩ := Option.bind_eq_some_iff.mp h3
  refine mr_cv (pc' := 14) (a := 145) (d1 := 0) dX11_sentAt_11 rfl rfl rfl rfl rfl rfl (by decide) rfl (by decide) (ok_X11_letterOf hR  g5) ?_
  show mr X _ _ 14 _ [.int q4, .ref 145, .long (Int32.toInt64 q1)] (MM RR S) _
  obtain ⟨q7, g8, h9⟩ := Option.bind_eq_some_iff.mp h6
  refine mr_cv (pc' := 17) (a := 145) (d1 := 0) dX11_sentAt_14 rfl rfl rfl rfl rfl rfl (by decide) rfl (by decide) (ok_X11_floorParts hR  g8) ?_
  show mr X _ _ 17 _ [.long q7, .long (Int32.toInt64 q1)] (MM RR S) _
  refine mr_lmul (pc' := 18) dX11_sentAt_17 rfl ?_
  obtain rfl := Option.some.inj h9
  exact mr_lreturn dX11_sentAt_18 rfl
def lp_X11_crossed_16 (p2 : Int32) (S : fS) (K : Int32 → Option (Int32)) : Nat → Int32 → Int32 → Option (Int32)
  | 0, _, _ => none
  | n + 1, p1, p3 =>
    (gI S 157 158 (4 : Int32)).bind fun a5 =>
    if a5 ≤ p3 then (K p1) else
    ((f_X11_sentAt p2 S).bind fun q9 =>
    (f_X11_sentAt p3 S).bind fun q12 =>
    if q12 ≤ q9 then (lp_X11_crossed_16 p2 S K n (p1 + (0 : Int32)) (p3 + (1 : Int32))) else
    ((f_X11_comesAt p2 S).bind fun q16 =>
    (f_X11_comesAt p3 S).bind fun q19 =>
    if q16 ≤ q19 then (lp_X11_crossed_16 p2 S K n (p1 + (0 : Int32)) (p3 + (1 : Int32))) else
    (lp_X11_crossed_16 p2 S K n (p1 + (1 : Int32)) (p3 + (1 : Int32)))))
set_option maxHeartbeats 4000000 in
set_option maxRecDepth 100000 in
theorem ok_lp_X11_crossed_16 {X : mm_C} {RR : Nat → Nat → Option Nat} (hR : RRok RR) {p2 : Int32}  {S : fS} {K : Int32 → Option (Int32)} {r : Int32} (hK : ∀ (k1 : Int32), K k1 = some r → mr X 2 mY_X11_crossed 67 [(0, .ref 145), (1, .int k1), (2, .int p2)] [] (MM RR S) (some (.int r), MM RR S)) : ∀ (n : Nat) (p1 : Int32) (p3 : Int32), lp_X11_crossed_16 p2 S K n p1 p3 = some r → mr X 2 mY_X11_crossed 16 [(0, .ref 145), (1, .int p1), (2, .int p2), (3, .int p3)] [] (MM RR S) (some (.int r), MM RR S) := by
  intro n
  induction n with
  | zero => intro p1 p3 h; exact mm_no h
  | succ n ih =>
    intro p1 p3 h
    unfold lp_X11_crossed_16 at h
    refine mr_iload_n (pc' := 17) dX11_crossed_16 rfl rfl ?_
    refine mr_aload_n (pc' := 18) dX11_crossed_17 rfl rfl ?_
    refine mr_getR (pc' := 21) (ci := 11) (j := 25) (b := 157) hR dX11_crossed_18 rfl rfl rfl (by decide) (by decide) (by decide) rfl rfl ?_
    refine mr_iconst (pc' := 22) (v := (4 : Int32)) dX11_crossed_21 rfl (by decide) ?_
    obtain ⟨a5, g6, h7⟩ := Option.bind_eq_some_iff.mp h
    refine mr_iald (pc' := 23) dX11_crossed_22 rfl rfl rfl g6 ?_
    by_cases c8 : a5 ≤ p3
    · rw [if_pos c8] at h7
      refine mr_icmp_ge_t (t := 67) dX11_crossed_23 (by decide) c8 ?_
      exact mr_sub [(0, .ref 145), (1, .int p1), (2, .int p2)] ⟨rfl, rfl, rfl, trivial⟩ rfl (hK _  h7)
    · rw [if_neg c8] at h7
      refine mr_icmp_ge_f (t := 67) (pc' := 26) dX11_crossed_23 (by decide) rfl c8 ?_
      refine mr_iload_n (pc' := 27) dX11_crossed_26 rfl rfl ?_
      refine mr_aload_n (pc' := 28) dX11_crossed_27 rfl rfl ?_
      refine mr_iload_n (pc' := 29) dX11_crossed_28 rfl rfl ?_
      obtain ⟨q9, g10, h11⟩ := Option.bind_eq_some_iff.mp h7
      refine mr_cv (pc' := 32) (a := 145) (d1 := 1) dX11_crossed_29 rfl rfl rfl rfl rfl rfl (by decide) rfl (by decide) (ok_X11_sentAt hR  g10) ?_
      show mr X _ _ 32 _ [.long q9, .int p1] (MM RR S) _
      refine mr_aload_n (pc' := 33) dX11_crossed_32 rfl rfl ?_
      refine mr_iload_n (pc' := 34) dX11_crossed_33 rfl rfl ?_
      obtain ⟨q12, g13, h14⟩ := Option.bind_eq_some_iff.mp h11
      refine mr_cv (pc' := 37) (a := 145) (d1 := 1) dX11_crossed_34 rfl rfl rfl rfl rfl rfl (by decide) rfl (by decide) (ok_X11_sentAt hR  g13) ?_
      show mr X _ _ 37 _ [.long q12, .long q9, .int p1] (MM RR S) _
      by_cases c15 : q12 ≤ q9
      · rw [if_pos c15] at h14
        refine mr_lcmp_ge_t (t := 58) dX11_crossed_37 rfl dX11_crossed_38 (by decide) c15 ?_
        refine mr_iconst (pc' := 59) (v := (0 : Int32)) dX11_crossed_58 rfl (by decide) ?_
        refine mr_iadd (pc' := 60) dX11_crossed_59 rfl ?_
        refine mr_istore_n (pc' := 61) (lv' := [(1, .int (p1 + (0 : Int32))), (0, .ref 145), (2, .int p2), (3, .int p3)]) dX11_crossed_60 rfl (by decide) rfl ?_
        refine mr_iinc (pc' := 64) (x' := (p3 + (1 : Int32))) (lv' := [(3, .int (p3 + (1 : Int32))), (1, .int (p1 + (0 : Int32))), (0, .ref 145), (2, .int p2)]) dX11_crossed_61 rfl (by decide) rfl rfl rfl ?_
        refine mr_goto (t := 16) dX11_crossed_64 (by decide) ?_
        exact mr_sub [(0, .ref 145), (1, .int (p1 + (0 : Int32))), (2, .int p2), (3, .int (p3 + (1 : Int32)))] ⟨rfl, rfl, rfl, rfl, trivial⟩ rfl (ih _ _  h14)
      · rw [if_neg c15] at h14
        refine mr_lcmp_ge_f (t := 58) (pc' := 41) dX11_crossed_37 rfl dX11_crossed_38 (by decide) rfl c15 ?_
        refine mr_aload_n (pc' := 42) dX11_crossed_41 rfl rfl ?_
        refine mr_iload_n (pc' := 43) dX11_crossed_42 rfl rfl ?_
        obtain ⟨q16, g17, h18⟩ := Option.bind_eq_some_iff.mp h14
        refine mr_cv (pc' := 46) (a := 145) (d1 := 1) dX11_crossed_43 rfl rfl rfl rfl rfl rfl (by decide) rfl (by decide) (ok_X11_comesAt hR  g17) ?_
        show mr X _ _ 46 _ [.int q16, .int p1] (MM RR S) _
        refine mr_aload_n (pc' := 47) dX11_crossed_46 rfl rfl ?_
        refine mr_iload_n (pc' := 48) dX11_crossed_47 rfl rfl ?_
        obtain ⟨q19, g20, h21⟩ := Option.bind_eq_some_iff.mp h18
        refine mr_cv (pc' := 51) (a := 145) (d1 := 1) dX11_crossed_48 rfl rfl rfl rfl rfl rfl (by decide) rfl (by decide) (ok_X11_comesAt hR  g20) ?_
        show mr X _ _ 51 _ [.int q19, .int q16, .int p1] (MM RR S) _
        by_cases c22 : q16 ≤ q19
        · rw [if_pos c22] at h21
          refine mr_icmp_le_t (t := 58) dX11_crossed_51 (by decide) c22 ?_
          refine mr_iconst (pc' := 59) (v := (0 : Int32)) dX11_crossed_58 rfl (by decide) ?_
          refine mr_iadd (pc' := 60) dX11_crossed_59 rfl ?_
          refine mr_istore_n (pc' := 61) (lv' := [(1, .int (p1 + (0 : Int32))), (0, .ref 145), (2, .int p2), (3, .int p3)]) dX11_crossed_60 rfl (by decide) rfl ?_
          refine mr_iinc (pc' := 64) (x' := (p3 + (1 : Int32))) (lv' := [(3, .int (p3 + (1 : Int32))), (1, .int (p1 + (0 : Int32))), (0, .ref 145), (2, .int p2)]) dX11_crossed_61 rfl (by decide) rfl rfl rfl ?_
          refine mr_goto (t := 16) dX11_crossed_64 (by decide) ?_
          exact mr_sub [(0, .ref 145), (1, .int (p1 + (0 : Int32))), (2, .int p2), (3, .int (p3 + (1 : Int32)))] ⟨rfl, rfl, rfl, rfl, trivial⟩ rfl (ih _ _  h21)
        · rw [if_neg c22] at h21
          refine mr_icmp_le_f (t := 58) (pc' := 54) dX11_crossed_51 (by decide) rfl c22 ?_
          refine mr_iconst (pc' := 55) (v := (1 : Int32)) dX11_crossed_54 rfl (by decide) ?_
          refine mr_goto (t := 59) dX11_crossed_55 (by decide) ?_
          refine mr_iadd (pc' := 60) dX11_crossed_59 rfl ?_
          refine mr_istore_n (pc' := 61) (lv' := [(1, .int (p1 + (1 : Int32))), (0, .ref 145), (2, .int p2), (3, .int p3)]) dX11_crossed_60 rfl (by decide) rfl ?_
          refine mr_iinc (pc' := 64) (x' := (p3 + (1 : Int32))) (lv' := [(3, .int (p3 + (1 : Int32))), (1, .int (p1 + (1 : Int32))), (0, .ref 145), (2, .int p2)]) dX11_crossed_61 rfl (by decide) rfl rfl rfl ?_
          refine mr_goto (t := 16) dX11_crossed_64 (by decide) ?_
          exact mr_sub [(0, .ref 145), (1, .int (p1 + (1 : Int32))), (2, .int p2), (3, .int (p3 + (1 : Int32)))] ⟨rfl, rfl, rfl, rfl, trivial⟩ rfl (ih _ _  h21)
def lp_X11_crossed_4  (S : fS) (K : Int32 → Option (Int32)) : Nat → Int32 → Int32 → Option (Int32)
  | 0, _, _ => none
  | n + 1, p1, p2 =>
    (gI S 157 158 (4 : Int32)).bind fun a1 =>
    if a1 ≤ p2 then (K p1) else
    (lp_X11_crossed_16 p2 S (fun u23 => lp_X11_crossed_4  S K n u23 (p2 + (1 : Int32))) FU p1 (0 : Int32))
set_option maxHeartbeats 4000000 in
set_option maxRecDepth 100000 in
theorem ok_lp_X11_crossed_4 {X : mm_C} {RR : Nat → Nat → Option Nat} (hR : RRok RR)   {S : fS} {K : Int32 → Option (Int32)} {r : Int32} (hK : ∀ (k1 : Int32), K k1 = some r → mr X 2 mY_X11_crossed 73 [(1, .int k1)] [] (MM RR S) (some (.int r), MM RR S)) : ∀ (n : Nat) (p1 : Int32) (p2 : Int32), lp_X11_crossed_4  S K n p1 p2 = some r → mr X 2 mY_X11_crossed 4 [(0, .ref 145), (1, .int p1), (2, .int p2)] [] (MM RR S) (some (.int r), MM RR S) := by
  intro n
  induction n with
  | zero => intro p1 p2 h; exact mm_no h
  | succ n ih =>
    intro p1 p2 h
    unfold lp_X11_crossed_4 at h
    refine mr_iload_n (pc' := 5) dX11_crossed_4 rfl rfl ?_
    refine mr_aload_n (pc' := 6) dX11_crossed_5 rfl rfl ?_
    refine mr_getR (pc' := 9) (ci := 11) (j := 25) (b := 157) hR dX11_crossed_6 rfl rfl rfl (by decide) (by decide) (by decide) rfl rfl ?_
    refine mr_iconst (pc' := 10) (v := (4 : Int32)) dX11_crossed_9 rfl (by decide) ?_
    obtain ⟨a1, g2, h3⟩ := Option.bind_eq_some_iff.mp h
    refine mr_iald (pc' := 11) dX11_crossed_10 rfl rfl rfl g2 ?_
    by_cases c4 : a1 ≤ p2
    · rw [if_pos c4] at h3
      refine mr_icmp_ge_t (t := 73) dX11_crossed_11 (by decide) c4 ?_
      exact mr_sub [(1, .int p1)] ⟨rfl, trivial⟩ rfl (hK _  h3)
    · rw [if_neg c4] at h3
      refine mr_icmp_ge_f (t := 73) (pc' := 14) dX11_crossed_11 (by decide) rfl c4 ?_
      refine mr_iconst (pc' := 15) (v := (0 : Int32)) dX11_crossed_14 rfl (by decide) ?_
      refine mr_istore_n (pc' := 16) (lv' := [(3, .int (0 : Int32)), (0, .ref 145), (1, .int p1), (2, .int p2)]) dX11_crossed_15 rfl (by decide) rfl ?_
      refine mr_sub [(0, .ref 145), (1, .int p1), (2, .int p2), (3, .int (0 : Int32))] ⟨rfl, rfl, rfl, rfl, trivial⟩ rfl ?_
      refine ok_lp_X11_crossed_16 hR  (fun u23 h24 => ?_) FU _ _  h3
      refine mr_iinc (pc' := 70) (x' := (p2 + (1 : Int32))) (lv' := [(2, .int (p2 + (1 : Int32))), (0, .ref 145), (1, .int u23)]) dX11_crossed_67 rfl (by decide) rfl rfl rfl ?_
      refine mr_goto (t := 4) dX11_crossed_70 (by decide) ?_
      exact mr_sub [(0, .ref 145), (1, .int u23), (2, .int (p2 + (1 : Int32)))] ⟨rfl, rfl, rfl, trivial⟩ rfl (ih _ _  h24)
def f_X11_crossed  (S : fS) : Option (Int32) :=
  lp_X11_crossed_4  S (fun u25 => some u25) FU (0 : Int32) (0 : Int32)
set_option maxHeartbeats 4000000 in
set_option maxRecDepth 100000 in
theorem ok_X11_crossed {X : mm_C} {RR : Nat → Nat → Option Nat} (hR : RRok RR)   {S : fS} {r : Int32} (h : f_X11_crossed  S = some r) : mr X 2 mY_X11_crossed 0 (lv_args 0 [.ref 145]) [] (MM RR S) (some (.int r), MM RR S) := by
  unfold f_X11_crossed at h
  show mr X _ _ 0 [(0, .ref 145)] [] (MM RR S) _
  refine mr_iconst (pc' := 1) (v := (0 : Int32)) dX11_crossed_0 rfl (by decide) ?_
  refine mr_istore_n (pc' := 2) (lv' := [(1, .int (0 : Int32)), (0, .ref 145)]) dX11_crossed_1 rfl (by decide) rfl ?_
  refine mr_iconst (pc' := 3) (v := (0 : Int32)) dX11_crossed_2 rfl (by decide) ?_
  refine mr_istore_n (pc' := 4) (lv' := [(2, .int (0 : Int32)), (1, .int (0 : Int32)), (0, .ref 145)]) dX11_crossed_3 rfl (by decide) rfl ?_
  refine mr_sub [(0, .ref 145), (1, .int (0 : Int32)), (2, .int (0 : Int32))] ⟨rfl, rfl, rfl, trivial⟩ rfl ?_
  refine ok_lp_X11_crossed_4 hR  (fun u25 h26 => ?_) FU _ _  h
  refine mr_iload_n (pc' := 74) dX11_crossed_73 rfl rfl ?_
  obtain rfl := Option.some.inj h26
  exact mr_ireturn dX11_crossed_74 rfl
def lp_X11_order_37 (p1 : Int32) (p2 : Int32) (S : fS) (K : Int32 → Option (Int32)) : Nat → Int32 → Int32 → Option (Int32)
  | 0, _, _ => none
  | n + 1, p3, p4 =>
    (gI S 157 158 (4 : Int32)).bind fun a12 =>
    if a12 ≤ p4 then (K p3) else
    ((f_X11_comesAt p4 S).bind fun q16 =>
    (f_X11_comesAt p2 S).bind fun q19 =>
    if q16 < q19 then (lp_X11_order_37 p1 p2 S K n (p3 + (1 : Int32)) (p4 + (1 : Int32))) else
    ((f_X11_comesAt p4 S).bind fun q23 =>
    (f_X11_comesAt p2 S).bind fun q26 =>
    if q23 = q26 then (if p2 ≤ p4 then (lp_X11_order_37 p1 p2 S K n (p3 + (0 : Int32)) (p4 + (1 : Int32))) else
    (lp_X11_order_37 p1 p2 S K n (p3 + (1 : Int32)) (p4 + (1 : Int32)))) else
    (lp_X11_order_37 p1 p2 S K n (p3 + (0 : Int32)) (p4 + (1 : Int32)))))
set_option maxHeartbeats 4000000 in
set_option maxRecDepth 100000 in
theorem ok_lp_X11_order_37 {X : mm_C} {RR : Nat → Nat → Option Nat} (hR : RRok RR) {p1 : Int32} {p2 : Int32}  {S : fS} {K : Int32 → Option (Int32)} {r : Int32} (hK : ∀ (k3 : Int32), K k3 = some r → mr X 2 mY_X11_order 96 [(0, .ref 145), (1, .int p1), (2, .int p2), (3, .int k3)] [] (MM RR S) (some (.int r), MM RR S)) : ∀ (n : Nat) (p3 : Int32) (p4 : Int32), lp_X11_order_37 p1 p2 S K n p3 p4 = some r → mr X 2 mY_X11_order 37 [(0, .ref 145), (1, .int p1), (2, .int p2), (3, .int p3), (4, .int p4)] [] (MM RR S) (some (.int r), MM RR S) := by
  intro n
  induction n with
  | zero => intro p3 p4 h; exact mm_no h
  | succ n ih =>
    intro p3 p4 h
    unfold lp_X11_order_37 at h
    refine mr_iload (pc' := 39) dX11_order_37 rfl rfl ?_
    refine mr_aload_n (pc' := 40) dX11_order_39 rfl rfl ?_
    refine mr_getR (pc' := 43) (ci := 11) (j := 25) (b := 157) hR dX11_order_40 rfl rfl rfl (by decide) (by decide) (by decide) rfl rfl ?_
    refine mr_iconst (pc' := 44) (v := (4 : Int32)) dX11_order_43 rfl (by decide) ?_
    obtain ⟨a12, g13, h14⟩ := Option.bind_eq_some_iff.mp h
    refine mr_iald (pc' := 45) dX11_order_44 rfl rfl rfl g13 ?_
    by_cases c15 : a12 ≤ p4
    · rw [if_pos c15] at h14
      refine mr_icmp_ge_t (t := 96) dX11_order_45 (by decide) c15 ?_
      exact mr_sub [(0, .ref 145), (1, .int p1), (2, .int p2), (3, .int p3)] ⟨rfl, rfl, rfl, rfl, trivial⟩ rfl (hK _  h14)
    · rw [if_neg c15] at h14
      refine mr_icmp_ge_f (t := 96) (pc' := 48) dX11_order_45 (by decide) rfl c15 ?_
      refine mr_iload_n (pc' := 49) dX11_order_48 rfl rfl ?_
      refine mr_aload_n (pc' := 50) dX11_order_49 rfl rfl ?_
      refine mr_iload (pc' := 52) dX11_order_50 rfl rfl ?_
      obtain ⟨q16, g17, h18⟩ := Option.bind_eq_some_iff.mp h14
      refine mr_cv (pc' := 55) (a := 145) (d1 := 1) dX11_order_52 rfl rfl rfl rfl rfl rfl (by decide) rfl (by decide) (ok_X11_comesAt hR  g17) ?_
      show mr X _ _ 55 _ [.int q16, .int p3] (MM RR S) _
      refine mr_aload_n (pc' := 56) dX11_order_55 rfl rfl ?_
      refine mr_iload_n (pc' := 57) dX11_order_56 rfl rfl ?_
      obtain ⟨q19, g20, h21⟩ := Option.bind_eq_some_iff.mp h18
      refine mr_cv (pc' := 60) (a := 145) (d1 := 1) dX11_order_57 rfl rfl rfl rfl rfl rfl (by decide) rfl (by decide) (ok_X11_comesAt hR  g20) ?_
      show mr X _ _ 60 _ [.int q19, .int q16, .int p3] (MM RR S) _
      by_cases c22 : q16 < q19
      · rw [if_pos c22] at h21
        refine mr_icmp_lt_t (t := 83) dX11_order_60 (by decide) c22 ?_
        refine mr_iconst (pc' := 84) (v := (1 : Int32)) dX11_order_83 rfl (by decide) ?_
        refine mr_goto (t := 88) dX11_order_84 (by decide) ?_
        refine mr_iadd (pc' := 89) dX11_order_88 rfl ?_
        refine mr_istore_n (pc' := 90) (lv' := [(3, .int (p3 + (1 : Int32))), (0, .ref 145), (1, .int p1), (2, .int p2), (4, .int p4)]) dX11_order_89 rfl (by decide) rfl ?_
        refine mr_iinc (pc' := 93) (x' := (p4 + (1 : Int32))) (lv' := [(4, .int (p4 + (1 : Int32))), (3, .int (p3 + (1 : Int32))), (0, .ref 145), (1, .int p1), (2, .int p2)]) dX11_order_90 rfl (by decide) rfl rfl rfl ?_
        refine mr_goto (t := 37) dX11_order_93 (by decide) ?_
        exact mr_sub [(0, .ref 145), (1, .int p1), (2, .int p2), (3, .int (p3 + (1 : Int32))), (4, .int (p4 + (1 : Int32)))] ⟨rfl, rfl, rfl, rfl, rfl, trivial⟩ rfl (ih _ _  h21)
      · rw [if_neg c22] at h21
        refine mr_icmp_lt_f (t := 83) (pc' := 63) dX11_order_60 (by decide) rfl c22 ?_
        refine mr_aload_n (pc' := 64) dX11_order_63 rfl rfl ?_
        refine mr_iload (pc' := 66) dX11_order_64 rfl rfl ?_
        obtain ⟨q23, g24, h25⟩ := Option.bind_eq_some_iff.mp h21
        refine mr_cv (pc' := 69) (a := 145) (d1 := 1) dX11_order_66 rfl rfl rfl rfl rfl rfl (by decide) rfl (by decide) (ok_X11_comesAt hR  g24) ?_
        show mr X _ _ 69 _ [.int q23, .int p3] (MM RR S) _
        refine mr_aload_n (pc' := 70) dX11_order_69 rfl rfl ?_
        refine mr_iload_n (pc' := 71) dX11_order_70 rfl rfl ?_
        obtain ⟨q26, g27, h28⟩ := Option.bind_eq_some_iff.mp h25
        refine mr_cv (pc' := 74) (a := 145) (d1 := 1) dX11_order_71 rfl rfl rfl rfl rfl rfl (by decide) rfl (by decide) (ok_X11_comesAt hR  g27) ?_
        show mr X _ _ 74 _ [.int q26, .int q23, .int p3] (MM RR S) _
        by_cases c29 : q23 = q26
        · rw [if_pos c29] at h28
          refine mr_icmp_ne_f (t := 87) (pc' := 77) dX11_order_74 (by decide) rfl (not_not_intro c29) ?_
          refine mr_iload (pc' := 79) dX11_order_77 rfl rfl ?_
          refine mr_iload_n (pc' := 80) dX11_order_79 rfl rfl ?_
          by_cases c30 : p2 ≤ p4
          · rw [if_pos c30] at h28
            refine mr_icmp_ge_t (t := 87) dX11_order_80 (by decide) c30 ?_
            refine mr_iconst (pc' := 88) (v := (0 : Int32)) dX11_order_87 rfl (by decide) ?_
            refine mr_iadd (pc' := 89) dX11_order_88 rfl ?_
            refine mr_istore_n (pc' := 90) (lv' := [(3, .int (p3 + (0 : Int32))), (0, .ref 145), (1, .int p1), (2, .int p2), (4, .int p4)]) dX11_order_89 rfl (by decide) rfl ?_
            refine mr_iinc (pc' := 93) (x' := (p4 + (1 : Int32))) (lv' := [(4, .int (p4 + (1 : Int32))), (3, .int (p3 + (0 : Int32))), (0, .ref 145), (1, .int p1), (2, .int p2)]) dX11_order_90 rfl (by decide) rfl rfl rfl ?_
            refine mr_goto (t := 37) dX11_order_93 (by decide) ?_
            exact mr_sub [(0, .ref 145), (1, .int p1), (2, .int p2), (3, .int (p3 + (0 : Int32))), (4, .int (p4 + (1 : Int32)))] ⟨rfl, rfl, rfl, rfl, rfl, trivial⟩ rfl (ih _ _  h28)
          · rw [if_neg c30] at h28
            refine mr_icmp_ge_f (t := 87) (pc' := 83) dX11_order_80 (by decide) rfl c30 ?_
            refine mr_iconst (pc' := 84) (v := (1 : Int32)) dX11_order_83 rfl (by decide) ?_
            refine mr_goto (t := 88) dX11_order_84 (by decide) ?_
            refine mr_iadd (pc' := 89) dX11_order_88 rfl ?_
            refine mr_istore_n (pc' := 90) (lv' := [(3, .int (p3 + (1 : Int32))), (0, .ref 145), (1, .int p1), (2, .int p2), (4, .int p4)]) dX11_order_89 rfl (by decide) rfl ?_
            refine mr_iinc (pc' := 93) (x' := (p4 + (1 : Int32))) (lv' := [(4, .int (p4 + (1 : Int32))), (3, .int (p3 + (1 : Int32))), (0, .ref 145), (1, .int p1), (2, .int p2)]) dX11_order_90 rfl (by decide) rfl rfl rfl ?_
            refine mr_goto (t := 37) dX11_order_93 (by decide) ?_
            exact mr_sub [(0, .ref 145), (1, .int p1), (2, .int p2), (3, .int (p3 + (1 : Int32))), (4, .int (p4 + (1 : Int32)))] ⟨rfl, rfl, rfl, rfl, rfl, trivial⟩ rfl (ih _ _  h28)
        · rw [if_neg c29] at h28
          refine mr_icmp_ne_t (t := 87) dX11_order_74 (by decide) c29 ?_
          refine mr_iconst (pc' := 88) (v := (0 : Int32)) dX11_order_87 rfl (by decide) ?_
          refine mr_iadd (pc' := 89) dX11_order_88 rfl ?_
          refine mr_istore_n (pc' := 90) (lv' := [(3, .int (p3 + (0 : Int32))), (0, .ref 145), (1, .int p1), (2, .int p2), (4, .int p4)]) dX11_order_89 rfl (by decide) rfl ?_
          refine mr_iinc (pc' := 93) (x' := (p4 + (1 : Int32))) (lv' := [(4, .int (p4 + (1 : Int32))), (3, .int (p3 + (0 : Int32))), (0, .ref 145), (1, .int p1), (2, .int p2)]) dX11_order_90 rfl (by decide) rfl rfl rfl ?_
          refine mr_goto (t := 37) dX11_order_93 (by decide) ?_
          exact mr_sub [(0, .ref 145), (1, .int p1), (2, .int p2), (3, .int (p3 + (0 : Int32))), (4, .int (p4 + (1 : Int32)))] ⟨rfl, rfl, rfl, rfl, rfl, trivial⟩ rfl (ih _ _  h28)
def lp_X11_order_22 (p1 : Int32) (S : fS) (K : Unit → Option (Int32)) : Nat → Int32 → Option (Int32)
  | 0, _ => none
  | n + 1, p2 =>
    (gI S 157 158 (4 : Int32)).bind fun a8 =>
    if a8 ≤ p2 then (K ()) else
    (lp_X11_order_37 p1 p2 S (fun u31 => if u31 = p1 then (some p2) else
    (lp_X11_order_22 p1 S K n (p2 + (1 : Int32)))) FU (0 : Int32) (0 : Int32))
set_option maxHeartbeats 4000000 in
set_option maxRecDepth 100000 in
theorem ok_lp_X11_order_22 {X : mm_C} {RR : Nat → Nat → Option Nat} (hR : RRok RR) {p1 : Int32}  {S : fS} {K : Unit → Option (Int32)} {r : Int32} (hK : ∀ (_ : Unit), K () = some r → mr X 2 mY_X11_order 109 [] [] (MM RR S) (some (.int r), MM RR S)) : ∀ (n : Nat) (p2 : Int32), lp_X11_order_22 p1 S K n p2 = some r → mr X 2 mY_X11_order 22 [(0, .ref 145), (1, .int p1), (2, .int p2)] [] (MM RR S) (some (.int r), MM RR S) := by
  intro n
  induction n with
  | zero => intro p2 h; exact mm_no h
  | succ n ih =>
    intro p2 h
    unfold lp_X11_order_22 at h
    refine mr_iload_n (pc' := 23) dX11_order_22 rfl rfl ?_
    refine mr_aload_n (pc' := 24) dX11_order_23 rfl rfl ?_
    refine mr_getR (pc' := 27) (ci := 11) (j := 25) (b := 157) hR dX11_order_24 rfl rfl rfl (by decide) (by decide) (by decide) rfl rfl ?_
    refine mr_iconst (pc' := 28) (v := (4 : Int32)) dX11_order_27 rfl (by decide) ?_
    obtain ⟨a8, g9, h10⟩ := Option.bind_eq_some_iff.mp h
    refine mr_iald (pc' := 29) dX11_order_28 rfl rfl rfl g9 ?_
    by_cases c11 : a8 ≤ p2
    · rw [if_pos c11] at h10
      refine mr_icmp_ge_t (t := 109) dX11_order_29 (by decide) c11 ?_
      exact mr_sub [] trivial rfl (hK () h10)
    · rw [if_neg c11] at h10
      refine mr_icmp_ge_f (t := 109) (pc' := 32) dX11_order_29 (by decide) rfl c11 ?_
      refine mr_iconst (pc' := 33) (v := (0 : Int32)) dX11_order_32 rfl (by decide) ?_
      refine mr_istore_n (pc' := 34) (lv' := [(3, .int (0 : Int32)), (0, .ref 145), (1, .int p1), (2, .int p2)]) dX11_order_33 rfl (by decide) rfl ?_
      refine mr_iconst (pc' := 35) (v := (0 : Int32)) dX11_order_34 rfl (by decide) ?_
      refine mr_istore (pc' := 37) (lv' := [(4, .int (0 : Int32)), (3, .int (0 : Int32)), (0, .ref 145), (1, .int p1), (2, .int p2)]) dX11_order_35 rfl (by decide) rfl ?_
      refine mr_sub [(0, .ref 145), (1, .int p1), (2, .int p2), (3, .int (0 : Int32)), (4, .int (0 : Int32))] ⟨rfl, rfl, rfl, rfl, rfl, trivial⟩ rfl ?_
      refine ok_lp_X11_order_37 hR  (fun u31 h32 => ?_) FU _ _  h10
      refine mr_iload_n (pc' := 97) dX11_order_96 rfl rfl ?_
      refine mr_iload_n (pc' := 98) dX11_order_97 rfl rfl ?_
      by_cases c33 : u31 = p1
      · rw [if_pos c33] at h32
        refine mr_icmp_ne_f (t := 103) (pc' := 101) dX11_order_98 (by decide) rfl (not_not_intro c33) ?_
        refine mr_iload_n (pc' := 102) dX11_order_101 rfl rfl ?_
        obtain rfl := Option.some.inj h32
        exact mr_ireturn dX11_order_102 rfl
      · rw [if_neg c33] at h32
        refine mr_icmp_ne_t (t := 103) dX11_order_98 (by decide) c33 ?_
        refine mr_iinc (pc' := 106) (x' := (p2 + (1 : Int32))) (lv' := [(2, .int (p2 + (1 : Int32))), (0, .ref 145), (1, .int p1), (3, .int u31)]) dX11_order_103 rfl (by decide) rfl rfl rfl ?_
        refine mr_goto (t := 22) dX11_order_106 (by decide) ?_
        exact mr_sub [(0, .ref 145), (1, .int p1), (2, .int (p2 + (1 : Int32)))] ⟨rfl, rfl, rfl, trivial⟩ rfl (ih _  h32)
def f_X11_order (v1 : Int32) (S : fS) : Option (Int32) :=
  (gI S 157 158 (4 : Int32)).bind fun a1 =>
  (f_X11_in (Int32.toInt64 v1) (0 : Int64) (Int32.toInt64 (a1 - (1 : Int32))) S).bind fun q4 =>
  if q4 = (0 : Int32) then (some (-1 : Int32)) else
  (lp_X11_order_22 v1 S (fun (_ : Unit) => some (-1 : Int32)) FU (0 : Int32))
set_option maxHeartbeats 4000000 in
set_option maxRecDepth 100000 in
theorem ok_X11_order {X : mm_C} {RR : Nat → Nat → Option Nat} (hR : RRok RR) {v1 : Int32}  {S : fS} {r : Int32} (h : f_X11_order v1 S = some r) : mr X 2 mY_X11_order 0 (lv_args 0 [.ref 145, .int v1]) [] (MM RR S) (some (.int r), MM RR S) := by
  unfold f_X11_order at h
  show mr X _ _ 0 [(0, .ref 145), (1, .int v1)] [] (MM RR S) _
  refine mr_iload_n (pc' := 1) dX11_order_0 rfl rfl ?_
  refine mr_i2l (pc' := 2) dX11_order_1 rfl ?_
  refine mr_lconst (pc' := 3) (v := (0 : Int64)) dX11_order_2 rfl (by decide) ?_
  refine mr_aload_n (pc' := 4) dX11_order_3 rfl rfl ?_
  refine mr_getR (pc' := 7) (ci := 11) (j := 25) (b := 157) hR dX11_order_4 rfl rfl rfl (by decide) (by decide) (by decide) rfl rfl ?_
  refine mr_iconst (pc' := 8) (v := (4 : Int32)) dX11_order_7 rfl (by decide) ?_
  obtain ⟨a1, g2, h3⟩ := Option.bind_eq_some_iff.mp h
  refine mr_iald (pc' := 9) dX11_order_8 rfl rfl rfl g2 ?_
  refine mr_iconst (pc' := 10) (v := (1 : Int32)) dX11_order_9 rfl (by decide) ?_
  refine mr_isub (pc' := 11) dX11_order_10 rfl ?_
  refine mr_i2l (pc' := 12) dX11_order_11 rfl ?_
  obtain ⟨q4, g5, h6⟩ := Option.bind_eq_some_iff.mp h3
  refine mr_cs (pc' := 15) (d1 := 0) dX11_order_12 rfl rfl rfl rfl (by decide) (Nat.le_of_ble_eq_true rfl) rfl rfl rfl (by decide) (ok_X11_in hR  g5) ?_
  show mr X _ _ 15 _ [.int q4] (MM RR S) _
  by_cases c7 : q4 = (0 : Int32)
  · rw [if_pos c7] at h6
    refine mr_if_ne_f (t := 20) (pc' := 18) dX11_order_15 (by decide) rfl (not_not_intro c7) ?_
    refine mr_iconst (pc' := 19) (v := (-1 : Int32)) dX11_order_18 rfl (by decide) ?_
    obtain rfl := Option.some.inj h6
    exact mr_ireturn dX11_order_19 rfl
  · rw [if_neg c7] at h6
    refine mr_if_ne_t (t := 20) dX11_order_15 (by decide) c7 ?_
    refine mr_iconst (pc' := 21) (v := (0 : Int32)) dX11_order_20 rfl (by decide) ?_
    refine mr_istore_n (pc' := 22) (lv' := [(2, .int (0 : Int32)), (0, .ref 145), (1, .int v1)]) dX11_order_21 rfl (by decide) rfl ?_
    refine mr_sub [(0, .ref 145), (1, .int v1), (2, .int (0 : Int32))] ⟨rfl, rfl, rfl, trivial⟩ rfl ?_
    refine ok_lp_X11_order_22 hR  (fun _ h34 => ?_) FU _  h6
    refine mr_iconst (pc' := 110) (v := (-1 : Int32)) dX11_order_109 rfl (by decide) ?_
    obtain rfl := Option.some.inj h34
    exact mr_ireturn dX11_order_110 rfl
