def f_X10_letter (v1 : Int32) (v2 : Int32) (v3 : Int32) (S : fS) : Option (Int32 × fS) :=
  if v1 = (-1 : Int32) then ((some (pI S 17 4 (0 : Int32))).bind fun S22 =>
  some ((0 : Int32), S22)) else
  ((f_X10_isFloor v1 S).bind fun q2 =>
  if q2 = (0 : Int32) then (some ((-2 : Int32), S)) else
  ((f_X10_isFloor v2 S).bind fun q6 =>
  if q6 = (0 : Int32) then (some ((-2 : Int32), S)) else
  ((f_X10_isHour v3 S).bind fun q10 =>
  if q10 = (0 : Int32) then (some ((-2 : Int32), S)) else
  (if (S.1 17 4) < (12 : Int32) then ((f_X8_hoursBetween 4 v1 v2 S).bind fun q15 =>
  if (0 : Int32) ≤ q15 then ((f_X2_send 17 v1 v2 v3 (v3 + q15) S).bind fun q19 =>
  some ((q19.1 17 4), q19)) else
  (some ((-2 : Int32), S))) else
  (some ((-2 : Int32), S))))))
set_option maxHeartbeats 4000000 in
set_option maxRecDepth 100000 in
theorem ok_X10_letter {X : mm_C} {RR : Nat → Nat → Option Nat} (hR : RRok RR) {v1 : Int32} {v2 : Int32} {v3 : Int32}  {S : fS} {r : Int32 × fS} (h : f_X10_letter v1 v2 v3 S = some r) : mr X 2 mY_X10_letter 0 (lv_args 0 [.ref 0, .int v1, .int v2, .int v3]) [] (MM RR S) (some (.int r.1), MM RR r.2) := by
  unfold f_X10_letter at h
  show mr X _ _ 0 [(0, .ref 0), (1, .int v1), (2, .int v2), (3, .int v3)] [] (MM RR S) _
  refine mr_aload_n (pc' := 1) dX10_letter_0 rfl rfl ?_
  refine mr_getR (pc' := 4) (ci := 10) (j := 1) (b := 3) hR dX10_letter_1 rfl rfl rfl (by decide) (by decide) (by decide) rfl rfl ?_
  refine mr_getR (pc' := 7) (ci := 6) (j := 2) (b := 17) hR dX10_letter_4 rfl rfl rfl (by decide) (by decide) (by decide) rfl rfl ?_
  refine mr_astore (pc' := 9) (lv' := [(4, .ref 17), (0, .ref 0), (1, .int v1), (2, .int v2), (3, .int v3)]) dX10_letter_7 rfl (by decide) rfl ?_
  refine mr_iload_n (pc' := 10) dX10_letter_9 rfl rfl ?_
  refine mr_iconst (pc' := 11) (v := (-1 : Int32)) dX10_letter_10 rfl (by decide) ?_
  by_cases c1 : v1 = (-1 : Int32)
  · rw [if_pos c1] at h
    refine mr_icmp_ne_f (t := 22) (pc' := 14) dX10_letter_11 (by decide) rfl (not_not_intro c1) ?_
    refine mr_aload (pc' := 16) dX10_letter_14 rfl rfl ?_
    refine mr_iconst (pc' := 17) (v := (0 : Int32)) dX10_letter_16 rfl (by decide) ?_
    obtain ⟨S22, g23, h24⟩ := Option.bind_eq_some_iff.mp h
    refine mr_putI (pc' := 20) (ci := 2) (j := 4) dX10_letter_17 rfl rfl rfl (by decide) (by decide) rfl rfl ?_
    rw [Option.some.inj g23]
    refine mr_iconst (pc' := 21) (v := (0 : Int32)) dX10_letter_20 rfl (by decide) ?_
    obtain rfl := Option.some.inj h24
    exact mr_ireturn dX10_letter_21 rfl
  · rw [if_neg c1] at h
    refine mr_icmp_ne_t (t := 22) dX10_letter_11 (by decide) c1 ?_
    refine mr_aload_n (pc' := 23) dX10_letter_22 rfl rfl ?_
    refine mr_iload_n (pc' := 24) dX10_letter_23 rfl rfl ?_
    obtain ⟨q2, g3, h4⟩ := Option.bind_eq_some_iff.mp h
    refine mr_cv (pc' := 27) (a := 0) (d1 := 1) dX10_letter_24 rfl rfl rfl rfl rfl rfl (by decide) rfl (by decide) (ok_X10_isFloor hR  g3) ?_
    show mr X _ _ 27 _ [.int q2] (MM RR S) _
    by_cases c5 : q2 = (0 : Int32)
    · rw [if_pos c5] at h4
      refine mr_if_eq_t (t := 55) dX10_letter_27 (by decide) c5 ?_
      refine mr_bipush (pc' := 57) (v := (-2 : Int32)) dX10_letter_55 rfl (by decide) ?_
      obtain rfl := Option.some.inj h4
      exact mr_ireturn dX10_letter_57 rfl
    · rw [if_neg c5] at h4
      refine mr_if_eq_f (t := 55) (pc' := 30) dX10_letter_27 (by decide) rfl c5 ?_
      refine mr_aload_n (pc' := 31) dX10_letter_30 rfl rfl ?_
      refine mr_iload_n (pc' := 32) dX10_letter_31 rfl rfl ?_
      obtain ⟨q6, g7, h8⟩ := Option.bind_eq_some_iff.mp h4
      refine mr_cv (pc' := 35) (a := 0) (d1 := 1) dX10_letter_32 rfl rfl rfl rfl rfl rfl (by decide) rfl (by decide) (ok_X10_isFloor hR  g7) ?_
      show mr X _ _ 35 _ [.int q6] (MM RR S) _
      by_cases c9 : q6 = (0 : Int32)
      · rw [if_pos c9] at h8
        refine mr_if_eq_t (t := 55) dX10_letter_35 (by decide) c9 ?_
        refine mr_bipush (pc' := 57) (v := (-2 : Int32)) dX10_letter_55 rfl (by decide) ?_
        obtain rfl := Option.some.inj h8
        exact mr_ireturn dX10_letter_57 rfl
      · rw [if_neg c9] at h8
        refine mr_if_eq_f (t := 55) (pc' := 38) dX10_letter_35 (by decide) rfl c9 ?_
        refine mr_iload_n (pc' := 39) dX10_letter_38 rfl rfl ?_
        obtain ⟨q10, g11, h12⟩ := Option.bind_eq_some_iff.mp h8
        refine mr_cs (pc' := 42) (d1 := 1) dX10_letter_39 rfl rfl rfl rfl (by decide) (Nat.le_of_ble_eq_true rfl) rfl rfl rfl (by decide) (ok_X10_isHour hR  g11) ?_
        show mr X _ _ 42 _ [.int q10] (MM RR S) _
        by_cases c13 : q10 = (0 : Int32)
        · rw [if_pos c13] at h12
          refine mr_if_eq_t (t := 55) dX10_letter_42 (by decide) c13 ?_
          refine mr_bipush (pc' := 57) (v := (-2 : Int32)) dX10_letter_55 rfl (by decide) ?_
          obtain rfl := Option.some.inj h12
          exact mr_ireturn dX10_letter_57 rfl
        · rw [if_neg c13] at h12
          refine mr_if_eq_f (t := 55) (pc' := 45) dX10_letter_42 (by decide) rfl c13 ?_
          refine mr_aload (pc' := 47) dX10_letter_45 rfl rfl ?_
          refine mr_getI (pc' := 50) (ci := 2) (j := 4) dX10_letter_47 rfl rfl rfl (by decide) (by decide) rfl ?_
          refine mr_bipush (pc' := 52) (v := (12 : Int32)) dX10_letter_50 rfl (by decide) ?_
          by_cases c14 : (S.1 17 4) < (12 : Int32)
          · rw [if_pos c14] at h12
            refine mr_icmp_lt_t (t := 58) dX10_letter_52 (by decide) c14 ?_
            refine mr_aload_n (pc' := 59) dX10_letter_58 rfl rfl ?_
            refine mr_getR (pc' := 62) (ci := 10) (j := 1) (b := 3) hR dX10_letter_59 rfl rfl rfl (by decide) (by decide) (by decide) rfl rfl ?_
            refine mr_getR (pc' := 65) (ci := 6) (j := 0) (b := 4) hR dX10_letter_62 rfl rfl rfl (by decide) (by decide) (by decide) rfl rfl ?_
            refine mr_iload_n (pc' := 66) dX10_letter_65 rfl rfl ?_
            refine mr_iload_n (pc' := 67) dX10_letter_66 rfl rfl ?_
            obtain ⟨q15, g16, h17⟩ := Option.bind_eq_some_iff.mp h12
            refine mr_cv (pc' := 70) (a := 4) (d1 := 0) dX10_letter_67 rfl rfl rfl rfl rfl rfl (by decide) rfl (by decide) (ok_X8_hoursBetween hR rfl g16) ?_
            show mr X _ _ 70 _ [.int q15] (MM RR S) _
            refine mr_istore (pc' := 72) (lv' := [(5, .int q15), (4, .ref 17), (0, .ref 0), (1, .int v1), (2, .int v2), (3, .int v3)]) dX10_letter_70 rfl (by decide) rfl ?_
            refine mr_iload (pc' := 74) dX10_letter_72 rfl rfl ?_
            by_cases c18 : (0 : Int32) ≤ q15
            · rw [if_pos c18] at h17
              refine mr_if_ge_t (t := 80) dX10_letter_74 (by decide) c18 ?_
              refine mr_aload (pc' := 82) dX10_letter_80 rfl rfl ?_
              refine mr_iload_n (pc' := 83) dX10_letter_82 rfl rfl ?_
              refine mr_iload_n (pc' := 84) dX10_letter_83 rfl rfl ?_
              refine mr_iload_n (pc' := 85) dX10_letter_84 rfl rfl ?_
              refine mr_iload_n (pc' := 86) dX10_letter_85 rfl rfl ?_
              refine mr_iload (pc' := 88) dX10_letter_86 rfl rfl ?_
              refine mr_iadd (pc' := 89) dX10_letter_88 rfl ?_
              obtain ⟨q19, g20, h21⟩ := Option.bind_eq_some_iff.mp h17
              refine mr_cv (pc' := 92) (a := 17) (d1 := 0) dX10_letter_89 rfl rfl rfl rfl rfl rfl (by decide) rfl (by decide) (ok_X2_send hR rfl g20) ?_
              show mr X _ _ 92 _ [] (MM RR q19) _
              refine mr_aload (pc' := 94) dX10_letter_92 rfl rfl ?_
              refine mr_getI (pc' := 97) (ci := 2) (j := 4) dX10_letter_94 rfl rfl rfl (by decide) (by decide) rfl ?_
              obtain rfl := Option.some.inj h21
              exact mr_ireturn dX10_letter_97 rfl
            · rw [if_neg c18] at h17
              refine mr_if_ge_f (t := 80) (pc' := 77) dX10_letter_74 (by decide) rfl c18 ?_
              refine mr_bipush (pc' := 79) (v := (-2 : Int32)) dX10_letter_77 rfl (by decide) ?_
              obtain rfl := Option.some.inj h17
              exact mr_ireturn dX10_letter_79 rfl
          · rw [if_neg c14] at h12
            refine mr_icmp_lt_f (t := 58) (pc' := 55) dX10_letter_52 (by decide) rfl c14 ?_
            refine mr_bipush (pc' := 57) (v := (-2 : Int32)) dX10_letter_55 rfl (by decide) ?_
            obtain rfl := Option.some.inj h12
            exact mr_ireturn dX10_letter_57 rfl
def f_X2_sentByClock (v0 : Nat) (v1 : Nat) (v2 : Int32) (S : fS) : Option (Int64) :=
  (gI S (v0 + 1) 12 v2).bind fun a1 =>
  (gI S (v0 + 3) 12 v2).bind fun a4 =>
  (f_X8_clockAt v1 a1 a4 S).bind fun q7 =>
  some q7
set_option maxHeartbeats 4000000 in
set_option maxRecDepth 100000 in
theorem ok_X2_sentByClock {X : mm_C} {RR : Nat → Nat → Option Nat} (hR : RRok RR) {v0 : Nat} {v1 : Nat} {v2 : Int32} (t0 : tg v0 = 2) (t1 : tg v1 = 8) {S : fS} {r : Int64} (h : f_X2_sentByClock v0 v1 v2 S = some r) : mr X 1 mY_X2_sentByClock 0 (lv_args 0 [.ref v0, .ref v1, .int v2]) [] (MM RR S) (some (.long r), MM RR S) := by
  unfold f_X2_sentByClock at h
  show mr X _ _ 0 [(0, .ref v0), (1, .ref v1), (2, .int v2)] [] (MM RR S) _
  refine mr_aload_n (pc' := 1) dX2_sentByClock_0 rfl rfl ?_
  refine mr_aload_n (pc' := 2) dX2_sentByClock_1 rfl rfl ?_
  refine mr_getR (pc' := 5) (ci := 2) (j := 0) (b := (v0 + 1)) hR dX2_sentByClock_2 rfl rfl t0 (by decide) (by decide) (by decide) rfl (ly2_0 t0).1 ?_
  refine mr_iload_n (pc' := 6) dX2_sentByClock_5 rfl rfl ?_
  obtain ⟨a1, g2, h3⟩ := Option.bind_eq_some_iff.mp h
  refine mr_iald (pc' := 7) dX2_sentByClock_6 rfl (ly2_0 t0).2.1 (ly2_0 t0).2.2 g2 ?_
  refine mr_aload_n (pc' := 8) dX2_sentByClock_7 rfl rfl ?_
  refine mr_getR (pc' := 11) (ci := 2) (j := 2) (b := (v0 + 3)) hR dX2_sentByClock_8 rfl rfl t0 (by decide) (by decide) (by decide) rfl (ly2_2 t0).1 ?_
  refine mr_iload_n (pc' := 12) dX2_sentByClock_11 rfl rfl ?_
  obtain ⟨a4, g5, h6⟩ := Option.bind_eq_some_iff.mp h3
  refine mr_iald (pc' := 13) dX2_sentByClock_12 rfl (ly2_2 t0).2.1 (ly2_2 t0).2.2 g5 ?_
  obtain ⟨q7, g8, h9⟩ := Option.bind_eq_some_iff.mp h6
  refine mr_cv (pc' := 16) (a := v1) (d1 := 0) dX2_sentByClock_13 rfl rfl rfl rfl rfl t1 (by decide) rfl (by decide) (ok_X8_clockAt hR t1 g8) ?_
  show mr X _ _ 16 _ [.long q7] (MM RR S) _
  obtain rfl := Option.some.inj h9
  exact mr_lreturn dX2_sentByClock_16 rfl
def f_X2_isEarly (v0 : Nat) (v1 : Nat) (v2 : Int32) (S : fS) : Option (Int32) :=
  (gI S (v0 + 2) 12 v2).bind fun a1 =>
  (gI S (v0 + 4) 12 v2).bind fun a4 =>
  (f_X8_clockAt v1 a1 a4 S).bind fun q7 =>
  (f_X2_sentByClock v0 v1 v2 S).bind fun q10 =>
  if q10 ≤ q7 then (some (0 : Int32)) else
  (some (1 : Int32))
set_option maxHeartbeats 4000000 in
set_option maxRecDepth 100000 in
theorem ok_X2_isEarly {X : mm_C} {RR : Nat → Nat → Option Nat} (hR : RRok RR) {v0 : Nat} {v1 : Nat} {v2 : Int32} (t0 : tg v0 = 2) (t1 : tg v1 = 8) {S : fS} {r : Int32} (h : f_X2_isEarly v0 v1 v2 S = some r) : mr X 2 mY_X2_isEarly 0 (lv_args 0 [.ref v0, .ref v1, .int v2]) [] (MM RR S) (some (.int r), MM RR S) := by
  unfold f_X2_isEarly at h
  show mr X _ _ 0 [(0, .ref v0), (1, .ref v1), (2, .int v2)] [] (MM RR S) _
  refine mr_aload_n (pc' := 1) dX2_isEarly_0 rfl rfl ?_
  refine mr_aload_n (pc' := 2) dX2_isEarly_1 rfl rfl ?_
  refine mr_getR (pc' := 5) (ci := 2) (j := 1) (b := (v0 + 2)) hR dX2_isEarly_2 rfl rfl t0 (by decide) (by decide) (by decide) rfl (ly2_1 t0).1 ?_
  refine mr_iload_n (pc' := 6) dX2_isEarly_5 rfl rfl ?_
  obtain ⟨a1, g2, h3⟩ := Option.bind_eq_some_iff.mp h
  refine mr_iald (pc' := 7) dX2_isEarly_6 rfl (ly2_1 t0).2.1 (ly2_1 t0).2.2 g2 ?_
  refine mr_aload_n (pc' := 8) dX2_isEarly_7 rfl rfl ?_
  refine mr_getR (pc' := 11) (ci := 2) (j := 3) (b := (v0 + 4)) hR dX2_isEarly_8 rfl rfl t0 (by decide) (by decide) (by decide) rfl (ly2_3 t0).1 ?_
  refine mr_iload_n (pc' := 12) dX2_isEarly_11 rfl rfl ?_
  obtain ⟨a4, g5, h6⟩ := Option.bind_eq_some_iff.mp h3
  refine mr_iald (pc' := 13) dX2_isEarly_12 rfl (ly2_3 t0).2.1 (ly2_3 t0).2.2 g5 ?_
  obtain ⟨q7, g8, h9⟩ := Option.bind_eq_some_iff.mp h6
  refine mr_cv (pc' := 16) (a := v1) (d1 := 0) dX2_isEarly_13 rfl rfl rfl rfl rfl t1 (by decide) rfl (by decide) (ok_X8_clockAt hR t1 g8) ?_
  show mr X _ _ 16 _ [.long q7] (MM RR S) _
  refine mr_aload_n (pc' := 17) dX2_isEarly_16 rfl rfl ?_
  refine mr_aload_n (pc' := 18) dX2_isEarly_17 rfl rfl ?_
  refine mr_iload_n (pc' := 19) dX2_isEarly_18 rfl rfl ?_
  obtain ⟨q10, g11, h12⟩ := Option.bind_eq_some_iff.mp h9
  refine mr_cv (pc' := 22) (a := v0) (d1 := 1) dX2_isEarly_19 rfl rfl rfl rfl rfl t0 (by decide) rfl (by decide) (ok_X2_sentByClock hR t0 t1 g11) ?_
  show mr X _ _ 22 _ [.long q10, .long q7] (MM RR S) _
  by_cases c13 : q10 ≤ q7
  · rw [if_pos c13] at h12
    refine mr_lcmp_ge_t (t := 30) dX2_isEarly_22 rfl dX2_isEarly_23 (by decide) c13 ?_
    refine mr_iconst (pc' := 31) (v := (0 : Int32)) dX2_isEarly_30 rfl (by decide) ?_
    obtain rfl := Option.some.inj h12
    exact mr_zreturn dX2_isEarly_31 rfl (by decide)
  · rw [if_neg c13] at h12
    refine mr_lcmp_ge_f (t := 30) (pc' := 26) dX2_isEarly_22 rfl dX2_isEarly_23 (by decide) rfl c13 ?_
    refine mr_iconst (pc' := 27) (v := (1 : Int32)) dX2_isEarly_26 rfl (by decide) ?_
    refine mr_goto (t := 31) dX2_isEarly_27 (by decide) ?_
    obtain rfl := Option.some.inj h12
    exact mr_zreturn dX2_isEarly_31 rfl (by decide)
def f_X10_letters (v1 : Int32) (v2 : Int32) (S : fS) : Option (Int32) :=
  (f_X10_isFrom v1 (0 : Int32) ((S.1 17 4) - (1 : Int32)) S).bind fun q1 =>
  if q1 = (0 : Int32) then (some (-1 : Int32)) else
  ((f_X10_isFrom v2 (0 : Int32) (4 : Int32) S).bind fun q5 =>
  if q5 = (0 : Int32) then (some (-1 : Int32)) else
  (if v2 = (0 : Int32) then ((gI S 18 12 v1).bind fun a10 =>
  some a10) else
  if v2 = (1 : Int32) then ((gI S 19 12 v1).bind fun a14 =>
  some a14) else
  if v2 = (2 : Int32) then ((gI S 20 12 v1).bind fun a18 =>
  some a18) else
  if v2 = (3 : Int32) then ((gI S 21 12 v1).bind fun a22 =>
  some a22) else
  ((f_X2_isEarly 17 4 v1 S).bind fun q25 =>
  if q25 = (0 : Int32) then (some (0 : Int32)) else
  (some (1 : Int32)))))
set_option maxHeartbeats 4000000 in
set_option maxRecDepth 100000 in
theorem ok_X10_letters {X : mm_C} {RR : Nat → Nat → Option Nat} (hR : RRok RR) {v1 : Int32} {v2 : Int32}  {S : fS} {r : Int32} (h : f_X10_letters v1 v2 S = some r) : mr X 3 mY_X10_letters 0 (lv_args 0 [.ref 0, .int v1, .int v2]) [] (MM RR S) (some (.int r), MM RR S) := by
  unfold f_X10_letters at h
  show mr X _ _ 0 [(0, .ref 0), (1, .int v1), (2, .int v2)] [] (MM RR S) _
  refine mr_aload_n (pc' := 1) dX10_letters_0 rfl rfl ?_
  refine mr_getR (pc' := 4) (ci := 10) (j := 1) (b := 3) hR dX10_letters_1 rfl rfl rfl (by decide) (by decide) (by decide) rfl rfl ?_
  refine mr_getR (pc' := 7) (ci := 6) (j := 2) (b := 17) hR dX10_letters_4 rfl rfl rfl (by decide) (by decide) (by decide) rfl rfl ?_
  refine mr_astore_n (pc' := 8) (lv' := [(3, .ref 17), (0, .ref 0), (1, .int v1), (2, .int v2)]) dX10_letters_7 rfl (by decide) rfl ?_
  refine mr_iload_n (pc' := 9) dX10_letters_8 rfl rfl ?_
  refine mr_iconst (pc' := 10) (v := (0 : Int32)) dX10_letters_9 rfl (by decide) ?_
  refine mr_aload_n (pc' := 11) dX10_letters_10 rfl rfl ?_
  refine mr_getI (pc' := 14) (ci := 2) (j := 4) dX10_letters_11 rfl rfl rfl (by decide) (by decide) rfl ?_
  refine mr_iconst (pc' := 15) (v := (1 : Int32)) dX10_letters_14 rfl (by decide) ?_
  refine mr_isub (pc' := 16) dX10_letters_15 rfl ?_
  obtain ⟨q1, g2, h3⟩ := Option.bind_eq_some_iff.mp h
  refine mr_cs (pc' := 19) (d1 := 0) dX10_letters_16 rfl rfl rfl rfl (by decide) (Nat.le_of_ble_eq_true rfl) rfl rfl rfl (by decide) (ok_X10_isFrom hR  g2) ?_
  show mr X _ _ 19 _ [.int q1] (MM RR S) _
  by_cases c4 : q1 = (0 : Int32)
  · rw [if_pos c4] at h3
    refine mr_if_eq_t (t := 31) dX10_letters_19 (by decide) c4 ?_
    refine mr_iconst (pc' := 32) (v := (-1 : Int32)) dX10_letters_31 rfl (by decide) ?_
    obtain rfl := Option.some.inj h3
    exact mr_ireturn dX10_letters_32 rfl
  · rw [if_neg c4] at h3
    refine mr_if_eq_f (t := 31) (pc' := 22) dX10_letters_19 (by decide) rfl c4 ?_
    refine mr_iload_n (pc' := 23) dX10_letters_22 rfl rfl ?_
    refine mr_iconst (pc' := 24) (v := (0 : Int32)) dX10_letters_23 rfl (by decide) ?_
    refine mr_iconst (pc' := 25) (v := (4 : Int32)) dX10_letters_24 rfl (by decide) ?_
    obtain ⟨q5, g6, h7⟩ := Option.bind_eq_some_iff.mp h3
    refine mr_cs (pc' := 28) (d1 := 0) dX10_letters_25 rfl rfl rfl rfl (by decide) (Nat.le_of_ble_eq_true rfl) rfl rfl rfl (by decide) (ok_X10_isFrom hR  g6) ?_
    show mr X _ _ 28 _ [.int q5] (MM RR S) _
    by_cases c8 : q5 = (0 : Int32)
    · rw [if_pos c8] at h7
      refine mr_if_ne_f (t := 33) (pc' := 31) dX10_letters_28 (by decide) rfl (not_not_intro c8) ?_
      refine mr_iconst (pc' := 32) (v := (-1 : Int32)) dX10_letters_31 rfl (by decide) ?_
      obtain rfl := Option.some.inj h7
      exact mr_ireturn dX10_letters_32 rfl
    · rw [if_neg c8] at h7
      refine mr_if_ne_t (t := 33) dX10_letters_28 (by decide) c8 ?_
      refine mr_iload_n (pc' := 34) dX10_letters_33 rfl rfl ?_
      by_cases c9 : v2 = (0 : Int32)
      · rw [if_pos c9] at h7
        refine mr_sw_in (t := 64) (v := (0 : Int32)) dX10_letters_34 c9 rfl ?_
        refine mr_aload_n (pc' := 65) dX10_letters_64 rfl rfl ?_
        refine mr_getR (pc' := 68) (ci := 2) (j := 0) (b := 18) hR dX10_letters_65 rfl rfl rfl (by decide) (by decide) (by decide) rfl rfl ?_
        refine mr_iload_n (pc' := 69) dX10_letters_68 rfl rfl ?_
        obtain ⟨a10, g11, h12⟩ := Option.bind_eq_some_iff.mp h7
        refine mr_iald (pc' := 70) dX10_letters_69 rfl rfl rfl g11 ?_
        obtain rfl := Option.some.inj h12
        exact mr_ireturn dX10_letters_70 rfl
      rw [if_neg c9] at h7
      by_cases c13 : v2 = (1 : Int32)
      · rw [if_pos c13] at h7
        refine mr_sw_in (t := 71) (v := (1 : Int32)) dX10_letters_34 c13 rfl ?_
        refine mr_aload_n (pc' := 72) dX10_letters_71 rfl rfl ?_
        refine mr_getR (pc' := 75) (ci := 2) (j := 1) (b := 19) hR dX10_letters_72 rfl rfl rfl (by decide) (by decide) (by decide) rfl rfl ?_
        refine mr_iload_n (pc' := 76) dX10_letters_75 rfl rfl ?_
        obtain ⟨a14, g15, h16⟩ := Option.bind_eq_some_iff.mp h7
        refine mr_iald (pc' := 77) dX10_letters_76 rfl rfl rfl g15 ?_
        obtain rfl := Option.some.inj h16
        exact mr_ireturn dX10_letters_77 rfl
      rw [if_neg c13] at h7
      by_cases c17 : v2 = (2 : Int32)
      · rw [if_pos c17] at h7
        refine mr_sw_in (t := 78) (v := (2 : Int32)) dX10_letters_34 c17 rfl ?_
        refine mr_aload_n (pc' := 79) dX10_letters_78 rfl rfl ?_
        refine mr_getR (pc' := 82) (ci := 2) (j := 2) (b := 20) hR dX10_letters_79 rfl rfl rfl (by decide) (by decide) (by decide) rfl rfl ?_
        refine mr_iload_n (pc' := 83) dX10_letters_82 rfl rfl ?_
        obtain ⟨a18, g19, h20⟩ := Option.bind_eq_some_iff.mp h7
        refine mr_iald (pc' := 84) dX10_letters_83 rfl rfl rfl g19 ?_
        obtain rfl := Option.some.inj h20
        exact mr_ireturn dX10_letters_84 rfl
      rw [if_neg c17] at h7
      by_cases c21 : v2 = (3 : Int32)
      · rw [if_pos c21] at h7
        refine mr_sw_in (t := 85) (v := (3 : Int32)) dX10_letters_34 c21 rfl ?_
        refine mr_aload_n (pc' := 86) dX10_letters_85 rfl rfl ?_
        refine mr_getR (pc' := 89) (ci := 2) (j := 3) (b := 21) hR dX10_letters_86 rfl rfl rfl (by decide) (by decide) (by decide) rfl rfl ?_
        refine mr_iload_n (pc' := 90) dX10_letters_89 rfl rfl ?_
        obtain ⟨a22, g23, h24⟩ := Option.bind_eq_some_iff.mp h7
        refine mr_iald (pc' := 91) dX10_letters_90 rfl rfl rfl g23 ?_
        obtain rfl := Option.some.inj h24
        exact mr_ireturn dX10_letters_91 rfl
      rw [if_neg c21] at h7
      refine mr_sw_out (t := 92) dX10_letters_34 (by have := i32ne c9 (k := 0) (by decide); have := i32ne c13 (k := 1) (by decide); have := i32ne c17 (k := 2) (by decide); have := i32ne c21 (k := 3) (by decide); omega) (by decide) ?_
      refine mr_aload_n (pc' := 93) dX10_letters_92 rfl rfl ?_
      refine mr_aload_n (pc' := 94) dX10_letters_93 rfl rfl ?_
      refine mr_getR (pc' := 97) (ci := 10) (j := 1) (b := 3) hR dX10_letters_94 rfl rfl rfl (by decide) (by decide) (by decide) rfl rfl ?_
      refine mr_getR (pc' := 100) (ci := 6) (j := 0) (b := 4) hR dX10_letters_97 rfl rfl rfl (by decide) (by decide) (by decide) rfl rfl ?_
      refine mr_iload_n (pc' := 101) dX10_letters_100 rfl rfl ?_
      obtain ⟨q25, g26, h27⟩ := Option.bind_eq_some_iff.mp h7
      refine mr_cv (pc' := 104) (a := 17) (d1 := 2) dX10_letters_101 rfl rfl rfl rfl rfl rfl (by decide) rfl (by decide) (ok_X2_isEarly hR rfl rfl g26) ?_
      show mr X _ _ 104 _ [.int q25] (MM RR S) _
      by_cases c28 : q25 = (0 : Int32)
      · rw [if_pos c28] at h27
        refine mr_if_eq_t (t := 111) dX10_letters_104 (by decide) c28 ?_
        refine mr_iconst (pc' := 112) (v := (0 : Int32)) dX10_letters_111 rfl (by decide) ?_
        obtain rfl := Option.some.inj h27
        exact mr_ireturn dX10_letters_112 rfl
      · rw [if_neg c28] at h27
        refine mr_if_eq_f (t := 111) (pc' := 107) dX10_letters_104 (by decide) rfl c28 ?_
        refine mr_iconst (pc' := 108) (v := (1 : Int32)) dX10_letters_107 rfl (by decide) ?_
        refine mr_goto (t := 112) dX10_letters_108 (by decide) ?_
        obtain rfl := Option.some.inj h27
        exact mr_ireturn dX10_letters_112 rfl
def f_X2_isOvertaken (v0 : Nat) (v1 : Nat) (v2 : Int32) (v3 : Int32) (S : fS) : Option (Int32) :=
  (f_X2_sentByClock v0 v1 v2 S).bind fun q1 =>
  (f_X2_sentByClock v0 v1 v3 S).bind fun q4 =>
  if q4 ≤ q1 then (some (0 : Int32)) else
  ((gI S (v0 + 4) 12 v2).bind fun a8 =>
  (gI S (v0 + 4) 12 v3).bind fun a11 =>
  if a8 ≤ a11 then (some (0 : Int32)) else
  (some (1 : Int32)))
set_option maxHeartbeats 4000000 in
set_option maxRecDepth 100000 in
theorem ok_X2_isOvertaken {X : mm_C} {RR : Nat → Nat → Option Nat} (hR : RRok RR) {v0 : Nat} {v1 : Nat} {v2 : Int32} {v3 : Int32} (t0 : tg v0 = 2) (t1 : tg v1 = 8) {S : fS} {r : Int32} (h : f_X2_isOvertaken v0 v1 v2 v3 S = some r) : mr X 2 mY_X2_isOvertaken 0 (lv_args 0 [.ref v0, .ref v1, .int v2, .int v3]) [] (MM RR S) (some (.int r), MM RR S) := by
  unfold f_X2_isOvertaken at h
  show mr X _ _ 0 [(0, .ref v0), (1, .ref v1), (2, .int v2), (3, .int v3)] [] (MM RR S) _
  refine mr_aload_n (pc' := 1) dX2_isOvertaken_0 rfl rfl ?_
  refine mr_aload_n (pc' := 2) dX2_isOvertaken_1 rfl rfl ?_
  refine mr_iload_n (pc' := 3) dX2_isOvertaken_2 rfl rfl ?_
  obtain ⟨q1, g2, h3⟩ := Option.bind_eq_some_iff.mp h
  refine mr_cv (pc' := 6) (a := v0) (d1 := 1) dX2_isOvertaken_3 rfl rfl rfl rfl rfl t0 (by decide) rfl (by decide) (ok_X2_sentByClock hR t0 t1 g2) ?_
  show mr X _ _ 6 _ [.long q1] (MM RR S) _
  refine mr_aload_n (pc' := 7) dX2_isOvertaken_6 rfl rfl ?_
  refine mr_aload_n (pc' := 8) dX2_isOvertaken_7 rfl rfl ?_
  refine mr_iload_n (pc' := 9) dX2_isOvertaken_8 rfl rfl ?_
  obtain ⟨q4, g5, h6⟩ := Option.bind_eq_some_iff.mp h3
  refine mr_cv (pc' := 12) (a := v0) (d1 := 1) dX2_isOvertaken_9 rfl rfl rfl rfl rfl t0 (by decide) rfl (by decide) (ok_X2_sentByClock hR t0 t1 g5) ?_
  show mr X _ _ 12 _ [.long q4, .long q1] (MM RR S) _
  by_cases c7 : q4 ≤ q1
  · rw [if_pos c7] at h6
    refine mr_lcmp_ge_t (t := 35) dX2_isOvertaken_12 rfl dX2_isOvertaken_13 (by decide) c7 ?_
    refine mr_iconst (pc' := 36) (v := (0 : Int32)) dX2_isOvertaken_35 rfl (by decide) ?_
    obtain rfl := Option.some.inj h6
    exact mr_zreturn dX2_isOvertaken_36 rfl (by decide)
  · rw [if_neg c7] at h6
    refine mr_lcmp_ge_f (t := 35) (pc' := 16) dX2_isOvertaken_12 rfl dX2_isOvertaken_13 (by decide) rfl c7 ?_
    refine mr_aload_n (pc' := 17) dX2_isOvertaken_16 rfl rfl ?_
    refine mr_getR (pc' := 20) (ci := 2) (j := 3) (b := (v0 + 4)) hR dX2_isOvertaken_17 rfl rfl t0 (by decide) (by decide) (by decide) rfl (ly2_3 t0).1 ?_
    refine mr_iload_n (pc' := 21) dX2_isOvertaken_20 rfl rfl ?_
    obtain ⟨a8, g9, h10⟩ := Option.bind_eq_some_iff.mp h6
    refine mr_iald (pc' := 22) dX2_isOvertaken_21 rfl (ly2_3 t0).2.1 (ly2_3 t0).2.2 g9 ?_
    refine mr_aload_n (pc' := 23) dX2_isOvertaken_22 rfl rfl ?_
    refine mr_getR (pc' := 26) (ci := 2) (j := 3) (b := (v0 + 4)) hR dX2_isOvertaken_23 rfl rfl t0 (by decide) (by decide) (by decide) rfl (ly2_3 t0).1 ?_
    refine mr_iload_n (pc' := 27) dX2_isOvertaken_26 rfl rfl ?_
    obtain ⟨a11, g12, h13⟩ := Option.bind_eq_some_iff.mp h10
    refine mr_iald (pc' := 28) dX2_isOvertaken_27 rfl (ly2_3 t0).2.1 (ly2_3 t0).2.2 g12 ?_
    by_cases c14 : a8 ≤ a11
    · rw [if_pos c14] at h13
      refine mr_icmp_le_t (t := 35) dX2_isOvertaken_28 (by decide) c14 ?_
      refine mr_iconst (pc' := 36) (v := (0 : Int32)) dX2_isOvertaken_35 rfl (by decide) ?_
      obtain rfl := Option.some.inj h13
      exact mr_zreturn dX2_isOvertaken_36 rfl (by decide)
    · rw [if_neg c14] at h13
      refine mr_icmp_le_f (t := 35) (pc' := 31) dX2_isOvertaken_28 (by decide) rfl c14 ?_
      refine mr_iconst (pc' := 32) (v := (1 : Int32)) dX2_isOvertaken_31 rfl (by decide) ?_
      refine mr_goto (t := 36) dX2_isOvertaken_32 (by decide) ?_
      obtain rfl := Option.some.inj h13
      exact mr_zreturn dX2_isOvertaken_36 rfl (by decide)
def lp_X10_crossed_20 (p2 : Int32) (S : fS) (K : Int32 → Option (Int32)) : Nat → Int32 → Int32 → Option (Int32)
  | 0, _, _ => none
  | n + 1, p1, p3 =>
    if (S.1 17 4) ≤ p3 then (K p1) else
    ((f_X2_isOvertaken 17 4 p2 p3 S).bind fun q3 =>
    if q3 = (0 : Int32) then (lp_X10_crossed_20 p2 S K n p1 (p3 + (1 : Int32))) else
    (lp_X10_crossed_20 p2 S K n (p1 + (1 : Int32)) (p3 + (1 : Int32))))
set_option maxHeartbeats 4000000 in
set_option maxRecDepth 100000 in
theorem ok_lp_X10_crossed_20 {X : mm_C} {RR : Nat → Nat → Option Nat} (hR : RRok RR) {p2 : Int32}  {S : fS} {K : Int32 → Option (Int32)} {r : Int32} (hK : ∀ (k1 : Int32), K k1 = some r → mr X 3 mY_X10_crossed 65 [(0, .ref 0), (1, .int k1), (2, .int p2)] [] (MM RR S) (some (.int r), MM RR S)) : ∀ (n : Nat) (p1 : Int32) (p3 : Int32), lp_X10_crossed_20 p2 S K n p1 p3 = some r → mr X 3 mY_X10_crossed 20 [(0, .ref 0), (1, .int p1), (2, .int p2), (3, .int p3)] [] (MM RR S) (some (.int r), MM RR S) := by
  intro n
  induction n with
  | zero => intro p1 p3 h; exact mm_no h
  | succ n ih =>
    intro p1 p3 h
    unfold lp_X10_crossed_20 at h
    refine mr_iload_n (pc' := 21) dX10_crossed_20 rfl rfl ?_
    refine mr_aload_n (pc' := 22) dX10_crossed_21 rfl rfl ?_
    refine mr_getR (pc' := 25) (ci := 10) (j := 1) (b := 3) hR dX10_crossed_22 rfl rfl rfl (by decide) (by decide) (by decide) rfl rfl ?_
    refine mr_getR (pc' := 28) (ci := 6) (j := 2) (b := 17) hR dX10_crossed_25 rfl rfl rfl (by decide) (by decide) (by decide) rfl rfl ?_
    refine mr_getI (pc' := 31) (ci := 2) (j := 4) dX10_crossed_28 rfl rfl rfl (by decide) (by decide) rfl ?_
    by_cases c2 : (S.1 17 4) ≤ p3
    · rw [if_pos c2] at h
      refine mr_icmp_ge_t (t := 65) dX10_crossed_31 (by decide) c2 ?_
      exact mr_sub [(0, .ref 0), (1, .int p1), (2, .int p2)] ⟨rfl, rfl, rfl, trivial⟩ rfl (hK _  h)
    · rw [if_neg c2] at h
      refine mr_icmp_ge_f (t := 65) (pc' := 34) dX10_crossed_31 (by decide) rfl c2 ?_
      refine mr_aload_n (pc' := 35) dX10_crossed_34 rfl rfl ?_
      refine mr_getR (pc' := 38) (ci := 10) (j := 1) (b := 3) hR dX10_crossed_35 rfl rfl rfl (by decide) (by decide) (by decide) rfl rfl ?_
      refine mr_getR (pc' := 41) (ci := 6) (j := 2) (b := 17) hR dX10_crossed_38 rfl rfl rfl (by decide) (by decide) (by decide) rfl rfl ?_
      refine mr_aload_n (pc' := 42) dX10_crossed_41 rfl rfl ?_
      refine mr_getR (pc' := 45) (ci := 10) (j := 1) (b := 3) hR dX10_crossed_42 rfl rfl rfl (by decide) (by decide) (by decide) rfl rfl ?_
      refine mr_getR (pc' := 48) (ci := 6) (j := 0) (b := 4) hR dX10_crossed_45 rfl rfl rfl (by decide) (by decide) (by decide) rfl rfl ?_
      refine mr_iload_n (pc' := 49) dX10_crossed_48 rfl rfl ?_
      refine mr_iload_n (pc' := 50) dX10_crossed_49 rfl rfl ?_
      obtain ⟨q3, g4, h5⟩ := Option.bind_eq_some_iff.mp h
      refine mr_cv (pc' := 53) (a := 17) (d1 := 2) dX10_crossed_50 rfl rfl rfl rfl rfl rfl (by decide) rfl (by decide) (ok_X2_isOvertaken hR rfl rfl g4) ?_
      show mr X _ _ 53 _ [.int q3] (MM RR S) _
      by_cases c6 : q3 = (0 : Int32)
      · rw [if_pos c6] at h5
        refine mr_if_eq_t (t := 59) dX10_crossed_53 (by decide) c6 ?_
        refine mr_iinc (pc' := 62) (x' := (p3 + (1 : Int32))) (lv' := [(3, .int (p3 + (1 : Int32))), (0, .ref 0), (1, .int p1), (2, .int p2)]) dX10_crossed_59 rfl (by decide) rfl rfl rfl ?_
        refine mr_goto (t := 20) dX10_crossed_62 (by decide) ?_
        exact mr_sub [(0, .ref 0), (1, .int p1), (2, .int p2), (3, .int (p3 + (1 : Int32)))] ⟨rfl, rfl, rfl, rfl, trivial⟩ rfl (ih _ _  h5)
      · rw [if_neg c6] at h5
        refine mr_if_eq_f (t := 59) (pc' := 56) dX10_crossed_53 (by decide) rfl c6 ?_
        refine mr_iinc (pc' := 59) (x' := (p1 + (1 : Int32))) (lv' := [(1, .int (p1 + (1 : Int32))), (0, .ref 0), (2, .int p2), (3, .int p3)]) dX10_crossed_56 rfl (by decide) rfl rfl rfl ?_
        refine mr_iinc (pc' := 62) (x' := (p3 + (1 : Int32))) (lv' := [(3, .int (p3 + (1 : Int32))), (1, .int (p1 + (1 : Int32))), (0, .ref 0), (2, .int p2)]) dX10_crossed_59 rfl (by decide) rfl rfl rfl ?_
        refine mr_goto (t := 20) dX10_crossed_62 (by decide) ?_
        exact mr_sub [(0, .ref 0), (1, .int (p1 + (1 : Int32))), (2, .int p2), (3, .int (p3 + (1 : Int32)))] ⟨rfl, rfl, rfl, rfl, trivial⟩ rfl (ih _ _  h5)
def lp_X10_crossed_4  (S : fS) (K : Int32 → Option (Int32)) : Nat → Int32 → Int32 → Option (Int32)
  | 0, _, _ => none
  | n + 1, p1, p2 =>
    if (S.1 17 4) ≤ p2 then (K p1) else
    (lp_X10_crossed_20 p2 S (fun u7 => lp_X10_crossed_4  S K n u7 (p2 + (1 : Int32))) FU p1 (0 : Int32))
set_option maxHeartbeats 4000000 in
set_option maxRecDepth 100000 in
theorem ok_lp_X10_crossed_4 {X : mm_C} {RR : Nat → Nat → Option Nat} (hR : RRok RR)   {S : fS} {K : Int32 → Option (Int32)} {r : Int32} (hK : ∀ (k1 : Int32), K k1 = some r → mr X 3 mY_X10_crossed 71 [(1, .int k1)] [] (MM RR S) (some (.int r), MM RR S)) : ∀ (n : Nat) (p1 : Int32) (p2 : Int32), lp_X10_crossed_4  S K n p1 p2 = some r → mr X 3 mY_X10_crossed 4 [(0, .ref 0), (1, .int p1), (2, .int p2)] [] (MM RR S) (some (.int r), MM RR S) := by
  intro n
  induction n with
  | zero => intro p1 p2 h; exact mm_no h
  | succ n ih =>
    intro p1 p2 h
    unfold lp_X10_crossed_4 at h
    refine mr_iload_n (pc' := 5) dX10_crossed_4 rfl rfl ?_
    refine mr_aload_n (pc' := 6) dX10_crossed_5 rfl rfl ?_
    refine mr_getR (pc' := 9) (ci := 10) (j := 1) (b := 3) hR dX10_crossed_6 rfl rfl rfl (by decide) (by decide) (by decide) rfl rfl ?_
    refine mr_getR (pc' := 12) (ci := 6) (j := 2) (b := 17) hR dX10_crossed_9 rfl rfl rfl (by decide) (by decide) (by decide) rfl rfl ?_
    refine mr_getI (pc' := 15) (ci := 2) (j := 4) dX10_crossed_12 rfl rfl rfl (by decide) (by decide) rfl ?_
    by_cases c1 : (S.1 17 4) ≤ p2
    · rw [if_pos c1] at h
      refine mr_icmp_ge_t (t := 71) dX10_crossed_15 (by decide) c1 ?_
      exact mr_sub [(1, .int p1)] ⟨rfl, trivial⟩ rfl (hK _  h)
    · rw [if_neg c1] at h
      refine mr_icmp_ge_f (t := 71) (pc' := 18) dX10_crossed_15 (by decide) rfl c1 ?_
      refine mr_iconst (pc' := 19) (v := (0 : Int32)) dX10_crossed_18 rfl (by decide) ?_
      refine mr_istore_n (pc' := 20) (lv' := [(3, .int (0 : Int32)), (0, .ref 0), (1, .int p1), (2, .int p2)]) dX10_crossed_19 rfl (by decide) rfl ?_
      refine mr_sub [(0, .ref 0), (1, .int p1), (2, .int p2), (3, .int (0 : Int32))] ⟨rfl, rfl, rfl, rfl, trivial⟩ rfl ?_
      refine ok_lp_X10_crossed_20 hR  (fun u7 h8 => ?_) FU _ _  h
      refine mr_iinc (pc' := 68) (x' := (p2 + (1 : Int32))) (lv' := [(2, .int (p2 + (1 : Int32))), (0, .ref 0), (1, .int u7)]) dX10_crossed_65 rfl (by decide) rfl rfl rfl ?_
      refine mr_goto (t := 4) dX10_crossed_68 (by decide) ?_
      exact mr_sub [(0, .ref 0), (1, .int u7), (2, .int (p2 + (1 : Int32)))] ⟨rfl, rfl, rfl, trivial⟩ rfl (ih _ _  h8)
def f_X10_crossed  (S : fS) : Option (Int32) :=
  lp_X10_crossed_4  S (fun u9 => some u9) FU (0 : Int32) (0 : Int32)
set_option maxHeartbeats 4000000 in
set_option maxRecDepth 100000 in
theorem ok_X10_crossed {X : mm_C} {RR : Nat → Nat → Option Nat} (hR : RRok RR)   {S : fS} {r : Int32} (h : f_X10_crossed  S = some r) : mr X 3 mY_X10_crossed 0 (lv_args 0 [.ref 0]) [] (MM RR S) (some (.int r), MM RR S) := by
  unfold f_X10_crossed at h
  show mr X _ _ 0 [(0, .ref 0)] [] (MM RR S) _
  refine mr_iconst (pc' := 1) (v := (0 : Int32)) dX10_crossed_0 rfl (by decide) ?_
  refine mr_istore_n (pc' := 2) (lv' := [(1, .int (0 : Int32)), (0, .ref 0)]) dX10_crossed_1 rfl (by decide) rfl ?_
  refine mr_iconst (pc' := 3) (v := (0 : Int32)) dX10_crossed_2 rfl (by decide) ?_
  refine mr_istore_n (pc' := 4) (lv' := [(2, .int (0 : Int32)), (1, .int (0 : Int32)), (0, .ref 0)]) dX10_crossed_3 rfl (by decide) rfl ?_
  refine mr_sub [(0, .ref 0), (1, .int (0 : Int32)), (2, .int (0 : Int32))] ⟨rfl, rfl, rfl, trivial⟩ rfl ?_
  refine ok_lp_X10_crossed_4 hR  (fun u9 h10 => ?_) FU _ _  h
  refine mr_iload_n (pc' := 72) dX10_crossed_71 rfl rfl ?_
  obtain rfl := Option.some.inj h10
  exact mr_ireturn dX10_crossed_72 rfl
def lp_X2_comingBefore_4 (p0 : Nat) (p1 : Int32) (S : fS) (K : Int32 → Option (Int32)) : Nat → Int32 → Int32 → Option (Int32)
  | 0, _, _ => none
  | n + 1, p2, p3 =>
    if (S.1 p0 4) ≤ p3 then (K p2) else
    ((gI S (p0 + 4) 12 p3).bind fun a2 =>
    (gI S (p0 + 4) 12 p1).bind fun a5 =>
    if a2 < a5 then (if (1 : Int32) = (0 : Int32) then (lp_X2_comingBefore_4 p0 p1 S K n (p2 + (0 : Int32)) (p3 + (1 : Int32))) else
    (lp_X2_comingBefore_4 p0 p1 S K n (p2 + (1 : Int32)) (p3 + (1 : Int32)))) else
    ((gI S (p0 + 4) 12 p3).bind fun a10 =>
    (gI S (p0 + 4) 12 p1).bind fun a13 =>
    if a10 = a13 then (if p1 ≤ p3 then (if (0 : Int32) = (0 : Int32) then (lp_X2_comingBefore_4 p0 p1 S K n (p2 + (0 : Int32)) (p3 + (1 : Int32))) else
    (lp_X2_comingBefore_4 p0 p1 S K n (p2 + (1 : Int32)) (p3 + (1 : Int32)))) else
    (if (1 : Int32) = (0 : Int32) then (lp_X2_comingBefore_4 p0 p1 S K n (p2 + (0 : Int32)) (p3 + (1 : Int32))) else
    (lp_X2_comingBefore_4 p0 p1 S K n (p2 + (1 : Int32)) (p3 + (1 : Int32))))) else
    (if (0 : Int32) = (0 : Int32) then (lp_X2_comingBefore_4 p0 p1 S K n (p2 + (0 : Int32)) (p3 + (1 : Int32))) else
    (lp_X2_comingBefore_4 p0 p1 S K n (p2 + (1 : Int32)) (p3 + (1 : Int32))))))
set_option maxHeartbeats 4000000 in
set_option maxRecDepth 100000 in
theorem ok_lp_X2_comingBefore_4 {X : mm_C} {RR : Nat → Nat → Option Nat} (hR : RRok RR) {p0 : Nat} {p1 : Int32} (t0 : tg p0 = 2) {S : fS} {K : Int32 → Option (Int32)} {r : Int32} (hK : ∀ (k2 : Int32), K k2 = some r → mr X 0 mY_X2_comingBefore 73 [(2, .int k2)] [] (MM RR S) (some (.int r), MM RR S)) : ∀ (n : Nat) (p2 : Int32) (p3 : Int32), lp_X2_comingBefore_4 p0 p1 S K n p2 p3 = some r → mr X 0 mY_X2_comingBefore 4 [(0, .ref p0), (1, .int p1), (2, .int p2), (3, .int p3)] [] (MM RR S) (some (.int r), MM RR S) := by
  intro n
  induction n with
  | zero => intro p2 p3 h; exact mm_no h
  | succ n ih =>
    intro p2 p3 h
    unfold lp_X2_comingBefore_4 at h
    refine mr_iload_n (pc' := 5) dX2_comingBefore_4 rfl rfl ?_
    refine mr_aload_n (pc' := 6) dX2_comingBefore_5 rfl rfl ?_
    refine mr_getI (pc' := 9) (ci := 2) (j := 4) dX2_comingBefore_6 rfl rfl t0 (by decide) (by decide) rfl ?_
    by_cases c1 : (S.1 p0 4) ≤ p3
    · rw [if_pos c1] at h
      refine mr_icmp_ge_t (t := 73) dX2_comingBefore_9 (by decide) c1 ?_
      exact mr_sub [(2, .int p2)] ⟨rfl, trivial⟩ rfl (hK _  h)
    · rw [if_neg c1] at h
      refine mr_icmp_ge_f (t := 73) (pc' := 12) dX2_comingBefore_9 (by decide) rfl c1 ?_
      refine mr_aload_n (pc' := 13) dX2_comingBefore_12 rfl rfl ?_
      refine mr_getR (pc' := 16) (ci := 2) (j := 3) (b := (p0 + 4)) hR dX2_comingBefore_13 rfl rfl t0 (by decide) (by decide) (by decide) rfl (ly2_3 t0).1 ?_
      refine mr_iload_n (pc' := 17) dX2_comingBefore_16 rfl rfl ?_
      obtain ⟨a2, g3, h4⟩ := Option.bind_eq_some_iff.mp h
      refine mr_iald (pc' := 18) dX2_comingBefore_17 rfl (ly2_3 t0).2.1 (ly2_3 t0).2.2 g3 ?_
      refine mr_aload_n (pc' := 19) dX2_comingBefore_18 rfl rfl ?_
      refine mr_getR (pc' := 22) (ci := 2) (j := 3) (b := (p0 + 4)) hR dX2_comingBefore_19 rfl rfl t0 (by decide) (by decide) (by decide) rfl (ly2_3 t0).1 ?_
      refine mr_iload_n (pc' := 23) dX2_comingBefore_22 rfl rfl ?_
      obtain ⟨a5, g6, h7⟩ := Option.bind_eq_some_iff.mp h4
      refine mr_iald (pc' := 24) dX2_comingBefore_23 rfl (ly2_3 t0).2.1 (ly2_3 t0).2.2 g6 ?_
      by_cases c8 : a2 < a5
      · rw [if_pos c8] at h7
        refine mr_icmp_lt_t (t := 47) dX2_comingBefore_24 (by decide) c8 ?_
        refine mr_iconst (pc' := 48) (v := (1 : Int32)) dX2_comingBefore_47 rfl (by decide) ?_
        refine mr_goto (t := 52) dX2_comingBefore_48 (by decide) ?_
        refine mr_istore (pc' := 54) (lv' := [(4, .int (1 : Int32)), (0, .ref p0), (1, .int p1), (2, .int p2), (3, .int p3)]) dX2_comingBefore_52 rfl (by decide) rfl ?_
        refine mr_iload_n (pc' := 55) dX2_comingBefore_54 rfl rfl ?_
        refine mr_iload (pc' := 57) dX2_comingBefore_55 rfl rfl ?_
        by_cases c9 : (1 : Int32) = (0 : Int32)
        · rw [if_pos c9] at h7
          refine mr_if_eq_t (t := 64) dX2_comingBefore_57 (by decide) c9 ?_
          refine mr_iconst (pc' := 65) (v := (0 : Int32)) dX2_comingBefore_64 rfl (by decide) ?_
          refine mr_iadd (pc' := 66) dX2_comingBefore_65 rfl ?_
          refine mr_istore_n (pc' := 67) (lv' := [(2, .int (p2 + (0 : Int32))), (4, .int (1 : Int32)), (0, .ref p0), (1, .int p1), (3, .int p3)]) dX2_comingBefore_66 rfl (by decide) rfl ?_
          refine mr_iinc (pc' := 70) (x' := (p3 + (1 : Int32))) (lv' := [(3, .int (p3 + (1 : Int32))), (2, .int (p2 + (0 : Int32))), (4, .int (1 : Int32)), (0, .ref p0), (1, .int p1)]) dX2_comingBefore_67 rfl (by decide) rfl rfl rfl ?_
          refine mr_goto (t := 4) dX2_comingBefore_70 (by decide) ?_
          exact mr_sub [(0, .ref p0), (1, .int p1), (2, .int (p2 + (0 : Int32))), (3, .int (p3 + (1 : Int32)))] ⟨rfl, rfl, rfl, rfl, trivial⟩ rfl (ih _ _  h7)
        · rw [if_neg c9] at h7
          refine mr_if_eq_f (t := 64) (pc' := 60) dX2_comingBefore_57 (by decide) rfl c9 ?_
          refine mr_iconst (pc' := 61) (v := (1 : Int32)) dX2_comingBefore_60 rfl (by decide) ?_
          refine mr_goto (t := 65) dX2_comingBefore_61 (by decide) ?_
          refine mr_iadd (pc' := 66) dX2_comingBefore_65 rfl ?_
          refine mr_istore_n (pc' := 67) (lv' := [(2, .int (p2 + (1 : Int32))), (4, .int (1 : Int32)), (0, .ref p0), (1, .int p1), (3, .int p3)]) dX2_comingBefore_66 rfl (by decide) rfl ?_
          refine mr_iinc (pc' := 70) (x' := (p3 + (1 : Int32))) (lv' := [(3, .int (p3 + (1 : Int32))), (2, .int (p2 + (1 : Int32))), (4, .int (1 : Int32)), (0, .ref p0), (1, .int p1)]) dX2_comingBefore_67 rfl (by decide) rfl rfl rfl ?_
          refine mr_goto (t := 4) dX2_comingBefore_70 (by decide) ?_
          exact mr_sub [(0, .ref p0), (1, .int p1), (2, .int (p2 + (1 : Int32))), (3, .int (p3 + (1 : Int32)))] ⟨rfl, rfl, rfl, rfl, trivial⟩ rfl (ih _ _  h7)
      · rw [if_neg c8] at h7
        refine mr_icmp_lt_f (t := 47) (pc' := 27) dX2_comingBefore_24 (by decide) rfl c8 ?_
        refine mr_aload_n (pc' := 28) dX2_comingBefore_27 rfl rfl ?_
        refine mr_getR (pc' := 31) (ci := 2) (j := 3) (b := (p0 + 4)) hR dX2_comingBefore_28 rfl rfl t0 (by decide) (by decide) (by decide) rfl (ly2_3 t0).1 ?_
        refine mr_iload_n (pc' := 32) dX2_comingBefore_31 rfl rfl ?_
        obtain ⟨a10, g11, h12⟩ := Option.bind_eq_some_iff.mp h7
        refine mr_iald (pc' := 33) dX2_comingBefore_32 rfl (ly2_3 t0).2.1 (ly2_3 t0).2.2 g11 ?_
        refine mr_aload_n (pc' := 34) dX2_comingBefore_33 rfl rfl ?_
        refine mr_getR (pc' := 37) (ci := 2) (j := 3) (b := (p0 + 4)) hR dX2_comingBefore_34 rfl rfl t0 (by decide) (by decide) (by decide) rfl (ly2_3 t0).1 ?_
        refine mr_iload_n (pc' := 38) dX2_comingBefore_37 rfl rfl ?_
        obtain ⟨a13, g14, h15⟩ := Option.bind_eq_some_iff.mp h12
        refine mr_iald (pc' := 39) dX2_comingBefore_38 rfl (ly2_3 t0).2.1 (ly2_3 t0).2.2 g14 ?_
        by_cases c16 : a10 = a13
        · rw [if_pos c16] at h15
          refine mr_icmp_ne_f (t := 51) (pc' := 42) dX2_comingBefore_39 (by decide) rfl (not_not_intro c16) ?_
          refine mr_iload_n (pc' := 43) dX2_comingBefore_42 rfl rfl ?_
          refine mr_iload_n (pc' := 44) dX2_comingBefore_43 rfl rfl ?_
          by_cases c18 : p1 ≤ p3
          · rw [if_pos c18] at h15
            refine mr_icmp_ge_t (t := 51) dX2_comingBefore_44 (by decide) c18 ?_
            refine mr_iconst (pc' := 52) (v := (0 : Int32)) dX2_comingBefore_51 rfl (by decide) ?_
            refine mr_istore (pc' := 54) (lv' := [(4, .int (0 : Int32)), (0, .ref p0), (1, .int p1), (2, .int p2), (3, .int p3)]) dX2_comingBefore_52 rfl (by decide) rfl ?_
            refine mr_iload_n (pc' := 55) dX2_comingBefore_54 rfl rfl ?_
            refine mr_iload (pc' := 57) dX2_comingBefore_55 rfl rfl ?_
            by_cases c19 : (0 : Int32) = (0 : Int32)
            · rw [if_pos c19] at h15
              refine mr_if_eq_t (t := 64) dX2_comingBefore_57 (by decide) c19 ?_
              refine mr_iconst (pc' := 65) (v := (0 : Int32)) dX2_comingBefore_64 rfl (by decide) ?_
              refine mr_iadd (pc' := 66) dX2_comingBefore_65 rfl ?_
              refine mr_istore_n (pc' := 67) (lv' := [(2, .int (p2 + (0 : Int32))), (4, .int (0 : Int32)), (0, .ref p0), (1, .int p1), (3, .int p3)]) dX2_comingBefore_66 rfl (by decide) rfl ?_
              refine mr_iinc (pc' := 70) (x' := (p3 + (1 : Int32))) (lv' := [(3, .int (p3 + (1 : Int32))), (2, .int (p2 + (0 : Int32))), (4, .int (0 : Int32)), (0, .ref p0), (1, .int p1)]) dX2_comingBefore_67 rfl (by decide) rfl rfl rfl ?_
              refine mr_goto (t := 4) dX2_comingBefore_70 (by decide) ?_
              exact mr_sub [(0, .ref p0), (1, .int p1), (2, .int (p2 + (0 : Int32))), (3, .int (p3 + (1 : Int32)))] ⟨rfl, rfl, rfl, rfl, trivial⟩ rfl (ih _ _  h15)
            · rw [if_neg c19] at h15
              refine mr_if_eq_f (t := 64) (pc' := 60) dX2_comingBefore_57 (by decide) rfl c19 ?_
              refine mr_iconst (pc' := 61) (v := (1 : Int32)) dX2_comingBefore_60 rfl (by decide) ?_
              refine mr_goto (t := 65) dX2_comingBefore_61 (by decide) ?_
              refine mr_iadd (pc' := 66) dX2_comingBefore_65 rfl ?_
              refine mr_istore_n (pc' := 67) (lv' := [(2, .int (p2 + (1 : Int32))), (4, .int (0 : Int32)), (0, .ref p0), (1, .int p1), (3, .int p3)]) dX2_comingBefore_66 rfl (by decide) rfl ?_
              refine mr_iinc (pc' := 70) (x' := (p3 + (1 : Int32))) (lv' := [(3, .int (p3 + (1 : Int32))), (2, .int (p2 + (1 : Int32))), (4, .int (0 : Int32)), (0, .ref p0), (1, .int p1)]) dX2_comingBefore_67 rfl (by decide) rfl rfl rfl ?_
              refine mr_goto (t := 4) dX2_comingBefore_70 (by decide) ?_
              exact mr_sub [(0, .ref p0), (1, .int p1), (2, .int (p2 + (1 : Int32))), (3, .int (p3 + (1 : Int32)))] ⟨rfl, rfl, rfl, rfl, trivial⟩ rfl (ih _ _  h15)
          · rw [if_neg c18] at h15
            refine mr_icmp_ge_f (t := 51) (pc' := 47) dX2_comingBefore_44 (by decide) rfl c18 ?_
            refine mr_iconst (pc' := 48) (v := (1 : Int32)) dX2_comingBefore_47 rfl (by decide) ?_
            refine mr_goto (t := 52) dX2_comingBefore_48 (by decide) ?_
            refine mr_istore (pc' := 54) (lv' := [(4, .int (1 : Int32)), (0, .ref p0), (1, .int p1), (2, .int p2), (3, .int p3)]) dX2_comingBefore_52 rfl (by decide) rfl ?_
            refine mr_iload_n (pc' := 55) dX2_comingBefore_54 rfl rfl ?_
            refine mr_iload (pc' := 57) dX2_comingBefore_55 rfl rfl ?_
            by_cases c20 : (1 : Int32) = (0 : Int32)
            · rw [if_pos c20] at h15
              refine mr_if_eq_t (t := 64) dX2_comingBefore_57 (by decide) c20 ?_
              refine mr_iconst (pc' := 65) (v := (0 : Int32)) dX2_comingBefore_64 rfl (by decide) ?_
              refine mr_iadd (pc' := 66) dX2_comingBefore_65 rfl ?_
              refine mr_istore_n (pc' := 67) (lv' := [(2, .int (p2 + (0 : Int32))), (4, .int (1 : Int32)), (0, .ref p0), (1, .int p1), (3, .int p3)]) dX2_comingBefore_66 rfl (by decide) rfl ?_
              refine mr_iinc (pc' := 70) (x' := (p3 + (1 : Int32))) (lv' := [(3, .int (p3 + (1 : Int32))), (2, .int (p2 + (0 : Int32))), (4, .int (1 : Int32)), (0, .ref p0), (1, .int p1)]) dX2_comingBefore_67 rfl (by decide) rfl rfl rfl ?_
              refine mr_goto (t := 4) dX2_comingBefore_70 (by decide) ?_
              exact mr_sub [(0, .ref p0), (1, .int p1), (2, .int (p2 + (0 : Int32))), (3, .int (p3 + (1 : Int32)))] ⟨rfl, rfl, rfl, rfl, trivial⟩ rfl (ih _ _  h15)
            · rw [if_neg c20] at h15
              refine mr_if_eq_f (t := 64) (pc' := 60) dX2_comingBefore_57 (by decide) rfl c20 ?_
              refine mr_iconst (pc' := 61) (v := (1 : Int32)) dX2_comingBefore_60 rfl (by decide) ?_
              refine mr_goto (t := 65) dX2_comingBefore_61 (by decide) ?_
              refine mr_iadd (pc' := 66) dX2_comingBefore_65 rfl ?_
              refine mr_istore_n (pc' := 67) (lv' := [(2, .int (p2 + (1 : Int32))), (4, .int (1 : Int32)), (0, .ref p0), (1, .int p1), (3, .int p3)]) dX2_comingBefore_66 rfl (by decide) rfl ?_
              refine mr_iinc (pc' := 70) (x' := (p3 + (1 : Int32))) (lv' := [(3, .int (p3 + (1 : Int32))), (2, .int (p2 + (1 : Int32))), (4, .int (1 : Int32)), (0, .ref p0), (1, .int p1)]) dX2_comingBefore_67 rfl (by decide) rfl rfl rfl ?_
              refine mr_goto (t := 4) dX2_comingBefore_70 (by decide) ?_
              exact mr_sub [(0, .ref p0), (1, .int p1), (2, .int (p2 + (1 : Int32))), (3, .int (p3 + (1 : Int32)))] ⟨rfl, rfl, rfl, rfl, trivial⟩ rfl (ih _ _  h15)
        · rw [if_neg c16] at h15
          refine mr_icmp_ne_t (t := 51) dX2_comingBefore_39 (by decide) c16 ?_
          refine mr_iconst (pc' := 52) (v := (0 : Int32)) dX2_comingBefore_51 rfl (by decide) ?_
          refine mr_istore (pc' := 54) (lv' := [(4, .int (0 : Int32)), (0, .ref p0), (1, .int p1), (2, .int p2), (3, .int p3)]) dX2_comingBefore_52 rfl (by decide) rfl ?_
          refine mr_iload_n (pc' := 55) dX2_comingBefore_54 rfl rfl ?_
          refine mr_iload (pc' := 57) dX2_comingBefore_55 rfl rfl ?_
          by_cases c17 : (0 : Int32) = (0 : Int32)
          · rw [if_pos c17] at h15
            refine mr_if_eq_t (t := 64) dX2_comingBefore_57 (by decide) c17 ?_
            refine mr_iconst (pc' := 65) (v := (0 : Int32)) dX2_comingBefore_64 rfl (by decide) ?_
            refine mr_iadd (pc' := 66) dX2_comingBefore_65 rfl ?_
            refine mr_istore_n (pc' := 67) (lv' := [(2, .int (p2 + (0 : Int32))), (4, .int (0 : Int32)), (0, .ref p0), (1, .int p1), (3, .int p3)]) dX2_comingBefore_66 rfl (by decide) rfl ?_
            refine mr_iinc (pc' := 70) (x' := (p3 + (1 : Int32))) (lv' := [(3, .int (p3 + (1 : Int32))), (2, .int (p2 + (0 : Int32))), (4, .int (0 : Int32)), (0, .ref p0), (1, .int p1)]) dX2_comingBefore_67 rfl (by decide) rfl rfl rfl ?_
            refine mr_goto (t := 4) dX2_comingBefore_70 (by decide) ?_
            exact mr_sub [(0, .ref p0), (1, .int p1), (2, .int (p2 + (0 : Int32))), (3, .int (p3 + (1 : Int32)))] ⟨rfl, rfl, rfl, rfl, trivial⟩ rfl (ih _ _  h15)
          · rw [if_neg c17] at h15
            refine mr_if_eq_f (t := 64) (pc' := 60) dX2_comingBefore_57 (by decide) rfl c17 ?_
            refine mr_iconst (pc' := 61) (v := (1 : Int32)) dX2_comingBefore_60 rfl (by decide) ?_
            refine mr_goto (t := 65) dX2_comingBefore_61 (by decide) ?_
            refine mr_iadd (pc' := 66) dX2_comingBefore_65 rfl ?_
            refine mr_istore_n (pc' := 67) (lv' := [(2, .int (p2 + (1 : Int32))), (4, .int (0 : Int32)), (0, .ref p0), (1, .int p1), (3, .int p3)]) dX2_comingBefore_66 rfl (by decide) rfl ?_
            refine mr_iinc (pc' := 70) (x' := (p3 + (1 : Int32))) (lv' := [(3, .int (p3 + (1 : Int32))), (2, .int (p2 + (1 : Int32))), (4, .int (0 : Int32)), (0, .ref p0), (1, .int p1)]) dX2_comingBefore_67 rfl (by decide) rfl rfl rfl ?_
            refine mr_goto (t := 4) dX2_comingBefore_70 (by decide) ?_
            exact mr_sub [(0, .ref p0), (1, .int p1), (2, .int (p2 + (1 : Int32))), (3, .int (p3 + (1 : Int32)))] ⟨rfl, rfl, rfl, rfl, trivial⟩ rfl (ih _ _  h15)
def f_X2_comingBefore (v0 : Nat) (v1 : Int32) (S : fS) : Option (Int32) :=
  lp_X2_comingBefore_4 v0 v1 S (fun u21 => some u21) FU (0 : Int32) (0 : Int32)
set_option maxHeartbeats 4000000 in
set_option maxRecDepth 100000 in
theorem ok_X2_comingBefore {X : mm_C} {RR : Nat → Nat → Option Nat} (hR : RRok RR) {v0 : Nat} {v1 : Int32} (t0 : tg v0 = 2) {S : fS} {r : Int32} (h : f_X2_comingBefore v0 v1 S = some r) : mr X 0 mY_X2_comingBefore 0 (lv_args 0 [.ref v0, .int v1]) [] (MM RR S) (some (.int r), MM RR S) := by
  unfold f_X2_comingBefore at h
  show mr X _ _ 0 [(0, .ref v0), (1, .int v1)] [] (MM RR S) _
  refine mr_iconst (pc' := 1) (v := (0 : Int32)) dX2_comingBefore_0 rfl (by decide) ?_
  refine mr_istore_n (pc' := 2) (lv' := [(2, .int (0 : Int32)), (0, .ref v0), (1, .int v1)]) dX2_comingBefore_1 rfl (by decide) rfl ?_
  refine mr_iconst (pc' := 3) (v := (0 : Int32)) dX2_comingBefore_2 rfl (by decide) ?_
  refine mr_istore_n (pc' := 4) (lv' := [(3, .int (0 : Int32)), (2, .int (0 : Int32)), (0, .ref v0), (1, .int v1)]) dX2_comingBefore_3 rfl (by decide) rfl ?_
  refine mr_sub [(0, .ref v0), (1, .int v1), (2, .int (0 : Int32)), (3, .int (0 : Int32))] ⟨rfl, rfl, rfl, rfl, trivial⟩ rfl ?_
  refine ok_lp_X2_comingBefore_4 hR t0 (fun u21 h22 => ?_) FU _ _  h
  refine mr_iload_n (pc' := 74) dX2_comingBefore_73 rfl rfl ?_
  obtain rfl := Option.some.inj h22
  exact mr_ireturn dX2_comingBefore_74 rfl
def lp_X10_order_24 (p1 : Int32) (S : fS) (K : Unit → Option (Int32)) : Nat → Int32 → Option (Int32)
  | 0, _ => none
  | n + 1, p2 =>
    if (S.1 17 4) ≤ p2 then (K ()) else
    ((f_X2_comingBefore 17 p2 S).bind fun q6 =>
    if q6 = p1 then (some p2) else
    (lp_X10_order_24 p1 S K n (p2 + (1 : Int32))))
set_option maxHeartbeats 4000000 in
set_option maxRecDepth 100000 in
theorem ok_lp_X10_order_24 {X : mm_C} {RR : Nat → Nat → Option Nat} (hR : RRok RR) {p1 : Int32}  {S : fS} {K : Unit → Option (Int32)} {r : Int32} (hK : ∀ (_ : Unit), K () = some r → mr X 1 mY_X10_order 61 [] [] (MM RR S) (some (.int r), MM RR S)) : ∀ (n : Nat) (p2 : Int32), lp_X10_order_24 p1 S K n p2 = some r → mr X 1 mY_X10_order 24 [(0, .ref 0), (1, .int p1), (2, .int p2)] [] (MM RR S) (some (.int r), MM RR S) := by
  intro n
  induction n with
  | zero => intro p2 h; exact mm_no h
  | succ n ih =>
    intro p2 h
    unfold lp_X10_order_24 at h
    refine mr_iload_n (pc' := 25) dX10_order_24 rfl rfl ?_
    refine mr_aload_n (pc' := 26) dX10_order_25 rfl rfl ?_
    refine mr_getR (pc' := 29) (ci := 10) (j := 1) (b := 3) hR dX10_order_26 rfl rfl rfl (by decide) (by decide) (by decide) rfl rfl ?_
    refine mr_getR (pc' := 32) (ci := 6) (j := 2) (b := 17) hR dX10_order_29 rfl rfl rfl (by decide) (by decide) (by decide) rfl rfl ?_
    refine mr_getI (pc' := 35) (ci := 2) (j := 4) dX10_order_32 rfl rfl rfl (by decide) (by decide) rfl ?_
    by_cases c5 : (S.1 17 4) ≤ p2
    · rw [if_pos c5] at h
      refine mr_icmp_ge_t (t := 61) dX10_order_35 (by decide) c5 ?_
      exact mr_sub [] trivial rfl (hK () h)
    · rw [if_neg c5] at h
      refine mr_icmp_ge_f (t := 61) (pc' := 38) dX10_order_35 (by decide) rfl c5 ?_
      refine mr_aload_n (pc' := 39) dX10_order_38 rfl rfl ?_
      refine mr_getR (pc' := 42) (ci := 10) (j := 1) (b := 3) hR dX10_order_39 rfl rfl rfl (by decide) (by decide) (by decide) rfl rfl ?_
      refine mr_getR (pc' := 45) (ci := 6) (j := 2) (b := 17) hR dX10_order_42 rfl rfl rfl (by decide) (by decide) (by decide) rfl rfl ?_
      refine mr_iload_n (pc' := 46) dX10_order_45 rfl rfl ?_
      obtain ⟨q6, g7, h8⟩ := Option.bind_eq_some_iff.mp h
      refine mr_cv (pc' := 49) (a := 17) (d1 := 0) dX10_order_46 rfl rfl rfl rfl rfl rfl (by decide) rfl (by decide) (ok_X2_comingBefore hR rfl g7) ?_
      show mr X _ _ 49 _ [.int q6] (MM RR S) _
      refine mr_iload_n (pc' := 50) dX10_order_49 rfl rfl ?_
      by_cases c9 : q6 = p1
      · rw [if_pos c9] at h8
        refine mr_icmp_ne_f (t := 55) (pc' := 53) dX10_order_50 (by decide) rfl (not_not_intro c9) ?_
        refine mr_iload_n (pc' := 54) dX10_order_53 rfl rfl ?_
        obtain rfl := Option.some.inj h8
        exact mr_ireturn dX10_order_54 rfl
      · rw [if_neg c9] at h8
        refine mr_icmp_ne_t (t := 55) dX10_order_50 (by decide) c9 ?_
        refine mr_iinc (pc' := 58) (x' := (p2 + (1 : Int32))) (lv' := [(2, .int (p2 + (1 : Int32))), (0, .ref 0), (1, .int p1)]) dX10_order_55 rfl (by decide) rfl rfl rfl ?_
        refine mr_goto (t := 24) dX10_order_58 (by decide) ?_
        exact mr_sub [(0, .ref 0), (1, .int p1), (2, .int (p2 + (1 : Int32)))] ⟨rfl, rfl, rfl, trivial⟩ rfl (ih _  h8)
def f_X10_order (v1 : Int32) (S : fS) : Option (Int32) :=
  (f_X10_isFrom v1 (0 : Int32) ((S.1 17 4) - (1 : Int32)) S).bind fun q1 =>
  if q1 = (0 : Int32) then (some (-1 : Int32)) else
  (lp_X10_order_24 v1 S (fun (_ : Unit) => some (-1 : Int32)) FU (0 : Int32))
set_option maxHeartbeats 4000000 in
set_option maxRecDepth 100000 in
theorem ok_X10_order {X : mm_C} {RR : Nat → Nat → Option Nat} (hR : RRok RR) {v1 : Int32}  {S : fS} {r : Int32} (h : f_X10_order v1 S = some r) : mr X 1 mY_X10_order 0 (lv_args 0 [.ref 0, .int v1]) [] (MM RR S) (some (.int r), MM RR S) := by
  unfold f_X10_order at h
  show mr X _ _ 0 [(0, .ref 0), (1, .int v1)] [] (MM RR S) _
  refine mr_iload_n (pc' := 1) dX10_order_0 rfl rfl ?_
  refine mr_iconst (pc' := 2) (v := (0 : Int32)) dX10_order_1 rfl (by decide) ?_
  refine mr_aload_n (pc' := 3) dX10_order_2 rfl rfl ?_
  refine mr_getR (pc' := 6) (ci := 10) (j := 1) (b := 3) hR dX10_order_3 rfl rfl rfl (by decide) (by decide) (by decide) rfl rfl ?_
  refine mr_getR (pc' := 9) (ci := 6) (j := 2) (b := 17) hR dX10_order_6 rfl rfl rfl (by decide) (by decide) (by decide) rfl rfl ?_
  refine mr_getI (pc' := 12) (ci := 2) (j := 4) dX10_order_9 rfl rfl rfl (by decide) (by decide) rfl ?_
  refine mr_iconst (pc' := 13) (v := (1 : Int32)) dX10_order_12 rfl (by decide) ?_
  refine mr_isub (pc' := 14) dX10_order_13 rfl ?_
  obtain ⟨q1, g2, h3⟩ := Option.bind_eq_some_iff.mp h
  refine mr_cs (pc' := 17) (d1 := 0) dX10_order_14 rfl rfl rfl rfl (by decide) (Nat.le_of_ble_eq_true rfl) rfl rfl rfl (by decide) (ok_X10_isFrom hR  g2) ?_
  show mr X _ _ 17 _ [.int q1] (MM RR S) _
  by_cases c4 : q1 = (0 : Int32)
  · rw [if_pos c4] at h3
    refine mr_if_ne_f (t := 22) (pc' := 20) dX10_order_17 (by decide) rfl (not_not_intro c4) ?_
    refine mr_iconst (pc' := 21) (v := (-1 : Int32)) dX10_order_20 rfl (by decide) ?_
    obtain rfl := Option.some.inj h3
    exact mr_ireturn dX10_order_21 rfl
  · rw [if_neg c4] at h3
    refine mr_if_ne_t (t := 22) dX10_order_17 (by decide) c4 ?_
    refine mr_iconst (pc' := 23) (v := (0 : Int32)) dX10_order_22 rfl (by decide) ?_
    refine mr_istore_n (pc' := 24) (lv' := [(2, .int (0 : Int32)), (0, .ref 0), (1, .int v1)]) dX10_order_23 rfl (by decide) rfl ?_
    refine mr_sub [(0, .ref 0), (1, .int v1), (2, .int (0 : Int32))] ⟨rfl, rfl, rfl, trivial⟩ rfl ?_
    refine ok_lp_X10_order_24 hR  (fun _ h10 => ?_) FU _  h3
    refine mr_iconst (pc' := 62) (v := (-1 : Int32)) dX10_order_61 rfl (by decide) ?_
    obtain rfl := Option.some.inj h10
    exact mr_ireturn dX10_order_62 rfl
def f_X10_seed (v1 : Int32) (S : fS) : Option (Int32 × fS) :=
  if (0 : Int32) ≤ v1 then ((some (pI S 3 3 v1)).bind fun S2 =>
  some ((S.1 3 3), S2)) else
  (some ((-1 : Int32), S))
set_option maxHeartbeats 4000000 in
set_option maxRecDepth 100000 in
theorem ok_X10_seed {X : mm_C} {RR : Nat → Nat → Option Nat} (hR : RRok RR) {v1 : Int32}  {S : fS} {r : Int32 × fS} (h : f_X10_seed v1 S = some r) : mr X 0 mY_X10_seed 0 (lv_args 0 [.ref 0, .int v1]) [] (MM RR S) (some (.int r.1), MM RR r.2) := by
  unfold f_X10_seed at h
  show mr X _ _ 0 [(0, .ref 0), (1, .int v1)] [] (MM RR S) _
  refine mr_iload_n (pc' := 1) dX10_seed_0 rfl rfl ?_
  by_cases c1 : (0 : Int32) ≤ v1
  · rw [if_pos c1] at h
    refine mr_if_ge_t (t := 6) dX10_seed_1 (by decide) c1 ?_
    refine mr_aload_n (pc' := 7) dX10_seed_6 rfl rfl ?_
    refine mr_getR (pc' := 10) (ci := 10) (j := 1) (b := 3) hR dX10_seed_7 rfl rfl rfl (by decide) (by decide) (by decide) rfl rfl ?_
    refine mr_getI (pc' := 13) (ci := 6) (j := 3) dX10_seed_10 rfl rfl rfl (by decide) (by decide) rfl ?_
    refine mr_istore_n (pc' := 14) (lv' := [(2, .int (S.1 3 3)), (0, .ref 0), (1, .int v1)]) dX10_seed_13 rfl (by decide) rfl ?_
    refine mr_aload_n (pc' := 15) dX10_seed_14 rfl rfl ?_
    refine mr_getR (pc' := 18) (ci := 10) (j := 1) (b := 3) hR dX10_seed_15 rfl rfl rfl (by decide) (by decide) (by decide) rfl rfl ?_
    refine mr_iload_n (pc' := 19) dX10_seed_18 rfl rfl ?_
    obtain ⟨S2, g3, h4⟩ := Option.bind_eq_some_iff.mp h
    refine mr_putI (pc' := 22) (ci := 6) (j := 3) dX10_seed_19 rfl rfl rfl (by decide) (by decide) rfl rfl ?_
    rw [Option.some.inj g3]
    refine mr_iload_n (pc' := 23) dX10_seed_22 rfl rfl ?_
    obtain rfl := Option.some.inj h4
    exact mr_ireturn dX10_seed_23 rfl
  · rw [if_neg c1] at h
    refine mr_if_ge_f (t := 6) (pc' := 4) dX10_seed_1 (by decide) rfl c1 ?_
    refine mr_iconst (pc' := 5) (v := (-1 : Int32)) dX10_seed_4 rfl (by decide) ?_
    obtain rfl := Option.some.inj h
    exact mr_ireturn dX10_seed_5 rfl
def f_X6_draw (v0 : Nat) (S : fS) : Option (Int32 × fS) :=
  (some (pI S v0 3 (Int64.toInt32 ((((Int32.toInt64 (S.1 v0 3)) * (1103515245 : Int64)) + (12345 : Int64)) &&& (2147483647 : Int64))))).bind fun S1 =>
  (dI (S1.1 v0 3) (65536 : Int32)).bind fun a4 =>
  some (a4, S1)
set_option maxHeartbeats 4000000 in
set_option maxRecDepth 100000 in
theorem ok_X6_draw {X : mm_C} {RR : Nat → Nat → Option Nat} (hR : RRok RR) {v0 : Nat} (t0 : tg v0 = 6) {S : fS} {r : Int32 × fS} (h : f_X6_draw v0 S = some r) : mr X 0 mY_X6_draw 0 (lv_args 0 [.ref v0]) [] (MM RR S) (some (.int r.1), MM RR r.2) := by
  unfold f_X6_draw at h
  show mr X _ _ 0 [(0, .ref v0)] [] (MM RR S) _
  refine mr_aload_n (pc' := 1) dX6_draw_0 rfl rfl ?_
  refine mr_aload_n (pc' := 2) dX6_draw_1 rfl rfl ?_
  refine mr_getI (pc' := 5) (ci := 6) (j := 3) dX6_draw_2 rfl rfl t0 (by decide) (by decide) rfl ?_
  refine mr_i2l (pc' := 6) dX6_draw_5 rfl ?_
  refine mr_ldc2 (pc' := 9) (v := (1103515245 : Int64)) dX6_draw_6 rfl rfl ?_
  refine mr_lmul (pc' := 10) dX6_draw_9 rfl ?_
  refine mr_ldc2 (pc' := 13) (v := (12345 : Int64)) dX6_draw_10 rfl rfl ?_
  refine mr_ladd (pc' := 14) dX6_draw_13 rfl ?_
  refine mr_ldc2 (pc' := 17) (v := (2147483647 : Int64)) dX6_draw_14 rfl rfl ?_
  refine mr_land (pc' := 18) dX6_draw_17 rfl ?_
  refine mr_l2i (pc' := 19) dX6_draw_18 rfl ?_
  obtain ⟨S1, g2, h3⟩ := Option.bind_eq_some_iff.mp h
  refine mr_putI (pc' := 22) (ci := 6) (j := 3) dX6_draw_19 rfl rfl t0 (by decide) (by decide) rfl rfl ?_
  rw [Option.some.inj g2]
  refine mr_aload_n (pc' := 23) dX6_draw_22 rfl rfl ?_
  refine mr_getI (pc' := 26) (ci := 6) (j := 3) dX6_draw_23 rfl rfl t0 (by decide) (by decide) rfl ?_
  refine mr_ldc (pc' := 28) (v := (65536 : Int32)) dX6_draw_26 rfl rfl ?_
  obtain ⟨a4, g5, h6⟩ := Option.bind_eq_some_iff.mp h3
  refine mr_idiv (pc' := 29) dX6_draw_28 rfl g5 ?_
  obtain rfl := Option.some.inj h6
  exact mr_ireturn dX6_draw_29 rfl
def lp_X8_stairsAt_4 (p0 : Nat) (p1 : Int32) (S : fS) (K : Int32 → Option (Int32)) : Nat → Int32 → Int32 → Option (Int32)
  | 0, _, _ => none
  | n + 1, p2, p3 =>
    if (S.1 p0 7) ≤ p3 then (K p2) else
    ((f_X8_otherEnd p0 p3 p1 S).bind fun q2 =>
    if (0 : Int32) ≤ q2 then (lp_X8_stairsAt_4 p0 p1 S K n (p2 + (1 : Int32)) (p3 + (1 : Int32))) else
    (lp_X8_stairsAt_4 p0 p1 S K n (p2 + (0 : Int32)) (p3 + (1 : Int32))))
set_option maxHeartbeats 4000000 in
set_option maxRecDepth 100000 in
theorem ok_lp_X8_stairsAt_4 {X : mm_C} {RR : Nat → Nat → Option Nat} (hR : RRok RR) {p0 : Nat} {p1 : Int32} (t0 : tg p0 = 8) {S : fS} {K : Int32 → Option (Int32)} {r : Int32} (hK : ∀ (k2 : Int32), K k2 = some r → mr X 1 mY_X8_stairsAt 35 [(2, .int k2)] [] (MM RR S) (some (.int r), MM RR S)) : ∀ (n : Nat) (p2 : Int32) (p3 : Int32), lp_X8_stairsAt_4 p0 p1 S K n p2 p3 = some r → mr X 1 mY_X8_stairsAt 4 [(0, .ref p0), (1, .int p1), (2, .int p2), (3, .int p3)] [] (MM RR S) (some (.int r), MM RR S) := by
  intro n
  induction n with
  | zero => intro p2 p3 h; exact mm_no h
  | succ n ih =>
    intro p2 p3 h
    unfold lp_X8_stairsAt_4 at h
    refine mr_iload_n (pc' := 5) dX8_stairsAt_4 rfl rfl ?_
    refine mr_aload_n (pc' := 6) dX8_stairsAt_5 rfl rfl ?_
    refine mr_getI (pc' := 9) (ci := 8) (j := 7) dX8_stairsAt_6 rfl rfl t0 (by decide) (by decide) rfl ?_
    by_cases c1 : (S.1 p0 7) ≤ p3
    · rw [if_pos c1] at h
      refine mr_icmp_ge_t (t := 35) dX8_stairsAt_9 (by decide) c1 ?_
      exact mr_sub [(2, .int p2)] ⟨rfl, trivial⟩ rfl (hK _  h)
    · rw [if_neg c1] at h
      refine mr_icmp_ge_f (t := 35) (pc' := 12) dX8_stairsAt_9 (by decide) rfl c1 ?_
      refine mr_iload_n (pc' := 13) dX8_stairsAt_12 rfl rfl ?_
      refine mr_aload_n (pc' := 14) dX8_stairsAt_13 rfl rfl ?_
      refine mr_iload_n (pc' := 15) dX8_stairsAt_14 rfl rfl ?_
      refine mr_iload_n (pc' := 16) dX8_stairsAt_15 rfl rfl ?_
      obtain ⟨q2, g3, h4⟩ := Option.bind_eq_some_iff.mp h
      refine mr_cv (pc' := 19) (a := p0) (d1 := 0) dX8_stairsAt_16 rfl rfl rfl rfl rfl t0 (by decide) rfl (by decide) (ok_X8_otherEnd hR t0 g3) ?_
      show mr X _ _ 19 _ [.int q2, .int p2] (MM RR S) _
      by_cases c5 : (0 : Int32) ≤ q2
      · rw [if_pos c5] at h4
        refine mr_if_ge_t (t := 26) dX8_stairsAt_19 (by decide) c5 ?_
        refine mr_iconst (pc' := 27) (v := (1 : Int32)) dX8_stairsAt_26 rfl (by decide) ?_
        refine mr_iadd (pc' := 28) dX8_stairsAt_27 rfl ?_
        refine mr_istore_n (pc' := 29) (lv' := [(2, .int (p2 + (1 : Int32))), (0, .ref p0), (1, .int p1), (3, .int p3)]) dX8_stairsAt_28 rfl (by decide) rfl ?_
        refine mr_iinc (pc' := 32) (x' := (p3 + (1 : Int32))) (lv' := [(3, .int (p3 + (1 : Int32))), (2, .int (p2 + (1 : Int32))), (0, .ref p0), (1, .int p1)]) dX8_stairsAt_29 rfl (by decide) rfl rfl rfl ?_
        refine mr_goto (t := 4) dX8_stairsAt_32 (by decide) ?_
        exact mr_sub [(0, .ref p0), (1, .int p1), (2, .int (p2 + (1 : Int32))), (3, .int (p3 + (1 : Int32)))] ⟨rfl, rfl, rfl, rfl, trivial⟩ rfl (ih _ _  h4)
      · rw [if_neg c5] at h4
        refine mr_if_ge_f (t := 26) (pc' := 22) dX8_stairsAt_19 (by decide) rfl c5 ?_
        refine mr_iconst (pc' := 23) (v := (0 : Int32)) dX8_stairsAt_22 rfl (by decide) ?_
        refine mr_goto (t := 27) dX8_stairsAt_23 (by decide) ?_
        refine mr_iadd (pc' := 28) dX8_stairsAt_27 rfl ?_
        refine mr_istore_n (pc' := 29) (lv' := [(2, .int (p2 + (0 : Int32))), (0, .ref p0), (1, .int p1), (3, .int p3)]) dX8_stairsAt_28 rfl (by decide) rfl ?_
        refine mr_iinc (pc' := 32) (x' := (p3 + (1 : Int32))) (lv' := [(3, .int (p3 + (1 : Int32))), (2, .int (p2 + (0 : Int32))), (0, .ref p0), (1, .int p1)]) dX8_stairsAt_29 rfl (by decide) rfl rfl rfl ?_
        refine mr_goto (t := 4) dX8_stairsAt_32 (by decide) ?_
        exact mr_sub [(0, .ref p0), (1, .int p1), (2, .int (p2 + (0 : Int32))), (3, .int (p3 + (1 : Int32)))] ⟨rfl, rfl, rfl, rfl, trivial⟩ rfl (ih _ _  h4)
def f_X8_stairsAt (v0 : Nat) (v1 : Int32) (S : fS) : Option (Int32) :=
  lp_X8_stairsAt_4 v0 v1 S (fun u6 => some u6) FU (0 : Int32) (0 : Int32)
set_option maxHeartbeats 4000000 in
set_option maxRecDepth 100000 in
theorem ok_X8_stairsAt {X : mm_C} {RR : Nat → Nat → Option Nat} (hR : RRok RR) {v0 : Nat} {v1 : Int32} (t0 : tg v0 = 8) {S : fS} {r : Int32} (h : f_X8_stairsAt v0 v1 S = some r) : mr X 1 mY_X8_stairsAt 0 (lv_args 0 [.ref v0, .int v1]) [] (MM RR S) (some (.int r), MM RR S) := by
  unfold f_X8_stairsAt at h
  show mr X _ _ 0 [(0, .ref v0), (1, .int v1)] [] (MM RR S) _
  refine mr_iconst (pc' := 1) (v := (0 : Int32)) dX8_stairsAt_0 rfl (by decide) ?_
  refine mr_istore_n (pc' := 2) (lv' := [(2, .int (0 : Int32)), (0, .ref v0), (1, .int v1)]) dX8_stairsAt_1 rfl (by decide) rfl ?_
  refine mr_iconst (pc' := 3) (v := (0 : Int32)) dX8_stairsAt_2 rfl (by decide) ?_
  refine mr_istore_n (pc' := 4) (lv' := [(3, .int (0 : Int32)), (2, .int (0 : Int32)), (0, .ref v0), (1, .int v1)]) dX8_stairsAt_3 rfl (by decide) rfl ?_
  refine mr_sub [(0, .ref v0), (1, .int v1), (2, .int (0 : Int32)), (3, .int (0 : Int32))] ⟨rfl, rfl, rfl, rfl, trivial⟩ rfl ?_
  refine ok_lp_X8_stairsAt_4 hR t0 (fun u6 h7 => ?_) FU _ _  h
  refine mr_iload_n (pc' := 36) dX8_stairsAt_35 rfl rfl ?_
  obtain rfl := Option.some.inj h7
  exact mr_ireturn dX8_stairsAt_36 rfl
