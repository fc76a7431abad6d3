def f_X5_isRoomForOne  (S : fS) : Option (Int32 × fS) :=
  if (S.1 38 3) < (60 : Int32) then ((some (pI S 38 3 ((S.1 38 3) + (1 : Int32)))).bind fun S2 =>
  some ((1 : Int32), S2)) else
  ((f_X7_fail (S.1 1 3) (3 : Int32) S).bind fun q5 =>
  (bZ q5.1).bind fun z8 => some (z8, q5.2))
set_option maxHeartbeats 4000000 in
set_option maxRecDepth 100000 in
theorem ok_X5_isRoomForOne {X : mm_C} {RR : Nat → Nat → Option Nat} (hR : RRok RR)   {S : fS} {r : Int32 × fS} (h : f_X5_isRoomForOne  S = some r) : mr X 1 mY_X5_isRoomForOne 0 (lv_args 0 [.ref 38]) [] (MM RR S) (some (.int r.1), MM RR r.2) := by
  unfold f_X5_isRoomForOne at h
  show mr X _ _ 0 [(0, .ref 38)] [] (MM RR S) _
  refine mr_aload_n (pc' := 1) dX5_isRoomForOne_0 rfl rfl ?_
  refine mr_getI (pc' := 4) (ci := 5) (j := 3) dX5_isRoomForOne_1 rfl rfl rfl (by decide) (by decide) rfl ?_
  refine mr_bipush (pc' := 6) (v := (60 : Int32)) dX5_isRoomForOne_4 rfl (by decide) ?_
  by_cases c1 : (S.1 38 3) < (60 : Int32)
  · rw [if_pos c1] at h
    refine mr_icmp_lt_t (t := 25) dX5_isRoomForOne_6 (by decide) c1 ?_
    refine mr_aload_n (pc' := 26) dX5_isRoomForOne_25 rfl rfl ?_
    refine mr_dup_ref (pc' := 27) dX5_isRoomForOne_26 rfl ?_
    refine mr_getI (pc' := 30) (ci := 5) (j := 3) dX5_isRoomForOne_27 rfl rfl rfl (by decide) (by decide) rfl ?_
    refine mr_iconst (pc' := 31) (v := (1 : Int32)) dX5_isRoomForOne_30 rfl (by decide) ?_
    refine mr_iadd (pc' := 32) dX5_isRoomForOne_31 rfl ?_
    obtain ⟨S2, g3, h4⟩ := Option.bind_eq_some_iff.mp h
    refine mr_putI (pc' := 35) (ci := 5) (j := 3) dX5_isRoomForOne_32 rfl rfl rfl (by decide) (by decide) rfl rfl ?_
    rw [Option.some.inj g3]
    refine mr_iconst (pc' := 36) (v := (1 : Int32)) dX5_isRoomForOne_35 rfl (by decide) ?_
    obtain rfl := Option.some.inj h4
    exact mr_zreturn dX5_isRoomForOne_36 rfl (by decide)
  · rw [if_neg c1] at h
    refine mr_icmp_lt_f (t := 25) (pc' := 9) dX5_isRoomForOne_6 (by decide) rfl c1 ?_
    refine mr_aload_n (pc' := 10) dX5_isRoomForOne_9 rfl rfl ?_
    refine mr_getR (pc' := 13) (ci := 5) (j := 0) (b := 1) hR dX5_isRoomForOne_10 rfl rfl rfl (by decide) (by decide) (by decide) rfl rfl ?_
    refine mr_aload_n (pc' := 14) dX5_isRoomForOne_13 rfl rfl ?_
    refine mr_getR (pc' := 17) (ci := 5) (j := 0) (b := 1) hR dX5_isRoomForOne_14 rfl rfl rfl (by decide) (by decide) (by decide) rfl rfl ?_
    refine mr_getI (pc' := 20) (ci := 7) (j := 3) dX5_isRoomForOne_17 rfl rfl rfl (by decide) (by decide) rfl ?_
    refine mr_iconst (pc' := 21) (v := (3 : Int32)) dX5_isRoomForOne_20 rfl (by decide) ?_
    obtain ⟨q5, g6, h7⟩ := Option.bind_eq_some_iff.mp h
    refine mr_cv (pc' := 24) (a := 1) (d1 := 0) dX5_isRoomForOne_21 rfl rfl rfl rfl rfl rfl (by decide) rfl (by decide) (ok_X7_fail hR  g6) ?_
    show mr X _ _ 24 _ [.int q5.1] (MM RR q5.2) _
    obtain ⟨z8, g9, h10⟩ := Option.bind_eq_some_iff.mp h7
    obtain ⟨g11, e12⟩ := mm_ifs g9
    cases e12
    cases h10
    exact mr_zreturn dX5_isRoomForOne_24 rfl g11
def f_X4_write (v0 : Nat) (v1 : Int32) (v2 : Int32) (S : fS) : Option (fS) :=
  if (400 : Int32) ≤ (S.1 v0 2) then (some S) else
  ((sI S (v0 + 1) 400 (S.1 v0 2) ((v2 <<< ((5 : Int32) &&& 31)) ||| v1)).bind fun S2 =>
  (some (pI S2 v0 2 ((S2.1 v0 2) + (1 : Int32)))).bind fun S5 =>
  some S5)
set_option maxHeartbeats 4000000 in
set_option maxRecDepth 100000 in
theorem ok_X4_write {X : mm_C} {RR : Nat → Nat → Option Nat} (hR : RRok RR) {v0 : Nat} {v1 : Int32} {v2 : Int32} (t0 : tg v0 = 4) {S : fS} {r : fS} (h : f_X4_write v0 v1 v2 S = some r) : mr X 0 mY_X4_write 0 (lv_args 0 [.ref v0, .int v1, .int v2]) [] (MM RR S) (none, MM RR r) := by
  unfold f_X4_write at h
  show mr X _ _ 0 [(0, .ref v0), (1, .int v1), (2, .int v2)] [] (MM RR S) _
  refine mr_aload_n (pc' := 1) dX4_write_0 rfl rfl ?_
  refine mr_getI (pc' := 4) (ci := 4) (j := 2) dX4_write_1 rfl rfl t0 (by decide) (by decide) rfl ?_
  refine mr_sipush (pc' := 7) (v := (400 : Int32)) dX4_write_4 rfl (by decide) ?_
  by_cases c1 : (400 : Int32) ≤ (S.1 v0 2)
  · rw [if_pos c1] at h
    refine mr_icmp_ge_t (t := 34) dX4_write_7 (by decide) c1 ?_
    obtain rfl := Option.some.inj h
    exact mr_return dX4_write_34 rfl
  · rw [if_neg c1] at h
    refine mr_icmp_ge_f (t := 34) (pc' := 10) dX4_write_7 (by decide) rfl c1 ?_
    refine mr_aload_n (pc' := 11) dX4_write_10 rfl rfl ?_
    refine mr_getR (pc' := 14) (ci := 4) (j := 0) (b := (v0 + 1)) hR dX4_write_11 rfl rfl t0 (by decide) (by decide) (by decide) rfl (ly4_0 t0).1 ?_
    refine mr_aload_n (pc' := 15) dX4_write_14 rfl rfl ?_
    refine mr_getI (pc' := 18) (ci := 4) (j := 2) dX4_write_15 rfl rfl t0 (by decide) (by decide) rfl ?_
    refine mr_iload_n (pc' := 19) dX4_write_18 rfl rfl ?_
    refine mr_iconst (pc' := 20) (v := (5 : Int32)) dX4_write_19 rfl (by decide) ?_
    refine mr_ishl (pc' := 21) dX4_write_20 rfl ?_
    refine mr_iload_n (pc' := 22) dX4_write_21 rfl rfl ?_
    refine mr_ior (pc' := 23) dX4_write_22 rfl ?_
    obtain ⟨S2, g3, h4⟩ := Option.bind_eq_some_iff.mp h
    refine mr_iast (pc' := 24) dX4_write_23 rfl (ly4_0 t0).2.1 (ly4_0 t0).2.2 g3 ?_
    refine mr_aload_n (pc' := 25) dX4_write_24 rfl rfl ?_
    refine mr_dup_ref (pc' := 26) dX4_write_25 rfl ?_
    refine mr_getI (pc' := 29) (ci := 4) (j := 2) dX4_write_26 rfl rfl t0 (by decide) (by decide) rfl ?_
    refine mr_iconst (pc' := 30) (v := (1 : Int32)) dX4_write_29 rfl (by decide) ?_
    refine mr_iadd (pc' := 31) dX4_write_30 rfl ?_
    obtain ⟨S5, g6, h7⟩ := Option.bind_eq_some_iff.mp h4
    refine mr_putI (pc' := 34) (ci := 4) (j := 2) dX4_write_31 rfl rfl t0 (by decide) (by decide) rfl rfl ?_
    rw [Option.some.inj g6]
    obtain rfl := Option.some.inj h7
    exact mr_return dX4_write_34 rfl
def f_X5_readValue  (S : fS) : Option (Int32 × fS) :=
  (f_X7_skipBlanks  S).bind fun q1 =>
  (f_X7_isDigitAt (q1.1 1 2) q1).bind fun q4 =>
  if q4 = (0 : Int32) then ((f_X5_takeName  q1).bind fun q8 =>
  if (0 : Int32) ≤ q8.1 then (if (0 : Int32) ≤ q8.1 then ((f_X5_isRoomForOne  q8.2).bind fun q13 =>
  if q13.1 = (0 : Int32) then (some ((0 : Int32), q13.2)) else
  (if q4 = (0 : Int32) then ((f_X4_write 40 (3 : Int32) q8.1 q13.2).bind fun q18 =>
  some ((1 : Int32), q18)) else
  ((f_X4_write 40 (2 : Int32) q8.1 q13.2).bind fun q21 =>
  some ((1 : Int32), q21)))) else
  (some ((0 : Int32), q8.2))) else
  (if q4 = (0 : Int32) then ((f_X7_fail (q8.2.1 1 2) (0 : Int32) q8.2).bind fun q37 =>
  (bZ q37.1).bind fun z40 => some (z40, q37.2)) else
  (if (0 : Int32) ≤ q8.1 then ((f_X5_isRoomForOne  q8.2).bind fun q26 =>
  if q26.1 = (0 : Int32) then (some ((0 : Int32), q26.2)) else
  (if q4 = (0 : Int32) then ((f_X4_write 40 (3 : Int32) q8.1 q26.2).bind fun q31 =>
  some ((1 : Int32), q31)) else
  ((f_X4_write 40 (2 : Int32) q8.1 q26.2).bind fun q34 =>
  some ((1 : Int32), q34)))) else
  (some ((0 : Int32), q8.2))))) else
  ((f_X7_takeNumber (0 : Int32) (99999 : Int32) q1).bind fun q45 =>
  if (0 : Int32) ≤ q45.1 then (if (0 : Int32) ≤ q45.1 then ((f_X5_isRoomForOne  q45.2).bind fun q50 =>
  if q50.1 = (0 : Int32) then (some ((0 : Int32), q50.2)) else
  (if q4 = (0 : Int32) then ((f_X4_write 40 (3 : Int32) q45.1 q50.2).bind fun q55 =>
  some ((1 : Int32), q55)) else
  ((f_X4_write 40 (2 : Int32) q45.1 q50.2).bind fun q58 =>
  some ((1 : Int32), q58)))) else
  (some ((0 : Int32), q45.2))) else
  (if q4 = (0 : Int32) then ((f_X7_fail (q45.2.1 1 2) (0 : Int32) q45.2).bind fun q74 =>
  (bZ q74.1).bind fun z77 => some (z77, q74.2)) else
  (if (0 : Int32) ≤ q45.1 then ((f_X5_isRoomForOne  q45.2).bind fun q63 =>
  if q63.1 = (0 : Int32) then (some ((0 : Int32), q63.2)) else
  (if q4 = (0 : Int32) then ((f_X4_write 40 (3 : Int32) q45.1 q63.2).bind fun q68 =>
  some ((1 : Int32), q68)) else
  ((f_X4_write 40 (2 : Int32) q45.1 q63.2).bind fun q71 =>
  some ((1 : Int32), q71)))) else
  (some ((0 : Int32), q45.2)))))
set_option maxHeartbeats 4000000 in
set_option maxRecDepth 100000 in
theorem ok_X5_readValue {X : mm_C} {RR : Nat → Nat → Option Nat} (hR : RRok RR)   {S : fS} {r : Int32 × fS} (h : f_X5_readValue  S = some r) : mr X 6 mY_X5_readValue 0 (lv_args 0 [.ref 38]) [] (MM RR S) (some (.int r.1), MM RR r.2) := by
  unfold f_X5_readValue at h
  show mr X _ _ 0 [(0, .ref 38)] [] (MM RR S) _
  refine mr_aload_n (pc' := 1) dX5_readValue_0 rfl rfl ?_
  refine mr_getR (pc' := 4) (ci := 5) (j := 0) (b := 1) hR dX5_readValue_1 rfl rfl rfl (by decide) (by decide) (by decide) rfl rfl ?_
  obtain ⟨q1, g2, h3⟩ := Option.bind_eq_some_iff.mp h
  refine mr_cv (pc' := 7) (a := 1) (d1 := 0) dX5_readValue_4 rfl rfl rfl rfl rfl rfl (by decide) rfl (by decide) (ok_X7_skipBlanks hR  g2) ?_
  show mr X _ _ 7 _ [] (MM RR q1) _
  refine mr_aload_n (pc' := 8) dX5_readValue_7 rfl rfl ?_
  refine mr_getR (pc' := 11) (ci := 5) (j := 0) (b := 1) hR dX5_readValue_8 rfl rfl rfl (by decide) (by decide) (by decide) rfl rfl ?_
  refine mr_aload_n (pc' := 12) dX5_readValue_11 rfl rfl ?_
  refine mr_getR (pc' := 15) (ci := 5) (j := 0) (b := 1) hR dX5_readValue_12 rfl rfl rfl (by decide) (by decide) (by decide) rfl rfl ?_
  refine mr_getI (pc' := 18) (ci := 7) (j := 2) dX5_readValue_15 rfl rfl rfl (by decide) (by decide) rfl ?_
  obtain ⟨q4, g5, h6⟩ := Option.bind_eq_some_iff.mp h3
  refine mr_cv (pc' := 21) (a := 1) (d1 := 1) dX5_readValue_18 rfl rfl rfl rfl rfl rfl (by decide) rfl (by decide) (ok_X7_isDigitAt hR  g5) ?_
  show mr X _ _ 21 _ [.int q4] (MM RR q1) _
  refine mr_istore_n (pc' := 22) (lv' := [(1, .int q4), (0, .ref 38)]) dX5_readValue_21 rfl (by decide) rfl ?_
  refine mr_iload_n (pc' := 23) dX5_readValue_22 rfl rfl ?_
  by_cases c7 : q4 = (0 : Int32)
  · rw [if_pos c7] at h6
    refine mr_if_eq_t (t := 39) dX5_readValue_23 (by decide) c7 ?_
    refine mr_aload_n (pc' := 40) dX5_readValue_39 rfl rfl ?_
    obtain ⟨q8, g9, h10⟩ := Option.bind_eq_some_iff.mp h6
    refine mr_cv (pc' := 43) (a := 38) (d1 := 5) dX5_readValue_40 rfl rfl rfl rfl rfl rfl (by decide) rfl (by decide) (ok_X5_takeName hR  g9) ?_
    show mr X _ _ 43 _ [.int q8.1] (MM RR q8.2) _
    refine mr_istore_n (pc' := 44) (lv' := [(2, .int q8.1), (1, .int q4), (0, .ref 38)]) dX5_readValue_43 rfl (by decide) rfl ?_
    refine mr_iload_n (pc' := 45) dX5_readValue_44 rfl rfl ?_
    by_cases c11 : (0 : Int32) ≤ q8.1
    · rw [if_pos c11] at h10
      refine mr_if_ge_t (t := 68) dX5_readValue_45 (by decide) c11 ?_
      refine mr_iload_n (pc' := 69) dX5_readValue_68 rfl rfl ?_
      by_cases c12 : (0 : Int32) ≤ q8.1
      · rw [if_pos c12] at h10
        refine mr_if_ge_t (t := 74) dX5_readValue_69 (by decide) c12 ?_
        refine mr_aload_n (pc' := 75) dX5_readValue_74 rfl rfl ?_
        obtain ⟨q13, g14, h15⟩ := Option.bind_eq_some_iff.mp h10
        refine mr_cv (pc' := 78) (a := 38) (d1 := 1) dX5_readValue_75 rfl rfl rfl rfl rfl rfl (by decide) rfl (by decide) (ok_X5_isRoomForOne hR  g14) ?_
        show mr X _ _ 78 _ [.int q13.1] (MM RR q13.2) _
        by_cases c16 : q13.1 = (0 : Int32)
        · rw [if_pos c16] at h15
          refine mr_if_ne_f (t := 83) (pc' := 81) dX5_readValue_78 (by decide) rfl (not_not_intro c16) ?_
          refine mr_iconst (pc' := 82) (v := (0 : Int32)) dX5_readValue_81 rfl (by decide) ?_
          obtain rfl := Option.some.inj h15
          exact mr_zreturn dX5_readValue_82 rfl (by decide)
        · rw [if_neg c16] at h15
          refine mr_if_ne_t (t := 83) dX5_readValue_78 (by decide) c16 ?_
          refine mr_aload_n (pc' := 84) dX5_readValue_83 rfl rfl ?_
          refine mr_getR (pc' := 87) (ci := 5) (j := 2) (b := 40) hR dX5_readValue_84 rfl rfl rfl (by decide) (by decide) (by decide) rfl rfl ?_
          refine mr_iload_n (pc' := 88) dX5_readValue_87 rfl rfl ?_
          by_cases c17 : q4 = (0 : Int32)
          · rw [if_pos c17] at h15
            refine mr_if_eq_t (t := 95) dX5_readValue_88 (by decide) c17 ?_
            refine mr_iconst (pc' := 96) (v := (3 : Int32)) dX5_readValue_95 rfl (by decide) ?_
            refine mr_iload_n (pc' := 97) dX5_readValue_96 rfl rfl ?_
            obtain ⟨q18, g19, h20⟩ := Option.bind_eq_some_iff.mp h15
            refine mr_cv (pc' := 100) (a := 40) (d1 := 0) dX5_readValue_97 rfl rfl rfl rfl rfl rfl (by decide) rfl (by decide) (ok_X4_write hR rfl g19) ?_
            show mr X _ _ 100 _ [] (MM RR q18) _
            refine mr_iconst (pc' := 101) (v := (1 : Int32)) dX5_readValue_100 rfl (by decide) ?_
            obtain rfl := Option.some.inj h20
            exact mr_zreturn dX5_readValue_101 rfl (by decide)
          · rw [if_neg c17] at h15
            refine mr_if_eq_f (t := 95) (pc' := 91) dX5_readValue_88 (by decide) rfl c17 ?_
            refine mr_iconst (pc' := 92) (v := (2 : Int32)) dX5_readValue_91 rfl (by decide) ?_
            refine mr_goto (t := 96) dX5_readValue_92 (by decide) ?_
            refine mr_iload_n (pc' := 97) dX5_readValue_96 rfl rfl ?_
            obtain ⟨q21, g22, h23⟩ := Option.bind_eq_some_iff.mp h15
            refine mr_cv (pc' := 100) (a := 40) (d1 := 0) dX5_readValue_97 rfl rfl rfl rfl rfl rfl (by decide) rfl (by decide) (ok_X4_write hR rfl g22) ?_
            show mr X _ _ 100 _ [] (MM RR q21) _
            refine mr_iconst (pc' := 101) (v := (1 : Int32)) dX5_readValue_100 rfl (by decide) ?_
            obtain rfl := Option.some.inj h23
            exact mr_zreturn dX5_readValue_101 rfl (by decide)
      · rw [if_neg c12] at h10
        refine mr_if_ge_f (t := 74) (pc' := 72) dX5_readValue_69 (by decide) rfl c12 ?_
        refine mr_iconst (pc' := 73) (v := (0 : Int32)) dX5_readValue_72 rfl (by decide) ?_
        obtain rfl := Option.some.inj h10
        exact mr_zreturn dX5_readValue_73 rfl (by decide)
    · rw [if_neg c11] at h10
      refine mr_if_ge_f (t := 68) (pc' := 48) dX5_readValue_45 (by decide) rfl c11 ?_
      refine mr_iload_n (pc' := 49) dX5_readValue_48 rfl rfl ?_
      by_cases c24 : q4 = (0 : Int32)
      · rw [if_pos c24] at h10
        refine mr_if_ne_f (t := 68) (pc' := 52) dX5_readValue_49 (by decide) rfl (not_not_intro c24) ?_
        refine mr_aload_n (pc' := 53) dX5_readValue_52 rfl rfl ?_
        refine mr_getR (pc' := 56) (ci := 5) (j := 0) (b := 1) hR dX5_readValue_53 rfl rfl rfl (by decide) (by decide) (by decide) rfl rfl ?_
        refine mr_aload_n (pc' := 57) dX5_readValue_56 rfl rfl ?_
        refine mr_getR (pc' := 60) (ci := 5) (j := 0) (b := 1) hR dX5_readValue_57 rfl rfl rfl (by decide) (by decide) (by decide) rfl rfl ?_
        refine mr_getI (pc' := 63) (ci := 7) (j := 2) dX5_readValue_60 rfl rfl rfl (by decide) (by decide) rfl ?_
        refine mr_iconst (pc' := 64) (v := (0 : Int32)) dX5_readValue_63 rfl (by decide) ?_
        obtain ⟨q37, g38, h39⟩ := Option.bind_eq_some_iff.mp h10
        refine mr_cv (pc' := 67) (a := 1) (d1 := 0) dX5_readValue_64 rfl rfl rfl rfl rfl rfl (by decide) rfl (by decide) (ok_X7_fail hR  g38) ?_
        show mr X _ _ 67 _ [.int q37.1] (MM RR q37.2) _
        obtain ⟨z40, g41, h42⟩ := Option.bind_eq_some_iff.mp h39
        obtain ⟨g43, e44⟩ := mm_ifs g41
        cases e44
        cases h42
        exact mr_zreturn dX5_readValue_67 rfl g43
      · rw [if_neg c24] at h10
        refine mr_if_ne_t (t := 68) dX5_readValue_49 (by decide) c24 ?_
        refine mr_iload_n (pc' := 69) dX5_readValue_68 rfl rfl ?_
        by_cases c25 : (0 : Int32) ≤ q8.1
        · rw [if_pos c25] at h10
          refine mr_if_ge_t (t := 74) dX5_readValue_69 (by decide) c25 ?_
          refine mr_aload_n (pc' := 75) dX5_readValue_74 rfl rfl ?_
          obtain ⟨q26, g27, h28⟩ := Option.bind_eq_some_iff.mp h10
          refine mr_cv (pc' := 78) (a := 38) (d1 := 1) dX5_readValue_75 rfl rfl rfl rfl rfl rfl (by decide) rfl (by decide) (ok_X5_isRoomForOne hR  g27) ?_
          show mr X _ _ 78 _ [.int q26.1] (MM RR q26.2) _
          by_cases c29 : q26.1 = (0 : Int32)
          · rw [if_pos c29] at h28
            refine mr_if_ne_f (t := 83) (pc' := 81) dX5_readValue_78 (by decide) rfl (not_not_intro c29) ?_
            refine mr_iconst (pc' := 82) (v := (0 : Int32)) dX5_readValue_81 rfl (by decide) ?_
            obtain rfl := Option.some.inj h28
            exact mr_zreturn dX5_readValue_82 rfl (by decide)
          · rw [if_neg c29] at h28
            refine mr_if_ne_t (t := 83) dX5_readValue_78 (by decide) c29 ?_
            refine mr_aload_n (pc' := 84) dX5_readValue_83 rfl rfl ?_
            refine mr_getR (pc' := 87) (ci := 5) (j := 2) (b := 40) hR dX5_readValue_84 rfl rfl rfl (by decide) (by decide) (by decide) rfl rfl ?_
            refine mr_iload_n (pc' := 88) dX5_readValue_87 rfl rfl ?_
            by_cases c30 : q4 = (0 : Int32)
            · rw [if_pos c30] at h28
              refine mr_if_eq_t (t := 95) dX5_readValue_88 (by decide) c30 ?_
              refine mr_iconst (pc' := 96) (v := (3 : Int32)) dX5_readValue_95 rfl (by decide) ?_
              refine mr_iload_n (pc' := 97) dX5_readValue_96 rfl rfl ?_
              obtain ⟨q31, g32, h33⟩ := Option.bind_eq_some_iff.mp h28
              refine mr_cv (pc' := 100) (a := 40) (d1 := 0) dX5_readValue_97 rfl rfl rfl rfl rfl rfl (by decide) rfl (by decide) (ok_X4_write hR rfl g32) ?_
              show mr X _ _ 100 _ [] (MM RR q31) _
              refine mr_iconst (pc' := 101) (v := (1 : Int32)) dX5_readValue_100 rfl (by decide) ?_
              obtain rfl := Option.some.inj h33
              exact mr_zreturn dX5_readValue_101 rfl (by decide)
            · rw [if_neg c30] at h28
              refine mr_if_eq_f (t := 95) (pc' := 91) dX5_readValue_88 (by decide) rfl c30 ?_
              refine mr_iconst (pc' := 92) (v := (2 : Int32)) dX5_readValue_91 rfl (by decide) ?_
              refine mr_goto (t := 96) dX5_readValue_92 (by decide) ?_
              refine mr_iload_n (pc' := 97) dX5_readValue_96 rfl rfl ?_
              obtain ⟨q34, g35, h36⟩ := Option.bind_eq_some_iff.mp h28
              refine mr_cv (pc' := 100) (a := 40) (d1 := 0) dX5_readValue_97 rfl rfl rfl rfl rfl rfl (by decide) rfl (by decide) (ok_X4_write hR rfl g35) ?_
              show mr X _ _ 100 _ [] (MM RR q34) _
              refine mr_iconst (pc' := 101) (v := (1 : Int32)) dX5_readValue_100 rfl (by decide) ?_
              obtain rfl := Option.some.inj h36
              exact mr_zreturn dX5_readValue_101 rfl (by decide)
        · rw [if_neg c25] at h10
          refine mr_if_ge_f (t := 74) (pc' := 72) dX5_readValue_69 (by decide) rfl c25 ?_
          refine mr_iconst (pc' := 73) (v := (0 : Int32)) dX5_readValue_72 rfl (by decide) ?_
          obtain rfl := Option.some.inj h10
          exact mr_zreturn dX5_readValue_73 rfl (by decide)
  · rw [if_neg c7] at h6
    refine mr_if_eq_f (t := 39) (pc' := 26) dX5_readValue_23 (by decide) rfl c7 ?_
    refine mr_aload_n (pc' := 27) dX5_readValue_26 rfl rfl ?_
    refine mr_getR (pc' := 30) (ci := 5) (j := 0) (b := 1) hR dX5_readValue_27 rfl rfl rfl (by decide) (by decide) (by decide) rfl rfl ?_
    refine mr_iconst (pc' := 31) (v := (0 : Int32)) dX5_readValue_30 rfl (by decide) ?_
    refine mr_ldc (pc' := 33) (v := (99999 : Int32)) dX5_readValue_31 rfl rfl ?_
    obtain ⟨q45, g46, h47⟩ := Option.bind_eq_some_iff.mp h6
    refine mr_cv (pc' := 36) (a := 1) (d1 := 2) dX5_readValue_33 rfl rfl rfl rfl rfl rfl (by decide) rfl (by decide) (ok_X7_takeNumber hR  g46) ?_
    show mr X _ _ 36 _ [.int q45.1] (MM RR q45.2) _
    refine mr_goto (t := 43) dX5_readValue_36 (by decide) ?_
    refine mr_istore_n (pc' := 44) (lv' := [(2, .int q45.1), (1, .int q4), (0, .ref 38)]) dX5_readValue_43 rfl (by decide) rfl ?_
    refine mr_iload_n (pc' := 45) dX5_readValue_44 rfl rfl ?_
    by_cases c48 : (0 : Int32) ≤ q45.1
    · rw [if_pos c48] at h47
      refine mr_if_ge_t (t := 68) dX5_readValue_45 (by decide) c48 ?_
      refine mr_iload_n (pc' := 69) dX5_readValue_68 rfl rfl ?_
      by_cases c49 : (0 : Int32) ≤ q45.1
      · rw [if_pos c49] at h47
        refine mr_if_ge_t (t := 74) dX5_readValue_69 (by decide) c49 ?_
        refine mr_aload_n (pc' := 75) dX5_readValue_74 rfl rfl ?_
        obtain ⟨q50, g51, h52⟩ := Option.bind_eq_some_iff.mp h47
        refine mr_cv (pc' := 78) (a := 38) (d1 := 1) dX5_readValue_75 rfl rfl rfl rfl rfl rfl (by decide) rfl (by decide) (ok_X5_isRoomForOne hR  g51) ?_
        show mr X _ _ 78 _ [.int q50.1] (MM RR q50.2) _
        by_cases c53 : q50.1 = (0 : Int32)
        · rw [if_pos c53] at h52
          refine mr_if_ne_f (t := 83) (pc' := 81) dX5_readValue_78 (by decide) rfl (not_not_intro c53) ?_
          refine mr_iconst (pc' := 82) (v := (0 : Int32)) dX5_readValue_81 rfl (by decide) ?_
          obtain rfl := Option.some.inj h52
          exact mr_zreturn dX5_readValue_82 rfl (by decide)
        · rw [if_neg c53] at h52
          refine mr_if_ne_t (t := 83) dX5_readValue_78 (by decide) c53 ?_
          refine mr_aload_n (pc' := 84) dX5_readValue_83 rfl rfl ?_
          refine mr_getR (pc' := 87) (ci := 5) (j := 2) (b := 40) hR dX5_readValue_84 rfl rfl rfl (by decide) (by decide) (by decide) rfl rfl ?_
          refine mr_iload_n (pc' := 88) dX5_readValue_87 rfl rfl ?_
          by_cases c54 : q4 = (0 : Int32)
          · rw [if_pos c54] at h52
            refine mr_if_eq_t (t := 95) dX5_readValue_88 (by decide) c54 ?_
            refine mr_iconst (pc' := 96) (v := (3 : Int32)) dX5_readValue_95 rfl (by decide) ?_
            refine mr_iload_n (pc' := 97) dX5_readValue_96 rfl rfl ?_
            obtain ⟨q55, g56, h57⟩ := Option.bind_eq_some_iff.mp h52
            refine mr_cv (pc' := 100) (a := 40) (d1 := 0) dX5_readValue_97 rfl rfl rfl rfl rfl rfl (by decide) rfl (by decide) (ok_X4_write hR rfl g56) ?_
            show mr X _ _ 100 _ [] (MM RR q55) _
            refine mr_iconst (pc' := 101) (v := (1 : Int32)) dX5_readValue_100 rfl (by decide) ?_
            obtain rfl := Option.some.inj h57
            exact mr_zreturn dX5_readValue_101 rfl (by decide)
          · rw [if_neg c54] at h52
            refine mr_if_eq_f (t := 95) (pc' := 91) dX5_readValue_88 (by decide) rfl c54 ?_
            refine mr_iconst (pc' := 92) (v := (2 : Int32)) dX5_readValue_91 rfl (by decide) ?_
            refine mr_goto (t := 96) dX5_readValue_92 (by decide) ?_
            refine mr_iload_n (pc' := 97) dX5_readValue_96 rfl rfl ?_
            obtain ⟨q58, g59, h60⟩ := Option.bind_eq_some_iff.mp h52
            refine mr_cv (pc' := 100) (a := 40) (d1 := 0) dX5_readValue_97 rfl rfl rfl rfl rfl rfl (by decide) rfl (by decide) (ok_X4_write hR rfl g59) ?_
            show mr X _ _ 100 _ [] (MM RR q58) _
            refine mr_iconst (pc' := 101) (v := (1 : Int32)) dX5_readValue_100 rfl (by decide) ?_
            obtain rfl := Option.some.inj h60
            exact mr_zreturn dX5_readValue_101 rfl (by decide)
      · rw [if_neg c49] at h47
        refine mr_if_ge_f (t := 74) (pc' := 72) dX5_readValue_69 (by decide) rfl c49 ?_
        refine mr_iconst (pc' := 73) (v := (0 : Int32)) dX5_readValue_72 rfl (by decide) ?_
        obtain rfl := Option.some.inj h47
        exact mr_zreturn dX5_readValue_73 rfl (by decide)
    · rw [if_neg c48] at h47
      refine mr_if_ge_f (t := 68) (pc' := 48) dX5_readValue_45 (by decide) rfl c48 ?_
      refine mr_iload_n (pc' := 49) dX5_readValue_48 rfl rfl ?_
      by_cases c61 : q4 = (0 : Int32)
      · rw [if_pos c61] at h47
        refine mr_if_ne_f (t := 68) (pc' := 52) dX5_readValue_49 (by decide) rfl (not_not_intro c61) ?_
        refine mr_aload_n (pc' := 53) dX5_readValue_52 rfl rfl ?_
        refine mr_getR (pc' := 56) (ci := 5) (j := 0) (b := 1) hR dX5_readValue_53 rfl rfl rfl (by decide) (by decide) (by decide) rfl rfl ?_
        refine mr_aload_n (pc' := 57) dX5_readValue_56 rfl rfl ?_
        refine mr_getR (pc' := 60) (ci := 5) (j := 0) (b := 1) hR dX5_readValue_57 rfl rfl rfl (by decide) (by decide) (by decide) rfl rfl ?_
        refine mr_getI (pc' := 63) (ci := 7) (j := 2) dX5_readValue_60 rfl rfl rfl (by decide) (by decide) rfl ?_
        refine mr_iconst (pc' := 64) (v := (0 : Int32)) dX5_readValue_63 rfl (by decide) ?_
        obtain ⟨q74, g75, h76⟩ := Option.bind_eq_some_iff.mp h47
        refine mr_cv (pc' := 67) (a := 1) (d1 := 0) dX5_readValue_64 rfl rfl rfl rfl rfl rfl (by decide) rfl (by decide) (ok_X7_fail hR  g75) ?_
        show mr X _ _ 67 _ [.int q74.1] (MM RR q74.2) _
        obtain ⟨z77, g78, h79⟩ := Option.bind_eq_some_iff.mp h76
        obtain ⟨g80, e81⟩ := mm_ifs g78
        cases e81
        cases h79
        exact mr_zreturn dX5_readValue_67 rfl g80
      · rw [if_neg c61] at h47
        refine mr_if_ne_t (t := 68) dX5_readValue_49 (by decide) c61 ?_
        refine mr_iload_n (pc' := 69) dX5_readValue_68 rfl rfl ?_
        by_cases c62 : (0 : Int32) ≤ q45.1
        · rw [if_pos c62] at h47
          refine mr_if_ge_t (t := 74) dX5_readValue_69 (by decide) c62 ?_
          refine mr_aload_n (pc' := 75) dX5_readValue_74 rfl rfl ?_
          obtain ⟨q63, g64, h65⟩ := Option.bind_eq_some_iff.mp h47
          refine mr_cv (pc' := 78) (a := 38) (d1 := 1) dX5_readValue_75 rfl rfl rfl rfl rfl rfl (by decide) rfl (by decide) (ok_X5_isRoomForOne hR  g64) ?_
          show mr X _ _ 78 _ [.int q63.1] (MM RR q63.2) _
          by_cases c66 : q63.1 = (0 : Int32)
          · rw [if_pos c66] at h65
            refine mr_if_ne_f (t := 83) (pc' := 81) dX5_readValue_78 (by decide) rfl (not_not_intro c66) ?_
            refine mr_iconst (pc' := 82) (v := (0 : Int32)) dX5_readValue_81 rfl (by decide) ?_
            obtain rfl := Option.some.inj h65
            exact mr_zreturn dX5_readValue_82 rfl (by decide)
          · rw [if_neg c66] at h65
            refine mr_if_ne_t (t := 83) dX5_readValue_78 (by decide) c66 ?_
            refine mr_aload_n (pc' := 84) dX5_readValue_83 rfl rfl ?_
            refine mr_getR (pc' := 87) (ci := 5) (j := 2) (b := 40) hR dX5_readValue_84 rfl rfl rfl (by decide) (by decide) (by decide) rfl rfl ?_
            refine mr_iload_n (pc' := 88) dX5_readValue_87 rfl rfl ?_
            by_cases c67 : q4 = (0 : Int32)
            · rw [if_pos c67] at h65
              refine mr_if_eq_t (t := 95) dX5_readValue_88 (by decide) c67 ?_
              refine mr_iconst (pc' := 96) (v := (3 : Int32)) dX5_readValue_95 rfl (by decide) ?_
              refine mr_iload_n (pc' := 97) dX5_readValue_96 rfl rfl ?_
              obtain ⟨q68, g69, h70⟩ := Option.bind_eq_some_iff.mp h65
              refine mr_cv (pc' := 100) (a := 40) (d1 := 0) dX5_readValue_97 rfl rfl rfl rfl rfl rfl (by decide) rfl (by decide) (ok_X4_write hR rfl g69) ?_
              show mr X _ _ 100 _ [] (MM RR q68) _
              refine mr_iconst (pc' := 101) (v := (1 : Int32)) dX5_readValue_100 rfl (by decide) ?_
              obtain rfl := Option.some.inj h70
              exact mr_zreturn dX5_readValue_101 rfl (by decide)
            · rw [if_neg c67] at h65
              refine mr_if_eq_f (t := 95) (pc' := 91) dX5_readValue_88 (by decide) rfl c67 ?_
              refine mr_iconst (pc' := 92) (v := (2 : Int32)) dX5_readValue_91 rfl (by decide) ?_
              refine mr_goto (t := 96) dX5_readValue_92 (by decide) ?_
              refine mr_iload_n (pc' := 97) dX5_readValue_96 rfl rfl ?_
              obtain ⟨q71, g72, h73⟩ := Option.bind_eq_some_iff.mp h65
              refine mr_cv (pc' := 100) (a := 40) (d1 := 0) dX5_readValue_97 rfl rfl rfl rfl rfl rfl (by decide) rfl (by decide) (ok_X4_write hR rfl g72) ?_
              show mr X _ _ 100 _ [] (MM RR q71) _
              refine mr_iconst (pc' := 101) (v := (1 : Int32)) dX5_readValue_100 rfl (by decide) ?_
              obtain rfl := Option.some.inj h73
              exact mr_zreturn dX5_readValue_101 rfl (by decide)
        · rw [if_neg c62] at h47
          refine mr_if_ge_f (t := 74) (pc' := 72) dX5_readValue_69 (by decide) rfl c62 ?_
          refine mr_iconst (pc' := 73) (v := (0 : Int32)) dX5_readValue_72 rfl (by decide) ?_
          obtain rfl := Option.some.inj h47
          exact mr_zreturn dX5_readValue_73 rfl (by decide)
def f_X5_takeReckoning  (S : fS) : Option (Int32 × fS) :=
  (f_X7_takeSign (43 : Int32) S).bind fun q1 =>
  if q1.1 = (0 : Int32) then ((f_X7_takeSign (45 : Int32) q1.2).bind fun q5 =>
  if q5.1 = (0 : Int32) then ((f_X7_takeSign (42 : Int32) q5.2).bind fun q9 =>
  if q9.1 = (0 : Int32) then ((f_X7_takeSign (47 : Int32) q9.2).bind fun q13 =>
  if q13.1 = (0 : Int32) then (some ((-1 : Int32), q13.2)) else
  (some ((10 : Int32), q13.2))) else
  (some ((9 : Int32), q9.2))) else
  (some ((8 : Int32), q5.2))) else
  (some ((7 : Int32), q1.2))
set_option maxHeartbeats 4000000 in
set_option maxRecDepth 100000 in
theorem ok_X5_takeReckoning {X : mm_C} {RR : Nat → Nat → Option Nat} (hR : RRok RR)   {S : fS} {r : Int32 × fS} (h : f_X5_takeReckoning  S = some r) : mr X 2 mY_X5_takeReckoning 0 (lv_args 0 [.ref 38]) [] (MM RR S) (some (.int r.1), MM RR r.2) := by
  unfold f_X5_takeReckoning at h
  show mr X _ _ 0 [(0, .ref 38)] [] (MM RR S) _
  refine mr_aload_n (pc' := 1) dX5_takeReckoning_0 rfl rfl ?_
  refine mr_getR (pc' := 4) (ci := 5) (j := 0) (b := 1) hR dX5_takeReckoning_1 rfl rfl rfl (by decide) (by decide) (by decide) rfl rfl ?_
  refine mr_bipush (pc' := 6) (v := (43 : Int32)) dX5_takeReckoning_4 rfl (by decide) ?_
  obtain ⟨q1, g2, h3⟩ := Option.bind_eq_some_iff.mp h
  refine mr_cv (pc' := 9) (a := 1) (d1 := 1) dX5_takeReckoning_6 rfl rfl rfl rfl rfl rfl (by decide) rfl (by decide) (ok_X7_takeSign hR  g2) ?_
  show mr X _ _ 9 _ [.int q1.1] (MM RR q1.2) _
  by_cases c4 : q1.1 = (0 : Int32)
  · rw [if_pos c4] at h3
    refine mr_if_eq_t (t := 15) dX5_takeReckoning_9 (by decide) c4 ?_
    refine mr_aload_n (pc' := 16) dX5_takeReckoning_15 rfl rfl ?_
    refine mr_getR (pc' := 19) (ci := 5) (j := 0) (b := 1) hR dX5_takeReckoning_16 rfl rfl rfl (by decide) (by decide) (by decide) rfl rfl ?_
    refine mr_bipush (pc' := 21) (v := (45 : Int32)) dX5_takeReckoning_19 rfl (by decide) ?_
    obtain ⟨q5, g6, h7⟩ := Option.bind_eq_some_iff.mp h3
    refine mr_cv (pc' := 24) (a := 1) (d1 := 1) dX5_takeReckoning_21 rfl rfl rfl rfl rfl rfl (by decide) rfl (by decide) (ok_X7_takeSign hR  g6) ?_
    show mr X _ _ 24 _ [.int q5.1] (MM RR q5.2) _
    by_cases c8 : q5.1 = (0 : Int32)
    · rw [if_pos c8] at h7
      refine mr_if_eq_t (t := 30) dX5_takeReckoning_24 (by decide) c8 ?_
      refine mr_aload_n (pc' := 31) dX5_takeReckoning_30 rfl rfl ?_
      refine mr_getR (pc' := 34) (ci := 5) (j := 0) (b := 1) hR dX5_takeReckoning_31 rfl rfl rfl (by decide) (by decide) (by decide) rfl rfl ?_
      refine mr_bipush (pc' := 36) (v := (42 : Int32)) dX5_takeReckoning_34 rfl (by decide) ?_
      obtain ⟨q9, g10, h11⟩ := Option.bind_eq_some_iff.mp h7
      refine mr_cv (pc' := 39) (a := 1) (d1 := 1) dX5_takeReckoning_36 rfl rfl rfl rfl rfl rfl (by decide) rfl (by decide) (ok_X7_takeSign hR  g10) ?_
      show mr X _ _ 39 _ [.int q9.1] (MM RR q9.2) _
      by_cases c12 : q9.1 = (0 : Int32)
      · rw [if_pos c12] at h11
        refine mr_if_eq_t (t := 45) dX5_takeReckoning_39 (by decide) c12 ?_
        refine mr_aload_n (pc' := 46) dX5_takeReckoning_45 rfl rfl ?_
        refine mr_getR (pc' := 49) (ci := 5) (j := 0) (b := 1) hR dX5_takeReckoning_46 rfl rfl rfl (by decide) (by decide) (by decide) rfl rfl ?_
        refine mr_bipush (pc' := 51) (v := (47 : Int32)) dX5_takeReckoning_49 rfl (by decide) ?_
        obtain ⟨q13, g14, h15⟩ := Option.bind_eq_some_iff.mp h11
        refine mr_cv (pc' := 54) (a := 1) (d1 := 1) dX5_takeReckoning_51 rfl rfl rfl rfl rfl rfl (by decide) rfl (by decide) (ok_X7_takeSign hR  g14) ?_
        show mr X _ _ 54 _ [.int q13.1] (MM RR q13.2) _
        by_cases c16 : q13.1 = (0 : Int32)
        · rw [if_pos c16] at h15
          refine mr_if_eq_t (t := 62) dX5_takeReckoning_54 (by decide) c16 ?_
          refine mr_iconst (pc' := 63) (v := (-1 : Int32)) dX5_takeReckoning_62 rfl (by decide) ?_
          obtain rfl := Option.some.inj h15
          exact mr_ireturn dX5_takeReckoning_63 rfl
        · rw [if_neg c16] at h15
          refine mr_if_eq_f (t := 62) (pc' := 57) dX5_takeReckoning_54 (by decide) rfl c16 ?_
          refine mr_bipush (pc' := 59) (v := (10 : Int32)) dX5_takeReckoning_57 rfl (by decide) ?_
          refine mr_goto (t := 63) dX5_takeReckoning_59 (by decide) ?_
          obtain rfl := Option.some.inj h15
          exact mr_ireturn dX5_takeReckoning_63 rfl
      · rw [if_neg c12] at h11
        refine mr_if_eq_f (t := 45) (pc' := 42) dX5_takeReckoning_39 (by decide) rfl c12 ?_
        refine mr_bipush (pc' := 44) (v := (9 : Int32)) dX5_takeReckoning_42 rfl (by decide) ?_
        obtain rfl := Option.some.inj h11
        exact mr_ireturn dX5_takeReckoning_44 rfl
    · rw [if_neg c8] at h7
      refine mr_if_eq_f (t := 30) (pc' := 27) dX5_takeReckoning_24 (by decide) rfl c8 ?_
      refine mr_bipush (pc' := 29) (v := (8 : Int32)) dX5_takeReckoning_27 rfl (by decide) ?_
      obtain rfl := Option.some.inj h7
      exact mr_ireturn dX5_takeReckoning_29 rfl
  · rw [if_neg c4] at h3
    refine mr_if_eq_f (t := 15) (pc' := 12) dX5_takeReckoning_9 (by decide) rfl c4 ?_
    refine mr_bipush (pc' := 14) (v := (7 : Int32)) dX5_takeReckoning_12 rfl (by decide) ?_
    obtain rfl := Option.some.inj h3
    exact mr_ireturn dX5_takeReckoning_14 rfl
def lp_X5_settle_0 (p1 : Int32) (K : fS → Option (fS)) : Nat → fS → Option (fS)
  | 0, _ => none
  | n + 1, S0 =>
    if (S0.1 38 4) ≤ (0 : Int32) then (K S0) else
    ((gI S0 39 64 ((S0.1 38 4) - (1 : Int32))).bind fun a2 =>
    (gB a2).bind fun a5 =>
    if a5 < p1 then (K S0) else
    ((some (pI S0 38 4 ((S0.1 38 4) - (1 : Int32)))).bind fun S9 =>
    (gI S9 39 64 (S9.1 38 4)).bind fun a12 =>
    (f_X4_write 40 a12 (0 : Int32) S9).bind fun q15 =>
    (gI q15 39 64 (q15.1 38 4)).bind fun a18 =>
    if a18 = (4 : Int32) then ((some (pI q15 38 6 ((q15.1 38 6) - (1 : Int32)))).bind fun S25 =>
    lp_X5_settle_0 p1 K n  S25) else
    ((some (pI q15 38 6 ((q15.1 38 6) - (0 : Int32)))).bind fun S22 =>
    lp_X5_settle_0 p1 K n  S22)))
set_option maxHeartbeats 4000000 in
set_option maxRecDepth 100000 in
theorem ok_lp_X5_settle_0 {X : mm_C} {RR : Nat → Nat → Option Nat} (hR : RRok RR) {p1 : Int32}  {K : fS → Option (fS)} {r : fS} (hK : ∀ (Sk : fS), K Sk = some r → mr X 1 mY_X5_settle 83 [] [] (MM RR Sk) (none, MM RR r)) : ∀ (n : Nat) (S0 : fS), lp_X5_settle_0 p1 K n S0 = some r → mr X 1 mY_X5_settle 0 [(0, .ref 38), (1, .int p1)] [] (MM RR S0) (none, MM RR r) := by
  intro n
  induction n with
  | zero => intro S0 h; exact mm_no h
  | succ n ih =>
    intro S0 h
    unfold lp_X5_settle_0 at h
    refine mr_aload_n (pc' := 1) dX5_settle_0 rfl rfl ?_
    refine mr_getI (pc' := 4) (ci := 5) (j := 4) dX5_settle_1 rfl rfl rfl (by decide) (by decide) rfl ?_
    by_cases c1 : (S0.1 38 4) ≤ (0 : Int32)
    · rw [if_pos c1] at h
      refine mr_if_le_t (t := 83) dX5_settle_4 (by decide) c1 ?_
      exact mr_sub [] trivial rfl (hK _  h)
    · rw [if_neg c1] at h
      refine mr_if_le_f (t := 83) (pc' := 7) dX5_settle_4 (by decide) rfl c1 ?_
      refine mr_tget (pc' := 10) rfl dX5_settle_7 rfl ?_
      refine mr_aload_n (pc' := 11) dX5_settle_10 rfl rfl ?_
      refine mr_getR (pc' := 14) (ci := 5) (j := 1) (b := 39) hR dX5_settle_11 rfl rfl rfl (by decide) (by decide) (by decide) rfl rfl ?_
      refine mr_aload_n (pc' := 15) dX5_settle_14 rfl rfl ?_
      refine mr_getI (pc' := 18) (ci := 5) (j := 4) dX5_settle_15 rfl rfl rfl (by decide) (by decide) rfl ?_
      refine mr_iconst (pc' := 19) (v := (1 : Int32)) dX5_settle_18 rfl (by decide) ?_
      refine mr_isub (pc' := 20) dX5_settle_19 rfl ?_
      obtain ⟨a2, g3, h4⟩ := Option.bind_eq_some_iff.mp h
      refine mr_iald (pc' := 21) dX5_settle_20 rfl rfl rfl g3 ?_
      obtain ⟨a5, g6, h7⟩ := Option.bind_eq_some_iff.mp h4
      refine mr_tald (pc' := 22) dX5_settle_21 rfl g6 ?_
      refine mr_iload_n (pc' := 23) dX5_settle_22 rfl rfl ?_
      by_cases c8 : a5 < p1
      · rw [if_pos c8] at h7
        refine mr_icmp_lt_t (t := 83) dX5_settle_23 (by decide) c8 ?_
        exact mr_sub [] trivial rfl (hK _  h7)
      · rw [if_neg c8] at h7
        refine mr_icmp_lt_f (t := 83) (pc' := 26) dX5_settle_23 (by decide) rfl c8 ?_
        refine mr_aload_n (pc' := 27) dX5_settle_26 rfl rfl ?_
        refine mr_dup_ref (pc' := 28) dX5_settle_27 rfl ?_
        refine mr_getI (pc' := 31) (ci := 5) (j := 4) dX5_settle_28 rfl rfl rfl (by decide) (by decide) rfl ?_
        refine mr_iconst (pc' := 32) (v := (1 : Int32)) dX5_settle_31 rfl (by decide) ?_
        refine mr_isub (pc' := 33) dX5_settle_32 rfl ?_
        obtain ⟨S9, g10, h11⟩ := Option.bind_eq_some_iff.mp h7
        refine mr_putI (pc' := 36) (ci := 5) (j := 4) dX5_settle_33 rfl rfl rfl (by decide) (by decide) rfl rfl ?_
        rw [Option.some.inj g10]
        refine mr_aload_n (pc' := 37) dX5_settle_36 rfl rfl ?_
        refine mr_getR (pc' := 40) (ci := 5) (j := 2) (b := 40) hR dX5_settle_37 rfl rfl rfl (by decide) (by decide) (by decide) rfl rfl ?_
        refine mr_aload_n (pc' := 41) dX5_settle_40 rfl rfl ?_
        refine mr_getR (pc' := 44) (ci := 5) (j := 1) (b := 39) hR dX5_settle_41 rfl rfl rfl (by decide) (by decide) (by decide) rfl rfl ?_
        refine mr_aload_n (pc' := 45) dX5_settle_44 rfl rfl ?_
        refine mr_getI (pc' := 48) (ci := 5) (j := 4) dX5_settle_45 rfl rfl rfl (by decide) (by decide) rfl ?_
        obtain ⟨a12, g13, h14⟩ := Option.bind_eq_some_iff.mp h11
        refine mr_iald (pc' := 49) dX5_settle_48 rfl rfl rfl g13 ?_
        refine mr_iconst (pc' := 50) (v := (0 : Int32)) dX5_settle_49 rfl (by decide) ?_
        obtain ⟨q15, g16, h17⟩ := Option.bind_eq_some_iff.mp h14
        refine mr_cv (pc' := 53) (a := 40) (d1 := 0) dX5_settle_50 rfl rfl rfl rfl rfl rfl (by decide) rfl (by decide) (ok_X4_write hR rfl g16) ?_
        show mr X _ _ 53 _ [] (MM RR q15) _
        refine mr_aload_n (pc' := 54) dX5_settle_53 rfl rfl ?_
        refine mr_dup_ref (pc' := 55) dX5_settle_54 rfl ?_
        refine mr_getI (pc' := 58) (ci := 5) (j := 6) dX5_settle_55 rfl rfl rfl (by decide) (by decide) rfl ?_
        refine mr_aload_n (pc' := 59) dX5_settle_58 rfl rfl ?_
        refine mr_getR (pc' := 62) (ci := 5) (j := 1) (b := 39) hR dX5_settle_59 rfl rfl rfl (by decide) (by decide) (by decide) rfl rfl ?_
        refine mr_aload_n (pc' := 63) dX5_settle_62 rfl rfl ?_
        refine mr_getI (pc' := 66) (ci := 5) (j := 4) dX5_settle_63 rfl rfl rfl (by decide) (by decide) rfl ?_
        obtain ⟨a18, g19, h20⟩ := Option.bind_eq_some_iff.mp h17
        refine mr_iald (pc' := 67) dX5_settle_66 rfl rfl rfl g19 ?_
        refine mr_iconst (pc' := 68) (v := (4 : Int32)) dX5_settle_67 rfl (by decide) ?_
        by_cases c21 : a18 = (4 : Int32)
        · rw [if_pos c21] at h20
          refine mr_icmp_ne_f (t := 75) (pc' := 71) dX5_settle_68 (by decide) rfl (not_not_intro c21) ?_
          refine mr_iconst (pc' := 72) (v := (1 : Int32)) dX5_settle_71 rfl (by decide) ?_
          refine mr_goto (t := 76) dX5_settle_72 (by decide) ?_
          refine mr_isub (pc' := 77) dX5_settle_76 rfl ?_
          obtain ⟨S25, g26, h27⟩ := Option.bind_eq_some_iff.mp h20
          refine mr_putI (pc' := 80) (ci := 5) (j := 6) dX5_settle_77 rfl rfl rfl (by decide) (by decide) rfl rfl ?_
          rw [Option.some.inj g26]
          refine mr_goto (t := 0) dX5_settle_80 (by decide) ?_
          exact mr_sub [(0, .ref 38), (1, .int p1)] ⟨rfl, rfl, trivial⟩ rfl (ih _  h27)
        · rw [if_neg c21] at h20
          refine mr_icmp_ne_t (t := 75) dX5_settle_68 (by decide) c21 ?_
          refine mr_iconst (pc' := 76) (v := (0 : Int32)) dX5_settle_75 rfl (by decide) ?_
          refine mr_isub (pc' := 77) dX5_settle_76 rfl ?_
          obtain ⟨S22, g23, h24⟩ := Option.bind_eq_some_iff.mp h20
          refine mr_putI (pc' := 80) (ci := 5) (j := 6) dX5_settle_77 rfl rfl rfl (by decide) (by decide) rfl rfl ?_
          rw [Option.some.inj g23]
          refine mr_goto (t := 0) dX5_settle_80 (by decide) ?_
          exact mr_sub [(0, .ref 38), (1, .int p1)] ⟨rfl, rfl, trivial⟩ rfl (ih _  h24)
def f_X5_settle (v1 : Int32) (S : fS) : Option (fS) :=
  lp_X5_settle_0 v1 (fun S28 => some S28) FU  S
set_option maxHeartbeats 4000000 in
set_option maxRecDepth 100000 in
theorem ok_X5_settle {X : mm_C} {RR : Nat → Nat → Option Nat} (hR : RRok RR) {v1 : Int32}  {S : fS} {r : fS} (h : f_X5_settle v1 S = some r) : mr X 1 mY_X5_settle 0 (lv_args 0 [.ref 38, .int v1]) [] (MM RR S) (none, MM RR r) := by
  unfold f_X5_settle at h
  show mr X _ _ 0 [(0, .ref 38), (1, .int v1)] [] (MM RR S) _
  refine mr_sub [(0, .ref 38), (1, .int v1)] ⟨rfl, rfl, trivial⟩ rfl ?_
  refine ok_lp_X5_settle_0 hR  (fun S28 h29 => ?_) FU _  h
  obtain rfl := Option.some.inj h29
  exact mr_return dX5_settle_83 rfl
def f_J9_max_7cf53 (v0 : Int32) (v1 : Int32) (S : fS) : Option (Int32) :=
  if v0 < v1 then (some v1) else
  (some v0)
set_option maxHeartbeats 4000000 in
set_option maxRecDepth 100000 in
theorem ok_J9_max_7cf53 {X : mm_C} {RR : Nat → Nat → Option Nat} (hR : RRok RR) {v0 : Int32} {v1 : Int32}  {S : fS} {r : Int32} (h : f_J9_max_7cf53 v0 v1 S = some r) : mr X 0 mY_J9_max_7cf53 0 (lv_args 0 [.int v0, .int v1]) [] (MM RR S) (some (.int r), MM RR S) := by
  unfold f_J9_max_7cf53 at h
  show mr X _ _ 0 [(0, .int v0), (1, .int v1)] [] (MM RR S) _
  refine mr_iload_n (pc' := 1) dJ9_max_7cf53_0 rfl rfl ?_
  refine mr_iload_n (pc' := 2) dJ9_max_7cf53_1 rfl rfl ?_
  by_cases c1 : v0 < v1
  · rw [if_pos c1] at h
    refine mr_icmp_lt_t (t := 9) dJ9_max_7cf53_2 (by decide) c1 ?_
    refine mr_iload_n (pc' := 10) dJ9_max_7cf53_9 rfl rfl ?_
    obtain rfl := Option.some.inj h
    exact mr_ireturn dJ9_max_7cf53_10 rfl
  · rw [if_neg c1] at h
    refine mr_icmp_lt_f (t := 9) (pc' := 5) dJ9_max_7cf53_2 (by decide) rfl c1 ?_
    refine mr_iload_n (pc' := 6) dJ9_max_7cf53_5 rfl rfl ?_
    refine mr_goto (t := 10) dJ9_max_7cf53_6 (by decide) ?_
    obtain rfl := Option.some.inj h
    exact mr_ireturn dJ9_max_7cf53_10 rfl
def lp_X5_closeBrackets_0  (K : fS → Option (fS)) : Nat → fS → Option (fS)
  | 0, _ => none
  | n + 1, S0 =>
    if (S0.1 38 5) ≤ (0 : Int32) then (K S0) else
    ((f_X7_takeSign (93 : Int32) S0).bind fun q2 =>
    if q2.1 = (0 : Int32) then (K q2.2) else
    ((gB (6 : Int32)).bind fun a6 =>
    (f_X5_settle a6 q2.2).bind fun q9 =>
    (f_J9_max_7cf53 ((q9.1 38 4) - (1 : Int32)) (0 : Int32) q9).bind fun q12 =>
    (some (pI q9 38 4 q12)).bind fun S15 =>
    (some (pI S15 38 6 ((S15.1 38 6) - (1 : Int32)))).bind fun S18 =>
    (some (pI S18 38 5 ((S18.1 38 5) - (1 : Int32)))).bind fun S21 =>
    lp_X5_closeBrackets_0  K n  S21))
set_option maxHeartbeats 4000000 in
set_option maxRecDepth 100000 in
theorem ok_lp_X5_closeBrackets_0 {X : mm_C} {RR : Nat → Nat → Option Nat} (hR : RRok RR)   {K : fS → Option (fS)} {r : fS} (hK : ∀ (Sk : fS), K Sk = some r → mr X 2 mY_X5_closeBrackets 66 [] [] (MM RR Sk) (none, MM RR r)) : ∀ (n : Nat) (S0 : fS), lp_X5_closeBrackets_0  K n S0 = some r → mr X 2 mY_X5_closeBrackets 0 [(0, .ref 38)] [] (MM RR S0) (none, MM RR r) := by
  intro n
  induction n with
  | zero => intro S0 h; exact mm_no h
  | succ n ih =>
    intro S0 h
    unfold lp_X5_closeBrackets_0 at h
    refine mr_aload_n (pc' := 1) dX5_closeBrackets_0 rfl rfl ?_
    refine mr_getI (pc' := 4) (ci := 5) (j := 5) dX5_closeBrackets_1 rfl rfl rfl (by decide) (by decide) rfl ?_
    by_cases c1 : (S0.1 38 5) ≤ (0 : Int32)
    · rw [if_pos c1] at h
      refine mr_if_le_t (t := 66) dX5_closeBrackets_4 (by decide) c1 ?_
      exact mr_sub [] trivial rfl (hK _  h)
    · rw [if_neg c1] at h
      refine mr_if_le_f (t := 66) (pc' := 7) dX5_closeBrackets_4 (by decide) rfl c1 ?_
      refine mr_aload_n (pc' := 8) dX5_closeBrackets_7 rfl rfl ?_
      refine mr_getR (pc' := 11) (ci := 5) (j := 0) (b := 1) hR dX5_closeBrackets_8 rfl rfl rfl (by decide) (by decide) (by decide) rfl rfl ?_
      refine mr_bipush (pc' := 13) (v := (93 : Int32)) dX5_closeBrackets_11 rfl (by decide) ?_
      obtain ⟨q2, g3, h4⟩ := Option.bind_eq_some_iff.mp h
      refine mr_cv (pc' := 16) (a := 1) (d1 := 1) dX5_closeBrackets_13 rfl rfl rfl rfl rfl rfl (by decide) rfl (by decide) (ok_X7_takeSign hR  g3) ?_
      show mr X _ _ 16 _ [.int q2.1] (MM RR q2.2) _
      by_cases c5 : q2.1 = (0 : Int32)
      · rw [if_pos c5] at h4
        refine mr_if_eq_t (t := 66) dX5_closeBrackets_16 (by decide) c5 ?_
        exact mr_sub [] trivial rfl (hK _  h4)
      · rw [if_neg c5] at h4
        refine mr_if_eq_f (t := 66) (pc' := 19) dX5_closeBrackets_16 (by decide) rfl c5 ?_
        refine mr_aload_n (pc' := 20) dX5_closeBrackets_19 rfl rfl ?_
        refine mr_tget (pc' := 23) rfl dX5_closeBrackets_20 rfl ?_
        refine mr_bipush (pc' := 25) (v := (6 : Int32)) dX5_closeBrackets_23 rfl (by decide) ?_
        obtain ⟨a6, g7, h8⟩ := Option.bind_eq_some_iff.mp h4
        refine mr_tald (pc' := 26) dX5_closeBrackets_25 rfl g7 ?_
        obtain ⟨q9, g10, h11⟩ := Option.bind_eq_some_iff.mp h8
        refine mr_cv (pc' := 29) (a := 38) (d1 := 1) dX5_closeBrackets_26 rfl rfl rfl rfl rfl rfl (by decide) rfl (by decide) (ok_X5_settle hR  g10) ?_
        show mr X _ _ 29 _ [] (MM RR q9) _
        refine mr_aload_n (pc' := 30) dX5_closeBrackets_29 rfl rfl ?_
        refine mr_aload_n (pc' := 31) dX5_closeBrackets_30 rfl rfl ?_
        refine mr_getI (pc' := 34) (ci := 5) (j := 4) dX5_closeBrackets_31 rfl rfl rfl (by decide) (by decide) rfl ?_
        refine mr_iconst (pc' := 35) (v := (1 : Int32)) dX5_closeBrackets_34 rfl (by decide) ?_
        refine mr_isub (pc' := 36) dX5_closeBrackets_35 rfl ?_
        refine mr_iconst (pc' := 37) (v := (0 : Int32)) dX5_closeBrackets_36 rfl (by decide) ?_
        obtain ⟨q12, g13, h14⟩ := Option.bind_eq_some_iff.mp h11
        refine mr_cs (pc' := 40) (d1 := 0) dX5_closeBrackets_37 rfl rfl rfl rfl (by decide) (Nat.le_of_ble_eq_true rfl) rfl rfl rfl (by decide) (ok_J9_max_7cf53 hR  g13) ?_
        show mr X _ _ 40 _ [.int q12, .ref 38] (MM RR q9) _
        obtain ⟨S15, g16, h17⟩ := Option.bind_eq_some_iff.mp h14
        refine mr_putI (pc' := 43) (ci := 5) (j := 4) dX5_closeBrackets_40 rfl rfl rfl (by decide) (by decide) rfl rfl ?_
        rw [Option.some.inj g16]
        refine mr_aload_n (pc' := 44) dX5_closeBrackets_43 rfl rfl ?_
        refine mr_dup_ref (pc' := 45) dX5_closeBrackets_44 rfl ?_
        refine mr_getI (pc' := 48) (ci := 5) (j := 6) dX5_closeBrackets_45 rfl rfl rfl (by decide) (by decide) rfl ?_
        refine mr_iconst (pc' := 49) (v := (1 : Int32)) dX5_closeBrackets_48 rfl (by decide) ?_
        refine mr_isub (pc' := 50) dX5_closeBrackets_49 rfl ?_
        obtain ⟨S18, g19, h20⟩ := Option.bind_eq_some_iff.mp h17
        refine mr_putI (pc' := 53) (ci := 5) (j := 6) dX5_closeBrackets_50 rfl rfl rfl (by decide) (by decide) rfl rfl ?_
        rw [Option.some.inj g19]
        refine mr_aload_n (pc' := 54) dX5_closeBrackets_53 rfl rfl ?_
        refine mr_dup_ref (pc' := 55) dX5_closeBrackets_54 rfl ?_
        refine mr_getI (pc' := 58) (ci := 5) (j := 5) dX5_closeBrackets_55 rfl rfl rfl (by decide) (by decide) rfl ?_
        refine mr_iconst (pc' := 59) (v := (1 : Int32)) dX5_closeBrackets_58 rfl (by decide) ?_
        refine mr_isub (pc' := 60) dX5_closeBrackets_59 rfl ?_
        obtain ⟨S21, g22, h23⟩ := Option.bind_eq_some_iff.mp h20
        refine mr_putI (pc' := 63) (ci := 5) (j := 5) dX5_closeBrackets_60 rfl rfl rfl (by decide) (by decide) rfl rfl ?_
        rw [Option.some.inj g22]
        refine mr_goto (t := 0) dX5_closeBrackets_63 (by decide) ?_
        exact mr_sub [(0, .ref 38)] ⟨rfl, trivial⟩ rfl (ih _  h23)
def f_X5_closeBrackets  (S : fS) : Option (fS) :=
  lp_X5_closeBrackets_0  (fun S24 => some S24) FU  S
set_option maxHeartbeats 4000000 in
set_option maxRecDepth 100000 in
theorem ok_X5_closeBrackets {X : mm_C} {RR : Nat → Nat → Option Nat} (hR : RRok RR)   {S : fS} {r : fS} (h : f_X5_closeBrackets  S = some r) : mr X 2 mY_X5_closeBrackets 0 (lv_args 0 [.ref 38]) [] (MM RR S) (none, MM RR r) := by
  unfold f_X5_closeBrackets at h
  show mr X _ _ 0 [(0, .ref 38)] [] (MM RR S) _
  refine mr_sub [(0, .ref 38)] ⟨rfl, trivial⟩ rfl ?_
  refine ok_lp_X5_closeBrackets_0 hR  (fun S24 h25 => ?_) FU _  h
  obtain rfl := Option.some.inj h25
  exact mr_return dX5_closeBrackets_66 rfl
def f_X5_takeJoining  (S : fS) : Option (Int32 × fS) :=
  (f_X7_takeWord 14 S).bind fun q1 =>
  if q1.1 = (0 : Int32) then ((f_X7_takeWord 15 q1.2).bind fun q5 =>
  if q5.1 = (0 : Int32) then (some ((-1 : Int32), q5.2)) else
  (some ((6 : Int32), q5.2))) else
  (some ((5 : Int32), q1.2))
set_option maxHeartbeats 4000000 in
set_option maxRecDepth 100000 in
theorem ok_X5_takeJoining {X : mm_C} {RR : Nat → Nat → Option Nat} (hR : RRok RR)   {S : fS} {r : Int32 × fS} (h : f_X5_takeJoining  S = some r) : mr X 5 mY_X5_takeJoining 0 (lv_args 0 [.ref 38]) [] (MM RR S) (some (.int r.1), MM RR r.2) := by
  unfold f_X5_takeJoining at h
  show mr X _ _ 0 [(0, .ref 38)] [] (MM RR S) _
  refine mr_aload_n (pc' := 1) dX5_takeJoining_0 rfl rfl ?_
  refine mr_getR (pc' := 4) (ci := 5) (j := 0) (b := 1) hR dX5_takeJoining_1 rfl rfl rfl (by decide) (by decide) (by decide) rfl rfl ?_
  refine mr_ldcS (pc' := 6) (i := 14) dX5_takeJoining_4 rfl rfl rfl ?_
  obtain ⟨q1, g2, h3⟩ := Option.bind_eq_some_iff.mp h
  refine mr_cv (pc' := 9) (a := 1) (d1 := 4) dX5_takeJoining_6 rfl rfl rfl rfl rfl rfl (by decide) rfl (by decide) (ok_X7_takeWord hR (by decide) g2) ?_
  show mr X _ _ 9 _ [.int q1.1] (MM RR q1.2) _
  by_cases c4 : q1.1 = (0 : Int32)
  · rw [if_pos c4] at h3
    refine mr_if_eq_t (t := 14) dX5_takeJoining_9 (by decide) c4 ?_
    refine mr_aload_n (pc' := 15) dX5_takeJoining_14 rfl rfl ?_
    refine mr_getR (pc' := 18) (ci := 5) (j := 0) (b := 1) hR dX5_takeJoining_15 rfl rfl rfl (by decide) (by decide) (by decide) rfl rfl ?_
    refine mr_ldcS (pc' := 20) (i := 15) dX5_takeJoining_18 rfl rfl rfl ?_
    obtain ⟨q5, g6, h7⟩ := Option.bind_eq_some_iff.mp h3
    refine mr_cv (pc' := 23) (a := 1) (d1 := 4) dX5_takeJoining_20 rfl rfl rfl rfl rfl rfl (by decide) rfl (by decide) (ok_X7_takeWord hR (by decide) g6) ?_
    show mr X _ _ 23 _ [.int q5.1] (MM RR q5.2) _
    by_cases c8 : q5.1 = (0 : Int32)
    · rw [if_pos c8] at h7
      refine mr_if_eq_t (t := 31) dX5_takeJoining_23 (by decide) c8 ?_
      refine mr_iconst (pc' := 32) (v := (-1 : Int32)) dX5_takeJoining_31 rfl (by decide) ?_
      obtain rfl := Option.some.inj h7
      exact mr_ireturn dX5_takeJoining_32 rfl
    · rw [if_neg c8] at h7
      refine mr_if_eq_f (t := 31) (pc' := 26) dX5_takeJoining_23 (by decide) rfl c8 ?_
      refine mr_bipush (pc' := 28) (v := (6 : Int32)) dX5_takeJoining_26 rfl (by decide) ?_
      refine mr_goto (t := 32) dX5_takeJoining_28 (by decide) ?_
      obtain rfl := Option.some.inj h7
      exact mr_ireturn dX5_takeJoining_32 rfl
  · rw [if_neg c4] at h3
    refine mr_if_eq_f (t := 14) (pc' := 12) dX5_takeJoining_9 (by decide) rfl c4 ?_
    refine mr_iconst (pc' := 13) (v := (5 : Int32)) dX5_takeJoining_12 rfl (by decide) ?_
    obtain rfl := Option.some.inj h3
    exact mr_ireturn dX5_takeJoining_13 rfl
def f_X5_isTestOver  (S : fS) : Option (Int32 × fS) :=
  (gB (6 : Int32)).bind fun a1 =>
  (f_X5_settle a1 S).bind fun q4 =>
  if (q4.1 38 5) = (0 : Int32) then (some ((1 : Int32), q4)) else
  ((f_X7_fail (q4.1 1 2) (0 : Int32) q4).bind fun q8 =>
  if q8.1 = (0 : Int32) then (some ((0 : Int32), q8.2)) else
  (some ((1 : Int32), q8.2)))
set_option maxHeartbeats 4000000 in
set_option maxRecDepth 100000 in
theorem ok_X5_isTestOver {X : mm_C} {RR : Nat → Nat → Option Nat} (hR : RRok RR)   {S : fS} {r : Int32 × fS} (h : f_X5_isTestOver  S = some r) : mr X 2 mY_X5_isTestOver 0 (lv_args 0 [.ref 38]) [] (MM RR S) (some (.int r.1), MM RR r.2) := by
  unfold f_X5_isTestOver at h
  show mr X _ _ 0 [(0, .ref 38)] [] (MM RR S) _
  refine mr_aload_n (pc' := 1) dX5_isTestOver_0 rfl rfl ?_
  refine mr_tget (pc' := 4) rfl dX5_isTestOver_1 rfl ?_
  refine mr_bipush (pc' := 6) (v := (6 : Int32)) dX5_isTestOver_4 rfl (by decide) ?_
  obtain ⟨a1, g2, h3⟩ := Option.bind_eq_some_iff.mp h
  refine mr_tald (pc' := 7) dX5_isTestOver_6 rfl g2 ?_
  obtain ⟨q4, g5, h6⟩ := Option.bind_eq_some_iff.mp h3
  refine mr_cv (pc' := 10) (a := 38) (d1 := 1) dX5_isTestOver_7 rfl rfl rfl rfl rfl rfl (by decide) rfl (by decide) (ok_X5_settle hR  g5) ?_
  show mr X _ _ 10 _ [] (MM RR q4) _
  refine mr_aload_n (pc' := 11) dX5_isTestOver_10 rfl rfl ?_
  refine mr_getI (pc' := 14) (ci := 5) (j := 5) dX5_isTestOver_11 rfl rfl rfl (by decide) (by decide) rfl ?_
  by_cases c7 : (q4.1 38 5) = (0 : Int32)
  · rw [if_pos c7] at h6
    refine mr_if_eq_t (t := 35) dX5_isTestOver_14 (by decide) c7 ?_
    refine mr_iconst (pc' := 36) (v := (1 : Int32)) dX5_isTestOver_35 rfl (by decide) ?_
    refine mr_goto (t := 40) dX5_isTestOver_36 (by decide) ?_
    obtain rfl := Option.some.inj h6
    exact mr_zreturn dX5_isTestOver_40 rfl (by decide)
  · rw [if_neg c7] at h6
    refine mr_if_eq_f (t := 35) (pc' := 17) dX5_isTestOver_14 (by decide) rfl c7 ?_
    refine mr_aload_n (pc' := 18) dX5_isTestOver_17 rfl rfl ?_
    refine mr_getR (pc' := 21) (ci := 5) (j := 0) (b := 1) hR dX5_isTestOver_18 rfl rfl rfl (by decide) (by decide) (by decide) rfl rfl ?_
    refine mr_aload_n (pc' := 22) dX5_isTestOver_21 rfl rfl ?_
    refine mr_getR (pc' := 25) (ci := 5) (j := 0) (b := 1) hR dX5_isTestOver_22 rfl rfl rfl (by decide) (by decide) (by decide) rfl rfl ?_
    refine mr_getI (pc' := 28) (ci := 7) (j := 2) dX5_isTestOver_25 rfl rfl rfl (by decide) (by decide) rfl ?_
    refine mr_iconst (pc' := 29) (v := (0 : Int32)) dX5_isTestOver_28 rfl (by decide) ?_
    obtain ⟨q8, g9, h10⟩ := Option.bind_eq_some_iff.mp h6
    refine mr_cv (pc' := 32) (a := 1) (d1 := 0) dX5_isTestOver_29 rfl rfl rfl rfl rfl rfl (by decide) rfl (by decide) (ok_X7_fail hR  g9) ?_
    show mr X _ _ 32 _ [.int q8.1] (MM RR q8.2) _
    by_cases c11 : q8.1 = (0 : Int32)
    · rw [if_pos c11] at h10
      refine mr_if_eq_t (t := 39) dX5_isTestOver_32 (by decide) c11 ?_
      refine mr_iconst (pc' := 40) (v := (0 : Int32)) dX5_isTestOver_39 rfl (by decide) ?_
      obtain rfl := Option.some.inj h10
      exact mr_zreturn dX5_isTestOver_40 rfl (by decide)
    · rw [if_neg c11] at h10
      refine mr_if_eq_f (t := 39) (pc' := 35) dX5_isTestOver_32 (by decide) rfl c11 ?_
      refine mr_iconst (pc' := 36) (v := (1 : Int32)) dX5_isTestOver_35 rfl (by decide) ?_
      refine mr_goto (t := 40) dX5_isTestOver_36 (by decide) ?_
      obtain rfl := Option.some.inj h10
      exact mr_zreturn dX5_isTestOver_40 rfl (by decide)
def f_X5_takeComparing  (S : fS) : Option (Int32 × fS) :=
  (f_X7_takeSign (61 : Int32) S).bind fun q1 =>
  if q1.1 = (0 : Int32) then ((f_X7_takeSign (60 : Int32) q1.2).bind fun q5 =>
  if q5.1 = (0 : Int32) then ((f_X7_takeSign (62 : Int32) q5.2).bind fun q18 =>
  if q18.1 = (0 : Int32) then (some ((-1 : Int32), q18.2)) else
  ((f_X7_byteAt (q18.2.1 1 2) q18.2).bind fun q22 =>
  if q22 = (61 : Int32) then ((some (pI q18.2 1 2 ((q18.2.1 1 2) + (1 : Int32)))).bind fun S26 =>
  if q5.1 = (0 : Int32) then (some ((14 : Int32), S26)) else
  (some ((12 : Int32), S26))) else
  (if q5.1 = (0 : Int32) then (some ((15 : Int32), q18.2)) else
  (some ((11 : Int32), q18.2))))) else
  ((f_X7_byteAt (q5.2.1 1 2) q5.2).bind fun q9 =>
  if q9 = (61 : Int32) then ((some (pI q5.2 1 2 ((q5.2.1 1 2) + (1 : Int32)))).bind fun S13 =>
  if q5.1 = (0 : Int32) then (some ((14 : Int32), S13)) else
  (some ((12 : Int32), S13))) else
  (if q5.1 = (0 : Int32) then (some ((15 : Int32), q5.2)) else
  (some ((11 : Int32), q5.2))))) else
  (some ((13 : Int32), q1.2))
set_option maxHeartbeats 4000000 in
set_option maxRecDepth 100000 in
theorem ok_X5_takeComparing {X : mm_C} {RR : Nat → Nat → Option Nat} (hR : RRok RR)   {S : fS} {r : Int32 × fS} (h : f_X5_takeComparing  S = some r) : mr X 2 mY_X5_takeComparing 0 (lv_args 0 [.ref 38]) [] (MM RR S) (some (.int r.1), MM RR r.2) := by
  unfold f_X5_takeComparing at h
  show mr X _ _ 0 [(0, .ref 38)] [] (MM RR S) _
  refine mr_aload_n (pc' := 1) dX5_takeComparing_0 rfl rfl ?_
  refine mr_getR (pc' := 4) (ci := 5) (j := 0) (b := 1) hR dX5_takeComparing_1 rfl rfl rfl (by decide) (by decide) (by decide) rfl rfl ?_
  refine mr_bipush (pc' := 6) (v := (61 : Int32)) dX5_takeComparing_4 rfl (by decide) ?_
  obtain ⟨q1, g2, h3⟩ := Option.bind_eq_some_iff.mp h
  refine mr_cv (pc' := 9) (a := 1) (d1 := 1) dX5_takeComparing_6 rfl rfl rfl rfl rfl rfl (by decide) rfl (by decide) (ok_X7_takeSign hR  g2) ?_
  show mr X _ _ 9 _ [.int q1.1] (MM RR q1.2) _
  by_cases c4 : q1.1 = (0 : Int32)
  · rw [if_pos c4] at h3
    refine mr_if_eq_t (t := 15) dX5_takeComparing_9 (by decide) c4 ?_
    refine mr_aload_n (pc' := 16) dX5_takeComparing_15 rfl rfl ?_
    refine mr_getR (pc' := 19) (ci := 5) (j := 0) (b := 1) hR dX5_takeComparing_16 rfl rfl rfl (by decide) (by decide) (by decide) rfl rfl ?_
    refine mr_bipush (pc' := 21) (v := (60 : Int32)) dX5_takeComparing_19 rfl (by decide) ?_
    obtain ⟨q5, g6, h7⟩ := Option.bind_eq_some_iff.mp h3
    refine mr_cv (pc' := 24) (a := 1) (d1 := 1) dX5_takeComparing_21 rfl rfl rfl rfl rfl rfl (by decide) rfl (by decide) (ok_X7_takeSign hR  g6) ?_
    show mr X _ _ 24 _ [.int q5.1] (MM RR q5.2) _
    refine mr_istore_n (pc' := 25) (lv' := [(1, .int q5.1), (0, .ref 38)]) dX5_takeComparing_24 rfl (by decide) rfl ?_
    refine mr_iload_n (pc' := 26) dX5_takeComparing_25 rfl rfl ?_
    by_cases c8 : q5.1 = (0 : Int32)
    · rw [if_pos c8] at h7
      refine mr_if_ne_f (t := 43) (pc' := 29) dX5_takeComparing_26 (by decide) rfl (not_not_intro c8) ?_
      refine mr_aload_n (pc' := 30) dX5_takeComparing_29 rfl rfl ?_
      refine mr_getR (pc' := 33) (ci := 5) (j := 0) (b := 1) hR dX5_takeComparing_30 rfl rfl rfl (by decide) (by decide) (by decide) rfl rfl ?_
      refine mr_bipush (pc' := 35) (v := (62 : Int32)) dX5_takeComparing_33 rfl (by decide) ?_
      obtain ⟨q18, g19, h20⟩ := Option.bind_eq_some_iff.mp h7
      refine mr_cv (pc' := 38) (a := 1) (d1 := 1) dX5_takeComparing_35 rfl rfl rfl rfl rfl rfl (by decide) rfl (by decide) (ok_X7_takeSign hR  g19) ?_
      show mr X _ _ 38 _ [.int q18.1] (MM RR q18.2) _
      by_cases c21 : q18.1 = (0 : Int32)
      · rw [if_pos c21] at h20
        refine mr_if_ne_f (t := 43) (pc' := 41) dX5_takeComparing_38 (by decide) rfl (not_not_intro c21) ?_
        refine mr_iconst (pc' := 42) (v := (-1 : Int32)) dX5_takeComparing_41 rfl (by decide) ?_
        obtain rfl := Option.some.inj h20
        exact mr_ireturn dX5_takeComparing_42 rfl
      · rw [if_neg c21] at h20
        refine mr_if_ne_t (t := 43) dX5_takeComparing_38 (by decide) c21 ?_
        refine mr_aload_n (pc' := 44) dX5_takeComparing_43 rfl rfl ?_
        refine mr_getR (pc' := 47) (ci := 5) (j := 0) (b := 1) hR dX5_takeComparing_44 rfl rfl rfl (by decide) (by decide) (by decide) rfl rfl ?_
        refine mr_aload_n (pc' := 48) dX5_takeComparing_47 rfl rfl ?_
        refine mr_getR (pc' := 51) (ci := 5) (j := 0) (b := 1) hR dX5_takeComparing_48 rfl rfl rfl (by decide) (by decide) (by decide) rfl rfl ?_
        refine mr_getI (pc' := 54) (ci := 7) (j := 2) dX5_takeComparing_51 rfl rfl rfl (by decide) (by decide) rfl ?_
        obtain ⟨q22, g23, h24⟩ := Option.bind_eq_some_iff.mp h20
        refine mr_cv (pc' := 57) (a := 1) (d1 := 0) dX5_takeComparing_54 rfl rfl rfl rfl rfl rfl (by decide) rfl (by decide) (ok_X7_byteAt hR  g23) ?_
        show mr X _ _ 57 _ [.int q22] (MM RR q18.2) _
        refine mr_bipush (pc' := 59) (v := (61 : Int32)) dX5_takeComparing_57 rfl (by decide) ?_
        by_cases c25 : q22 = (61 : Int32)
        · rw [if_pos c25] at h24
          refine mr_icmp_eq_t (t := 74) dX5_takeComparing_59 (by decide) c25 ?_
          refine mr_aload_n (pc' := 75) dX5_takeComparing_74 rfl rfl ?_
          refine mr_getR (pc' := 78) (ci := 5) (j := 0) (b := 1) hR dX5_takeComparing_75 rfl rfl rfl (by decide) (by decide) (by decide) rfl rfl ?_
          refine mr_dup_ref (pc' := 79) dX5_takeComparing_78 rfl ?_
          refine mr_getI (pc' := 82) (ci := 7) (j := 2) dX5_takeComparing_79 rfl rfl rfl (by decide) (by decide) rfl ?_
          refine mr_iconst (pc' := 83) (v := (1 : Int32)) dX5_takeComparing_82 rfl (by decide) ?_
          refine mr_iadd (pc' := 84) dX5_takeComparing_83 rfl ?_
          obtain ⟨S26, g27, h28⟩ := Option.bind_eq_some_iff.mp h24
          refine mr_putI (pc' := 87) (ci := 7) (j := 2) dX5_takeComparing_84 rfl rfl rfl (by decide) (by decide) rfl rfl ?_
          rw [Option.some.inj g27]
          refine mr_iload_n (pc' := 88) dX5_takeComparing_87 rfl rfl ?_
          by_cases c29 : q5.1 = (0 : Int32)
          · rw [if_pos c29] at h28
            refine mr_if_eq_t (t := 96) dX5_takeComparing_88 (by decide) c29 ?_
            refine mr_bipush (pc' := 98) (v := (14 : Int32)) dX5_takeComparing_96 rfl (by decide) ?_
            obtain rfl := Option.some.inj h28
            exact mr_ireturn dX5_takeComparing_98 rfl
          · rw [if_neg c29] at h28
            refine mr_if_eq_f (t := 96) (pc' := 91) dX5_takeComparing_88 (by decide) rfl c29 ?_
            refine mr_bipush (pc' := 93) (v := (12 : Int32)) dX5_takeComparing_91 rfl (by decide) ?_
            refine mr_goto (t := 98) dX5_takeComparing_93 (by decide) ?_
            obtain rfl := Option.some.inj h28
            exact mr_ireturn dX5_takeComparing_98 rfl
        · rw [if_neg c25] at h24
          refine mr_icmp_eq_f (t := 74) (pc' := 62) dX5_takeComparing_59 (by decide) rfl c25 ?_
          refine mr_iload_n (pc' := 63) dX5_takeComparing_62 rfl rfl ?_
          by_cases c30 : q5.1 = (0 : Int32)
          · rw [if_pos c30] at h24
            refine mr_if_eq_t (t := 71) dX5_takeComparing_63 (by decide) c30 ?_
            refine mr_bipush (pc' := 73) (v := (15 : Int32)) dX5_takeComparing_71 rfl (by decide) ?_
            obtain rfl := Option.some.inj h24
            exact mr_ireturn dX5_takeComparing_73 rfl
          · rw [if_neg c30] at h24
            refine mr_if_eq_f (t := 71) (pc' := 66) dX5_takeComparing_63 (by decide) rfl c30 ?_
            refine mr_bipush (pc' := 68) (v := (11 : Int32)) dX5_takeComparing_66 rfl (by decide) ?_
            refine mr_goto (t := 73) dX5_takeComparing_68 (by decide) ?_
            obtain rfl := Option.some.inj h24
            exact mr_ireturn dX5_takeComparing_73 rfl
    · rw [if_neg c8] at h7
      refine mr_if_ne_t (t := 43) dX5_takeComparing_26 (by decide) c8 ?_
      refine mr_aload_n (pc' := 44) dX5_takeComparing_43 rfl rfl ?_
      refine mr_getR (pc' := 47) (ci := 5) (j := 0) (b := 1) hR dX5_takeComparing_44 rfl rfl rfl (by decide) (by decide) (by decide) rfl rfl ?_
      refine mr_aload_n (pc' := 48) dX5_takeComparing_47 rfl rfl ?_
      refine mr_getR (pc' := 51) (ci := 5) (j := 0) (b := 1) hR dX5_takeComparing_48 rfl rfl rfl (by decide) (by decide) (by decide) rfl rfl ?_
      refine mr_getI (pc' := 54) (ci := 7) (j := 2) dX5_takeComparing_51 rfl rfl rfl (by decide) (by decide) rfl ?_
      obtain ⟨q9, g10, h11⟩ := Option.bind_eq_some_iff.mp h7
      refine mr_cv (pc' := 57) (a := 1) (d1 := 0) dX5_takeComparing_54 rfl rfl rfl rfl rfl rfl (by decide) rfl (by decide) (ok_X7_byteAt hR  g10) ?_
      show mr X _ _ 57 _ [.int q9] (MM RR q5.2) _
      refine mr_bipush (pc' := 59) (v := (61 : Int32)) dX5_takeComparing_57 rfl (by decide) ?_
      by_cases c12 : q9 = (61 : Int32)
      · rw [if_pos c12] at h11
        refine mr_icmp_eq_t (t := 74) dX5_takeComparing_59 (by decide) c12 ?_
        refine mr_aload_n (pc' := 75) dX5_takeComparing_74 rfl rfl ?_
        refine mr_getR (pc' := 78) (ci := 5) (j := 0) (b := 1) hR dX5_takeComparing_75 rfl rfl rfl (by decide) (by decide) (by decide) rfl rfl ?_
        refine mr_dup_ref (pc' := 79) dX5_takeComparing_78 rfl ?_
        refine mr_getI (pc' := 82) (ci := 7) (j := 2) dX5_takeComparing_79 rfl rfl rfl (by decide) (by decide) rfl ?_
        refine mr_iconst (pc' := 83) (v := (1 : Int32)) dX5_takeComparing_82 rfl (by decide) ?_
        refine mr_iadd (pc' := 84) dX5_takeComparing_83 rfl ?_
        obtain ⟨S13, g14, h15⟩ := Option.bind_eq_some_iff.mp h11
        refine mr_putI (pc' := 87) (ci := 7) (j := 2) dX5_takeComparing_84 rfl rfl rfl (by decide) (by decide) rfl rfl ?_
        rw [Option.some.inj g14]
        refine mr_iload_n (pc' := 88) dX5_takeComparing_87 rfl rfl ?_
        by_cases c16 : q5.1 = (0 : Int32)
        · rw [if_pos c16] at h15
          refine mr_if_eq_t (t := 96) dX5_takeComparing_88 (by decide) c16 ?_
          refine mr_bipush (pc' := 98) (v := (14 : Int32)) dX5_takeComparing_96 rfl (by decide) ?_
          obtain rfl := Option.some.inj h15
          exact mr_ireturn dX5_takeComparing_98 rfl
        · rw [if_neg c16] at h15
          refine mr_if_eq_f (t := 96) (pc' := 91) dX5_takeComparing_88 (by decide) rfl c16 ?_
          refine mr_bipush (pc' := 93) (v := (12 : Int32)) dX5_takeComparing_91 rfl (by decide) ?_
          refine mr_goto (t := 98) dX5_takeComparing_93 (by decide) ?_
          obtain rfl := Option.some.inj h15
          exact mr_ireturn dX5_takeComparing_98 rfl
      · rw [if_neg c12] at h11
        refine mr_icmp_eq_f (t := 74) (pc' := 62) dX5_takeComparing_59 (by decide) rfl c12 ?_
        refine mr_iload_n (pc' := 63) dX5_takeComparing_62 rfl rfl ?_
        by_cases c17 : q5.1 = (0 : Int32)
        · rw [if_pos c17] at h11
          refine mr_if_eq_t (t := 71) dX5_takeComparing_63 (by decide) c17 ?_
          refine mr_bipush (pc' := 73) (v := (15 : Int32)) dX5_takeComparing_71 rfl (by decide) ?_
          obtain rfl := Option.some.inj h11
          exact mr_ireturn dX5_takeComparing_73 rfl
        · rw [if_neg c17] at h11
          refine mr_if_eq_f (t := 71) (pc' := 66) dX5_takeComparing_63 (by decide) rfl c17 ?_
          refine mr_bipush (pc' := 68) (v := (11 : Int32)) dX5_takeComparing_66 rfl (by decide) ?_
          refine mr_goto (t := 73) dX5_takeComparing_68 (by decide) ?_
          obtain rfl := Option.some.inj h11
          exact mr_ireturn dX5_takeComparing_73 rfl
  · rw [if_neg c4] at h3
    refine mr_if_eq_f (t := 15) (pc' := 12) dX5_takeComparing_9 (by decide) rfl c4 ?_
    refine mr_bipush (pc' := 14) (v := (13 : Int32)) dX5_takeComparing_12 rfl (by decide) ?_
    obtain rfl := Option.some.inj h3
    exact mr_ireturn dX5_takeComparing_14 rfl
