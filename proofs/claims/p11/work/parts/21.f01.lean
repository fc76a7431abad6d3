def f_X9_readStair  (S : fS) : Option (Int32 × fS) :=
  (f_X7_takeNumber (0 : Int32) ((S.1 24 6) - (1 : Int32)) S).bind fun q1 =>
  if (0 : Int32) ≤ q1.1 then ((f_X7_takeNumber (0 : Int32) ((q1.2.1 24 6) - (1 : Int32)) q1.2).bind fun q5 =>
  if (0 : Int32) ≤ q5.1 then (if q1.1 = q5.1 then ((f_X7_fail (q5.2.1 1 3) (1 : Int32) q5.2).bind fun q21 =>
  (bZ q21.1).bind fun z24 => some (z24, q21.2)) else
  ((f_X7_takeNumber (1 : Int32) (9 : Int32) q5.2).bind fun q10 =>
  if (0 : Int32) ≤ q10.1 then ((f_X9_readPace  q10.2).bind fun q14 =>
  if (0 : Int64) ≤ q14.1 then ((f_X8_addStair 24 q1.1 q5.1 q10.1 q14.1 q14.2).bind fun q18 =>
  some ((1 : Int32), q18)) else
  (some ((0 : Int32), q14.2))) else
  (some ((0 : Int32), q10.2)))) else
  (some ((0 : Int32), q5.2))) else
  (some ((0 : Int32), q1.2))
set_option maxHeartbeats 4000000 in
set_option maxRecDepth 100000 in
theorem ok_X9_readStair {X : mm_C} {RR : Nat → Nat → Option Nat} (hR : RRok RR)   {S : fS} {r : Int32 × fS} (h : f_X9_readStair  S = some r) : mr X 4 mY_X9_readStair 0 (lv_args 0 [.ref 37]) [] (MM RR S) (some (.int r.1), MM RR r.2) := by
  unfold f_X9_readStair at h
  show mr X _ _ 0 [(0, .ref 37)] [] (MM RR S) _
  refine mr_aload_n (pc' := 1) dX9_readStair_0 rfl rfl ?_
  refine mr_getR (pc' := 4) (ci := 9) (j := 0) (b := 1) hR dX9_readStair_1 rfl rfl rfl (by decide) (by decide) (by decide) rfl rfl ?_
  refine mr_iconst (pc' := 5) (v := (0 : Int32)) dX9_readStair_4 rfl (by decide) ?_
  refine mr_aload_n (pc' := 6) dX9_readStair_5 rfl rfl ?_
  refine mr_getR (pc' := 9) (ci := 9) (j := 1) (b := 24) hR dX9_readStair_6 rfl rfl rfl (by decide) (by decide) (by decide) rfl rfl ?_
  refine mr_getI (pc' := 12) (ci := 8) (j := 6) dX9_readStair_9 rfl rfl rfl (by decide) (by decide) rfl ?_
  refine mr_iconst (pc' := 13) (v := (1 : Int32)) dX9_readStair_12 rfl (by decide) ?_
  refine mr_isub (pc' := 14) dX9_readStair_13 rfl ?_
  obtain ⟨q1, g2, h3⟩ := Option.bind_eq_some_iff.mp h
  refine mr_cv (pc' := 17) (a := 1) (d1 := 2) dX9_readStair_14 rfl rfl rfl rfl rfl rfl (by decide) rfl (by decide) (ok_X7_takeNumber hR  g2) ?_
  show mr X _ _ 17 _ [.int q1.1] (MM RR q1.2) _
  refine mr_istore_n (pc' := 18) (lv' := [(1, .int q1.1), (0, .ref 37)]) dX9_readStair_17 rfl (by decide) rfl ?_
  refine mr_iload_n (pc' := 19) dX9_readStair_18 rfl rfl ?_
  by_cases c4 : (0 : Int32) ≤ q1.1
  · rw [if_pos c4] at h3
    refine mr_if_ge_t (t := 24) dX9_readStair_19 (by decide) c4 ?_
    refine mr_aload_n (pc' := 25) dX9_readStair_24 rfl rfl ?_
    refine mr_getR (pc' := 28) (ci := 9) (j := 0) (b := 1) hR dX9_readStair_25 rfl rfl rfl (by decide) (by decide) (by decide) rfl rfl ?_
    refine mr_iconst (pc' := 29) (v := (0 : Int32)) dX9_readStair_28 rfl (by decide) ?_
    refine mr_aload_n (pc' := 30) dX9_readStair_29 rfl rfl ?_
    refine mr_getR (pc' := 33) (ci := 9) (j := 1) (b := 24) hR dX9_readStair_30 rfl rfl rfl (by decide) (by decide) (by decide) rfl rfl ?_
    refine mr_getI (pc' := 36) (ci := 8) (j := 6) dX9_readStair_33 rfl rfl rfl (by decide) (by decide) rfl ?_
    refine mr_iconst (pc' := 37) (v := (1 : Int32)) dX9_readStair_36 rfl (by decide) ?_
    refine mr_isub (pc' := 38) dX9_readStair_37 rfl ?_
    obtain ⟨q5, g6, h7⟩ := Option.bind_eq_some_iff.mp h3
    refine mr_cv (pc' := 41) (a := 1) (d1 := 2) dX9_readStair_38 rfl rfl rfl rfl rfl rfl (by decide) rfl (by decide) (ok_X7_takeNumber hR  g6) ?_
    show mr X _ _ 41 _ [.int q5.1] (MM RR q5.2) _
    refine mr_istore_n (pc' := 42) (lv' := [(2, .int q5.1), (1, .int q1.1), (0, .ref 37)]) dX9_readStair_41 rfl (by decide) rfl ?_
    refine mr_iload_n (pc' := 43) dX9_readStair_42 rfl rfl ?_
    by_cases c8 : (0 : Int32) ≤ q5.1
    · rw [if_pos c8] at h7
      refine mr_if_ge_t (t := 48) dX9_readStair_43 (by decide) c8 ?_
      refine mr_iload_n (pc' := 49) dX9_readStair_48 rfl rfl ?_
      refine mr_iload_n (pc' := 50) dX9_readStair_49 rfl rfl ?_
      by_cases c9 : q1.1 = q5.1
      · rw [if_pos c9] at h7
        refine mr_icmp_ne_f (t := 69) (pc' := 53) dX9_readStair_50 (by decide) rfl (not_not_intro c9) ?_
        refine mr_aload_n (pc' := 54) dX9_readStair_53 rfl rfl ?_
        refine mr_getR (pc' := 57) (ci := 9) (j := 0) (b := 1) hR dX9_readStair_54 rfl rfl rfl (by decide) (by decide) (by decide) rfl rfl ?_
        refine mr_aload_n (pc' := 58) dX9_readStair_57 rfl rfl ?_
        refine mr_getR (pc' := 61) (ci := 9) (j := 0) (b := 1) hR dX9_readStair_58 rfl rfl rfl (by decide) (by decide) (by decide) rfl rfl ?_
        refine mr_getI (pc' := 64) (ci := 7) (j := 3) dX9_readStair_61 rfl rfl rfl (by decide) (by decide) rfl ?_
        refine mr_iconst (pc' := 65) (v := (1 : Int32)) dX9_readStair_64 rfl (by decide) ?_
        obtain ⟨q21, g22, h23⟩ := Option.bind_eq_some_iff.mp h7
        refine mr_cv (pc' := 68) (a := 1) (d1 := 0) dX9_readStair_65 rfl rfl rfl rfl rfl rfl (by decide) rfl (by decide) (ok_X7_fail hR  g22) ?_
        show mr X _ _ 68 _ [.int q21.1] (MM RR q21.2) _
        obtain ⟨z24, g25, h26⟩ := Option.bind_eq_some_iff.mp h23
        obtain ⟨g27, e28⟩ := mm_ifs g25
        cases e28
        cases h26
        exact mr_zreturn dX9_readStair_68 rfl g27
      · rw [if_neg c9] at h7
        refine mr_icmp_ne_t (t := 69) dX9_readStair_50 (by decide) c9 ?_
        refine mr_aload_n (pc' := 70) dX9_readStair_69 rfl rfl ?_
        refine mr_getR (pc' := 73) (ci := 9) (j := 0) (b := 1) hR dX9_readStair_70 rfl rfl rfl (by decide) (by decide) (by decide) rfl rfl ?_
        refine mr_iconst (pc' := 74) (v := (1 : Int32)) dX9_readStair_73 rfl (by decide) ?_
        refine mr_bipush (pc' := 76) (v := (9 : Int32)) dX9_readStair_74 rfl (by decide) ?_
        obtain ⟨q10, g11, h12⟩ := Option.bind_eq_some_iff.mp h7
        refine mr_cv (pc' := 79) (a := 1) (d1 := 2) dX9_readStair_76 rfl rfl rfl rfl rfl rfl (by decide) rfl (by decide) (ok_X7_takeNumber hR  g11) ?_
        show mr X _ _ 79 _ [.int q10.1] (MM RR q10.2) _
        refine mr_istore_n (pc' := 80) (lv' := [(3, .int q10.1), (2, .int q5.1), (1, .int q1.1), (0, .ref 37)]) dX9_readStair_79 rfl (by decide) rfl ?_
        refine mr_iload_n (pc' := 81) dX9_readStair_80 rfl rfl ?_
        by_cases c13 : (0 : Int32) ≤ q10.1
        · rw [if_pos c13] at h12
          refine mr_if_ge_t (t := 86) dX9_readStair_81 (by decide) c13 ?_
          refine mr_aload_n (pc' := 87) dX9_readStair_86 rfl rfl ?_
          obtain ⟨q14, g15, h16⟩ := Option.bind_eq_some_iff.mp h12
          refine mr_cv (pc' := 90) (a := 37) (d1 := 3) dX9_readStair_87 rfl rfl rfl rfl rfl rfl (by decide) rfl (by decide) (ok_X9_readPace hR  g15) ?_
          show mr X _ _ 90 _ [.long q14.1] (MM RR q14.2) _
          refine mr_lstore (pc' := 92) (lv' := [(4, .long q14.1), (3, .int q10.1), (2, .int q5.1), (1, .int q1.1), (0, .ref 37)]) dX9_readStair_90 rfl (by decide) rfl ?_
          refine mr_lload (pc' := 94) dX9_readStair_92 rfl rfl ?_
          refine mr_lconst (pc' := 95) (v := (0 : Int64)) dX9_readStair_94 rfl (by decide) ?_
          by_cases c17 : (0 : Int64) ≤ q14.1
          · rw [if_pos c17] at h16
            refine mr_lcmp_ge_t (t := 101) dX9_readStair_95 rfl dX9_readStair_96 (by decide) c17 ?_
            refine mr_aload_n (pc' := 102) dX9_readStair_101 rfl rfl ?_
            refine mr_getR (pc' := 105) (ci := 9) (j := 1) (b := 24) hR dX9_readStair_102 rfl rfl rfl (by decide) (by decide) (by decide) rfl rfl ?_
            refine mr_iload_n (pc' := 106) dX9_readStair_105 rfl rfl ?_
            refine mr_iload_n (pc' := 107) dX9_readStair_106 rfl rfl ?_
            refine mr_iload_n (pc' := 108) dX9_readStair_107 rfl rfl ?_
            refine mr_lload (pc' := 110) dX9_readStair_108 rfl rfl ?_
            obtain ⟨q18, g19, h20⟩ := Option.bind_eq_some_iff.mp h16
            refine mr_cv (pc' := 113) (a := 24) (d1 := 0) dX9_readStair_110 rfl rfl rfl rfl rfl rfl (by decide) rfl (by decide) (ok_X8_addStair hR rfl g19) ?_
            show mr X _ _ 113 _ [] (MM RR q18) _
            refine mr_iconst (pc' := 114) (v := (1 : Int32)) dX9_readStair_113 rfl (by decide) ?_
            obtain rfl := Option.some.inj h20
            exact mr_zreturn dX9_readStair_114 rfl (by decide)
          · rw [if_neg c17] at h16
            refine mr_lcmp_ge_f (t := 101) (pc' := 99) dX9_readStair_95 rfl dX9_readStair_96 (by decide) rfl c17 ?_
            refine mr_iconst (pc' := 100) (v := (0 : Int32)) dX9_readStair_99 rfl (by decide) ?_
            obtain rfl := Option.some.inj h16
            exact mr_zreturn dX9_readStair_100 rfl (by decide)
        · rw [if_neg c13] at h12
          refine mr_if_ge_f (t := 86) (pc' := 84) dX9_readStair_81 (by decide) rfl c13 ?_
          refine mr_iconst (pc' := 85) (v := (0 : Int32)) dX9_readStair_84 rfl (by decide) ?_
          obtain rfl := Option.some.inj h12
          exact mr_zreturn dX9_readStair_85 rfl (by decide)
    · rw [if_neg c8] at h7
      refine mr_if_ge_f (t := 48) (pc' := 46) dX9_readStair_43 (by decide) rfl c8 ?_
      refine mr_iconst (pc' := 47) (v := (0 : Int32)) dX9_readStair_46 rfl (by decide) ?_
      obtain rfl := Option.some.inj h7
      exact mr_zreturn dX9_readStair_47 rfl (by decide)
  · rw [if_neg c4] at h3
    refine mr_if_ge_f (t := 24) (pc' := 22) dX9_readStair_19 (by decide) rfl c4 ?_
    refine mr_iconst (pc' := 23) (v := (0 : Int32)) dX9_readStair_22 rfl (by decide) ?_
    obtain rfl := Option.some.inj h3
    exact mr_zreturn dX9_readStair_23 rfl (by decide)
def f_X0_putOn (v0 : Nat) (v1 : Int32) (v2 : Int32) (S : fS) : Option (fS) :=
  (sI S (v0 + 1) 8 v1 v2).bind fun S1 =>
  (sI S1 (v0 + 2) 8 v1 (-1 : Int32)).bind fun S4 =>
  (sI S4 (v0 + 3) 8 v1 (0 : Int32)).bind fun S7 =>
  (sI S7 (v0 + 4) 8 v1 (-1 : Int32)).bind fun S10 =>
  some S10
set_option maxHeartbeats 4000000 in
set_option maxRecDepth 100000 in
theorem ok_X0_putOn {X : mm_C} {RR : Nat → Nat → Option Nat} (hR : RRok RR) {v0 : Nat} {v1 : Int32} {v2 : Int32} (t0 : tg v0 = 0) {S : fS} {r : fS} (h : f_X0_putOn v0 v1 v2 S = some r) : mr X 0 mY_X0_putOn 0 (lv_args 0 [.ref v0, .int v1, .int v2]) [] (MM RR S) (none, MM RR r) := by
  unfold f_X0_putOn at h
  show mr X _ _ 0 [(0, .ref v0), (1, .int v1), (2, .int v2)] [] (MM RR S) _
  refine mr_aload_n (pc' := 1) dX0_putOn_0 rfl rfl ?_
  refine mr_getR (pc' := 4) (ci := 0) (j := 0) (b := (v0 + 1)) hR dX0_putOn_1 rfl rfl t0 (by decide) (by decide) (by decide) rfl (ly0_0 t0).1 ?_
  refine mr_iload_n (pc' := 5) dX0_putOn_4 rfl rfl ?_
  refine mr_iload_n (pc' := 6) dX0_putOn_5 rfl rfl ?_
  obtain ⟨S1, g2, h3⟩ := Option.bind_eq_some_iff.mp h
  refine mr_iast (pc' := 7) dX0_putOn_6 rfl (ly0_0 t0).2.1 (ly0_0 t0).2.2 g2 ?_
  refine mr_aload_n (pc' := 8) dX0_putOn_7 rfl rfl ?_
  refine mr_getR (pc' := 11) (ci := 0) (j := 1) (b := (v0 + 2)) hR dX0_putOn_8 rfl rfl t0 (by decide) (by decide) (by decide) rfl (ly0_1 t0).1 ?_
  refine mr_iload_n (pc' := 12) dX0_putOn_11 rfl rfl ?_
  refine mr_iconst (pc' := 13) (v := (-1 : Int32)) dX0_putOn_12 rfl (by decide) ?_
  obtain ⟨S4, g5, h6⟩ := Option.bind_eq_some_iff.mp h3
  refine mr_iast (pc' := 14) dX0_putOn_13 rfl (ly0_1 t0).2.1 (ly0_1 t0).2.2 g5 ?_
  refine mr_aload_n (pc' := 15) dX0_putOn_14 rfl rfl ?_
  refine mr_getR (pc' := 18) (ci := 0) (j := 2) (b := (v0 + 3)) hR dX0_putOn_15 rfl rfl t0 (by decide) (by decide) (by decide) rfl (ly0_2 t0).1 ?_
  refine mr_iload_n (pc' := 19) dX0_putOn_18 rfl rfl ?_
  refine mr_iconst (pc' := 20) (v := (0 : Int32)) dX0_putOn_19 rfl (by decide) ?_
  obtain ⟨S7, g8, h9⟩ := Option.bind_eq_some_iff.mp h6
  refine mr_iast (pc' := 21) dX0_putOn_20 rfl (ly0_2 t0).2.1 (ly0_2 t0).2.2 g8 ?_
  refine mr_aload_n (pc' := 22) dX0_putOn_21 rfl rfl ?_
  refine mr_getR (pc' := 25) (ci := 0) (j := 3) (b := (v0 + 4)) hR dX0_putOn_22 rfl rfl t0 (by decide) (by decide) (by decide) rfl (ly0_3 t0).1 ?_
  refine mr_iload_n (pc' := 26) dX0_putOn_25 rfl rfl ?_
  refine mr_iconst (pc' := 27) (v := (-1 : Int32)) dX0_putOn_26 rfl (by decide) ?_
  obtain ⟨S10, g11, h12⟩ := Option.bind_eq_some_iff.mp h9
  refine mr_iast (pc' := 28) dX0_putOn_27 rfl (ly0_3 t0).2.1 (ly0_3 t0).2.2 g11 ?_
  obtain rfl := Option.some.inj h12
  exact mr_return dX0_putOn_28 rfl
def f_X0_addThing (v0 : Nat) (v1 : Int32) (S : fS) : Option (fS) :=
  if (8 : Int32) ≤ (S.1 v0 5) then (some S) else
  ((f_X0_putOn v0 (S.1 v0 5) v1 S).bind fun q2 =>
  (sL q2 (v0 + 5) 8 (q2.1 v0 5) (0 : Int64)).bind fun S5 =>
  (some (pI S5 v0 5 ((S5.1 v0 5) + (1 : Int32)))).bind fun S8 =>
  some S8)
set_option maxHeartbeats 4000000 in
set_option maxRecDepth 100000 in
theorem ok_X0_addThing {X : mm_C} {RR : Nat → Nat → Option Nat} (hR : RRok RR) {v0 : Nat} {v1 : Int32} (t0 : tg v0 = 0) {S : fS} {r : fS} (h : f_X0_addThing v0 v1 S = some r) : mr X 1 mY_X0_addThing 0 (lv_args 0 [.ref v0, .int v1]) [] (MM RR S) (none, MM RR r) := by
  unfold f_X0_addThing at h
  show mr X _ _ 0 [(0, .ref v0), (1, .int v1)] [] (MM RR S) _
  refine mr_aload_n (pc' := 1) dX0_addThing_0 rfl rfl ?_
  refine mr_getI (pc' := 4) (ci := 0) (j := 5) dX0_addThing_1 rfl rfl t0 (by decide) (by decide) rfl ?_
  refine mr_bipush (pc' := 6) (v := (8 : Int32)) dX0_addThing_4 rfl (by decide) ?_
  by_cases c1 : (8 : Int32) ≤ (S.1 v0 5)
  · rw [if_pos c1] at h
    refine mr_icmp_ge_t (t := 38) dX0_addThing_6 (by decide) c1 ?_
    obtain rfl := Option.some.inj h
    exact mr_return dX0_addThing_38 rfl
  · rw [if_neg c1] at h
    refine mr_icmp_ge_f (t := 38) (pc' := 9) dX0_addThing_6 (by decide) rfl c1 ?_
    refine mr_aload_n (pc' := 10) dX0_addThing_9 rfl rfl ?_
    refine mr_aload_n (pc' := 11) dX0_addThing_10 rfl rfl ?_
    refine mr_getI (pc' := 14) (ci := 0) (j := 5) dX0_addThing_11 rfl rfl t0 (by decide) (by decide) rfl ?_
    refine mr_iload_n (pc' := 15) dX0_addThing_14 rfl rfl ?_
    obtain ⟨q2, g3, h4⟩ := Option.bind_eq_some_iff.mp h
    refine mr_cv (pc' := 18) (a := v0) (d1 := 0) dX0_addThing_15 rfl rfl rfl rfl rfl t0 (by decide) rfl (by decide) (ok_X0_putOn hR t0 g3) ?_
    show mr X _ _ 18 _ [] (MM RR q2) _
    refine mr_aload_n (pc' := 19) dX0_addThing_18 rfl rfl ?_
    refine mr_getR (pc' := 22) (ci := 0) (j := 4) (b := (v0 + 5)) hR dX0_addThing_19 rfl rfl t0 (by decide) (by decide) (by decide) rfl (ly0_4 t0).1 ?_
    refine mr_aload_n (pc' := 23) dX0_addThing_22 rfl rfl ?_
    refine mr_getI (pc' := 26) (ci := 0) (j := 5) dX0_addThing_23 rfl rfl t0 (by decide) (by decide) rfl ?_
    refine mr_lconst (pc' := 27) (v := (0 : Int64)) dX0_addThing_26 rfl (by decide) ?_
    obtain ⟨S5, g6, h7⟩ := Option.bind_eq_some_iff.mp h4
    refine mr_last (pc' := 28) dX0_addThing_27 rfl (ly0_4 t0).2.1 (ly0_4 t0).2.2 g6 ?_
    refine mr_aload_n (pc' := 29) dX0_addThing_28 rfl rfl ?_
    refine mr_dup_ref (pc' := 30) dX0_addThing_29 rfl ?_
    refine mr_getI (pc' := 33) (ci := 0) (j := 5) dX0_addThing_30 rfl rfl t0 (by decide) (by decide) rfl ?_
    refine mr_iconst (pc' := 34) (v := (1 : Int32)) dX0_addThing_33 rfl (by decide) ?_
    refine mr_iadd (pc' := 35) dX0_addThing_34 rfl ?_
    obtain ⟨S8, g9, h10⟩ := Option.bind_eq_some_iff.mp h7
    refine mr_putI (pc' := 38) (ci := 0) (j := 5) dX0_addThing_35 rfl rfl t0 (by decide) (by decide) rfl rfl ?_
    rw [Option.some.inj g9]
    obtain rfl := Option.some.inj h10
    exact mr_return dX0_addThing_38 rfl
def f_X9_readThing  (S : fS) : Option (Int32 × fS) :=
  (f_X7_takeNumber (0 : Int32) ((S.1 24 6) - (1 : Int32)) S).bind fun q1 =>
  if (0 : Int32) ≤ q1.1 then ((f_X0_addThing 31 q1.1 q1.2).bind fun q5 =>
  some ((1 : Int32), q5)) else
  (some ((0 : Int32), q1.2))
set_option maxHeartbeats 4000000 in
set_option maxRecDepth 100000 in
theorem ok_X9_readThing {X : mm_C} {RR : Nat → Nat → Option Nat} (hR : RRok RR)   {S : fS} {r : Int32 × fS} (h : f_X9_readThing  S = some r) : mr X 3 mY_X9_readThing 0 (lv_args 0 [.ref 37]) [] (MM RR S) (some (.int r.1), MM RR r.2) := by
  unfold f_X9_readThing at h
  show mr X _ _ 0 [(0, .ref 37)] [] (MM RR S) _
  refine mr_aload_n (pc' := 1) dX9_readThing_0 rfl rfl ?_
  refine mr_getR (pc' := 4) (ci := 9) (j := 0) (b := 1) hR dX9_readThing_1 rfl rfl rfl (by decide) (by decide) (by decide) rfl rfl ?_
  refine mr_iconst (pc' := 5) (v := (0 : Int32)) dX9_readThing_4 rfl (by decide) ?_
  refine mr_aload_n (pc' := 6) dX9_readThing_5 rfl rfl ?_
  refine mr_getR (pc' := 9) (ci := 9) (j := 1) (b := 24) hR dX9_readThing_6 rfl rfl rfl (by decide) (by decide) (by decide) rfl rfl ?_
  refine mr_getI (pc' := 12) (ci := 8) (j := 6) dX9_readThing_9 rfl rfl rfl (by decide) (by decide) rfl ?_
  refine mr_iconst (pc' := 13) (v := (1 : Int32)) dX9_readThing_12 rfl (by decide) ?_
  refine mr_isub (pc' := 14) dX9_readThing_13 rfl ?_
  obtain ⟨q1, g2, h3⟩ := Option.bind_eq_some_iff.mp h
  refine mr_cv (pc' := 17) (a := 1) (d1 := 2) dX9_readThing_14 rfl rfl rfl rfl rfl rfl (by decide) rfl (by decide) (ok_X7_takeNumber hR  g2) ?_
  show mr X _ _ 17 _ [.int q1.1] (MM RR q1.2) _
  refine mr_istore_n (pc' := 18) (lv' := [(1, .int q1.1), (0, .ref 37)]) dX9_readThing_17 rfl (by decide) rfl ?_
  refine mr_iload_n (pc' := 19) dX9_readThing_18 rfl rfl ?_
  by_cases c4 : (0 : Int32) ≤ q1.1
  · rw [if_pos c4] at h3
    refine mr_if_ge_t (t := 24) dX9_readThing_19 (by decide) c4 ?_
    refine mr_aload_n (pc' := 25) dX9_readThing_24 rfl rfl ?_
    refine mr_getR (pc' := 28) (ci := 9) (j := 2) (b := 31) hR dX9_readThing_25 rfl rfl rfl (by decide) (by decide) (by decide) rfl rfl ?_
    refine mr_iload_n (pc' := 29) dX9_readThing_28 rfl rfl ?_
    obtain ⟨q5, g6, h7⟩ := Option.bind_eq_some_iff.mp h3
    refine mr_cv (pc' := 32) (a := 31) (d1 := 1) dX9_readThing_29 rfl rfl rfl rfl rfl rfl (by decide) rfl (by decide) (ok_X0_addThing hR rfl g6) ?_
    show mr X _ _ 32 _ [] (MM RR q5) _
    refine mr_iconst (pc' := 33) (v := (1 : Int32)) dX9_readThing_32 rfl (by decide) ?_
    obtain rfl := Option.some.inj h7
    exact mr_zreturn dX9_readThing_33 rfl (by decide)
  · rw [if_neg c4] at h3
    refine mr_if_ge_f (t := 24) (pc' := 22) dX9_readThing_19 (by decide) rfl c4 ?_
    refine mr_iconst (pc' := 23) (v := (0 : Int32)) dX9_readThing_22 rfl (by decide) ?_
    obtain rfl := Option.some.inj h3
    exact mr_zreturn dX9_readThing_23 rfl (by decide)
def j_X9_readClause_155   (S : fS) : Option (Int32 × fS) :=
  (f_X7_fail (S.1 1 3) (4 : Int32) S).bind fun q11 =>
  (bZ q11.1).bind fun z14 => some (z14, q11.2)
set_option maxHeartbeats 4000000 in
set_option maxRecDepth 100000 in
theorem ok_j_X9_readClause_155 {X : mm_C} {RR : Nat → Nat → Option Nat} (hR : RRok RR)   {S : fS} {r : Int32 × fS} (h : j_X9_readClause_155   S = some r) : mr X 5 mY_X9_readClause 155 [(0, .ref 37)] [] (MM RR S) (some (.int r.1), MM RR r.2) := by
  unfold j_X9_readClause_155 at h
  refine mr_aload_n (pc' := 156) dX9_readClause_155 rfl rfl ?_
  refine mr_getR (pc' := 159) (ci := 9) (j := 0) (b := 1) hR dX9_readClause_156 rfl rfl rfl (by decide) (by decide) (by decide) rfl rfl ?_
  refine mr_aload_n (pc' := 160) dX9_readClause_159 rfl rfl ?_
  refine mr_getR (pc' := 163) (ci := 9) (j := 0) (b := 1) hR dX9_readClause_160 rfl rfl rfl (by decide) (by decide) (by decide) rfl rfl ?_
  refine mr_getI (pc' := 166) (ci := 7) (j := 3) dX9_readClause_163 rfl rfl rfl (by decide) (by decide) rfl ?_
  refine mr_iconst (pc' := 167) (v := (4 : Int32)) dX9_readClause_166 rfl (by decide) ?_
  obtain ⟨q11, g12, h13⟩ := Option.bind_eq_some_iff.mp h
  refine mr_cv (pc' := 170) (a := 1) (d1 := 0) dX9_readClause_167 rfl rfl rfl rfl rfl rfl (by decide) rfl (by decide) (ok_X7_fail hR  g12) ?_
  show mr X _ _ 170 _ [.int q11.1] (MM RR q11.2) _
  obtain ⟨z14, g15, h16⟩ := Option.bind_eq_some_iff.mp h13
  obtain ⟨g17, e18⟩ := mm_ifs g15
  cases e18
  cases h16
  exact mr_zreturn dX9_readClause_170 rfl g17
def j_X9_readClause_195  (s0 : Int32) (S : fS) : Option (Int32 × fS) :=
  (bZ s0).bind fun z25 => some (z25, S)
set_option maxHeartbeats 4000000 in
set_option maxRecDepth 100000 in
theorem ok_j_X9_readClause_195 {X : mm_C} {RR : Nat → Nat → Option Nat} (hR : RRok RR)  {s0 : Int32} {S : fS} {r : Int32 × fS} (h : j_X9_readClause_195  s0 S = some r) : mr X 5 mY_X9_readClause 195 [] [.int s0] (MM RR S) (some (.int r.1), MM RR r.2) := by
  unfold j_X9_readClause_195 at h
  obtain ⟨z25, g26, h27⟩ := Option.bind_eq_some_iff.mp h
  obtain ⟨g28, e29⟩ := mm_ifs g26
  cases e29
  cases h27
  exact mr_zreturn dX9_readClause_195 rfl g28
def j_X9_readClause_142 (p1 : Int32) (p2 : Int32) (p3 : Int32) (s0 : Int32) (S : fS) : Option (Int32 × fS) :=
  if s0 = (0 : Int32) then (if p1 < (24 : Int32) then (if p2 = (0 : Int32) then (if p3 = (0 : Int32) then ((f_X9_readThing  S).bind fun q22 =>
  j_X9_readClause_195  q22.1 q22.2) else
  ((f_X9_readStair  S).bind fun q30 =>
  j_X9_readClause_195  q30.1 q30.2)) else
  ((f_X9_readFloor  S).bind fun q33 =>
  (bZ q33.1).bind fun z36 => some (z36, q33.2))) else
  (j_X9_readClause_155   S)) else
  (j_X9_readClause_155   S)
set_option maxHeartbeats 4000000 in
set_option maxRecDepth 100000 in
theorem ok_j_X9_readClause_142 {X : mm_C} {RR : Nat → Nat → Option Nat} (hR : RRok RR) {p1 : Int32} {p2 : Int32} {p3 : Int32} {s0 : Int32} {S : fS} {r : Int32 × fS} (h : j_X9_readClause_142 p1 p2 p3 s0 S = some r) : mr X 5 mY_X9_readClause 142 [(0, .ref 37), (1, .int p1), (2, .int p2), (3, .int p3)] [.int s0] (MM RR S) (some (.int r.1), MM RR r.2) := by
  unfold j_X9_readClause_142 at h
  refine mr_istore (pc' := 144) (lv' := [(5, .int s0), (0, .ref 37), (1, .int p1), (2, .int p2), (3, .int p3)]) dX9_readClause_142 rfl (by decide) rfl ?_
  refine mr_iload (pc' := 146) dX9_readClause_144 rfl rfl ?_
  by_cases c10 : s0 = (0 : Int32)
  · rw [if_pos c10] at h
    refine mr_if_ne_f (t := 155) (pc' := 149) dX9_readClause_146 (by decide) rfl (not_not_intro c10) ?_
    refine mr_iload_n (pc' := 150) dX9_readClause_149 rfl rfl ?_
    refine mr_bipush (pc' := 152) (v := (24 : Int32)) dX9_readClause_150 rfl (by decide) ?_
    by_cases c19 : p1 < (24 : Int32)
    · rw [if_pos c19] at h
      refine mr_icmp_lt_t (t := 171) dX9_readClause_152 (by decide) c19 ?_
      refine mr_iload_n (pc' := 172) dX9_readClause_171 rfl rfl ?_
      by_cases c20 : p2 = (0 : Int32)
      · rw [if_pos c20] at h
        refine mr_if_eq_t (t := 180) dX9_readClause_172 (by decide) c20 ?_
        refine mr_iload_n (pc' := 181) dX9_readClause_180 rfl rfl ?_
        by_cases c21 : p3 = (0 : Int32)
        · rw [if_pos c21] at h
          refine mr_if_eq_t (t := 191) dX9_readClause_181 (by decide) c21 ?_
          refine mr_aload_n (pc' := 192) dX9_readClause_191 rfl rfl ?_
          obtain ⟨q22, g23, h24⟩ := Option.bind_eq_some_iff.mp h
          refine mr_cv (pc' := 195) (a := 37) (d1 := 3) dX9_readClause_192 rfl rfl rfl rfl rfl rfl (by decide) rfl (by decide) (ok_X9_readThing hR  g23) ?_
          show mr X _ _ 195 _ [.int q22.1] (MM RR q22.2) _
          exact mr_sub [] trivial rfl (ok_j_X9_readClause_195 hR h24)
        · rw [if_neg c21] at h
          refine mr_if_eq_f (t := 191) (pc' := 184) dX9_readClause_181 (by decide) rfl c21 ?_
          refine mr_aload_n (pc' := 185) dX9_readClause_184 rfl rfl ?_
          obtain ⟨q30, g31, h32⟩ := Option.bind_eq_some_iff.mp h
          refine mr_cv (pc' := 188) (a := 37) (d1 := 4) dX9_readClause_185 rfl rfl rfl rfl rfl rfl (by decide) rfl (by decide) (ok_X9_readStair hR  g31) ?_
          show mr X _ _ 188 _ [.int q30.1] (MM RR q30.2) _
          refine mr_goto (t := 195) dX9_readClause_188 (by decide) ?_
          exact mr_sub [] trivial rfl (ok_j_X9_readClause_195 hR h32)
      · rw [if_neg c20] at h
        refine mr_if_eq_f (t := 180) (pc' := 175) dX9_readClause_172 (by decide) rfl c20 ?_
        refine mr_aload_n (pc' := 176) dX9_readClause_175 rfl rfl ?_
        obtain ⟨q33, g34, h35⟩ := Option.bind_eq_some_iff.mp h
        refine mr_cv (pc' := 179) (a := 37) (d1 := 4) dX9_readClause_176 rfl rfl rfl rfl rfl rfl (by decide) rfl (by decide) (ok_X9_readFloor hR  g34) ?_
        show mr X _ _ 179 _ [.int q33.1] (MM RR q33.2) _
        obtain ⟨z36, g37, h38⟩ := Option.bind_eq_some_iff.mp h35
        obtain ⟨g39, e40⟩ := mm_ifs g37
        cases e40
        cases h38
        exact mr_zreturn dX9_readClause_179 rfl g39
    · rw [if_neg c19] at h
      refine mr_icmp_lt_f (t := 171) (pc' := 155) dX9_readClause_152 (by decide) rfl c19 ?_
      exact mr_sub [(0, .ref 37)] ⟨rfl, trivial⟩ rfl (ok_j_X9_readClause_155 hR h)
  · rw [if_neg c10] at h
    refine mr_if_ne_t (t := 155) dX9_readClause_146 (by decide) c10 ?_
    exact mr_sub [(0, .ref 37)] ⟨rfl, trivial⟩ rfl (ok_j_X9_readClause_155 hR h)
def j_X9_readClause_141 (p1 : Int32) (p2 : Int32) (p3 : Int32)  (S : fS) : Option (Int32 × fS) :=
  j_X9_readClause_142 p1 p2 p3 (0 : Int32) S
set_option maxHeartbeats 4000000 in
set_option maxRecDepth 100000 in
theorem ok_j_X9_readClause_141 {X : mm_C} {RR : Nat → Nat → Option Nat} (hR : RRok RR) {p1 : Int32} {p2 : Int32} {p3 : Int32}  {S : fS} {r : Int32 × fS} (h : j_X9_readClause_141 p1 p2 p3  S = some r) : mr X 5 mY_X9_readClause 141 [(0, .ref 37), (1, .int p1), (2, .int p2), (3, .int p3)] [] (MM RR S) (some (.int r.1), MM RR r.2) := by
  unfold j_X9_readClause_141 at h
  refine mr_iconst (pc' := 142) (v := (0 : Int32)) dX9_readClause_141 rfl (by decide) ?_
  exact mr_sub [(0, .ref 37), (1, .int p1), (2, .int p2), (3, .int p3)] ⟨rfl, rfl, rfl, rfl, trivial⟩ rfl (ok_j_X9_readClause_142 hR h)
def j_X9_readClause_137 (p1 : Int32) (p2 : Int32) (p3 : Int32)  (S : fS) : Option (Int32 × fS) :=
  j_X9_readClause_142 p1 p2 p3 (1 : Int32) S
set_option maxHeartbeats 4000000 in
set_option maxRecDepth 100000 in
theorem ok_j_X9_readClause_137 {X : mm_C} {RR : Nat → Nat → Option Nat} (hR : RRok RR) {p1 : Int32} {p2 : Int32} {p3 : Int32}  {S : fS} {r : Int32 × fS} (h : j_X9_readClause_137 p1 p2 p3  S = some r) : mr X 5 mY_X9_readClause 137 [(0, .ref 37), (1, .int p1), (2, .int p2), (3, .int p3)] [] (MM RR S) (some (.int r.1), MM RR r.2) := by
  unfold j_X9_readClause_137 at h
  refine mr_iconst (pc' := 138) (v := (1 : Int32)) dX9_readClause_137 rfl (by decide) ?_
  refine mr_goto (t := 142) dX9_readClause_138 (by decide) ?_
  exact mr_sub [(0, .ref 37), (1, .int p1), (2, .int p2), (3, .int p3)] ⟨rfl, rfl, rfl, rfl, trivial⟩ rfl (ok_j_X9_readClause_142 hR h)
def j_X9_readClause_120 (p1 : Int32) (p2 : Int32) (p3 : Int32) (p4 : Int32)  (S : fS) : Option (Int32 × fS) :=
  if p4 = (0 : Int32) then (j_X9_readClause_141 p1 p2 p3  S) else
  (if (S.1 31 5) < (8 : Int32) then (j_X9_readClause_141 p1 p2 p3  S) else
  (j_X9_readClause_137 p1 p2 p3  S))
set_option maxHeartbeats 4000000 in
set_option maxRecDepth 100000 in
theorem ok_j_X9_readClause_120 {X : mm_C} {RR : Nat → Nat → Option Nat} (hR : RRok RR) {p1 : Int32} {p2 : Int32} {p3 : Int32} {p4 : Int32}  {S : fS} {r : Int32 × fS} (h : j_X9_readClause_120 p1 p2 p3 p4  S = some r) : mr X 5 mY_X9_readClause 120 [(0, .ref 37), (1, .int p1), (2, .int p2), (3, .int p3), (4, .int p4)] [] (MM RR S) (some (.int r.1), MM RR r.2) := by
  unfold j_X9_readClause_120 at h
  refine mr_iload (pc' := 122) dX9_readClause_120 rfl rfl ?_
  by_cases c9 : p4 = (0 : Int32)
  · rw [if_pos c9] at h
    refine mr_if_eq_t (t := 141) dX9_readClause_122 (by decide) c9 ?_
    exact mr_sub [(0, .ref 37), (1, .int p1), (2, .int p2), (3, .int p3)] ⟨rfl, rfl, rfl, rfl, trivial⟩ rfl (ok_j_X9_readClause_141 hR h)
  · rw [if_neg c9] at h
    refine mr_if_eq_f (t := 141) (pc' := 125) dX9_readClause_122 (by decide) rfl c9 ?_
    refine mr_aload_n (pc' := 126) dX9_readClause_125 rfl rfl ?_
    refine mr_getR (pc' := 129) (ci := 9) (j := 2) (b := 31) hR dX9_readClause_126 rfl rfl rfl (by decide) (by decide) (by decide) rfl rfl ?_
    refine mr_getI (pc' := 132) (ci := 0) (j := 5) dX9_readClause_129 rfl rfl rfl (by decide) (by decide) rfl ?_
    refine mr_bipush (pc' := 134) (v := (8 : Int32)) dX9_readClause_132 rfl (by decide) ?_
    by_cases c41 : (S.1 31 5) < (8 : Int32)
    · rw [if_pos c41] at h
      refine mr_icmp_lt_t (t := 141) dX9_readClause_134 (by decide) c41 ?_
      exact mr_sub [(0, .ref 37), (1, .int p1), (2, .int p2), (3, .int p3)] ⟨rfl, rfl, rfl, rfl, trivial⟩ rfl (ok_j_X9_readClause_141 hR h)
    · rw [if_neg c41] at h
      refine mr_icmp_lt_f (t := 141) (pc' := 137) dX9_readClause_134 (by decide) rfl c41 ?_
      exact mr_sub [(0, .ref 37), (1, .int p1), (2, .int p2), (3, .int p3)] ⟨rfl, rfl, rfl, rfl, trivial⟩ rfl (ok_j_X9_readClause_137 hR h)
def j_X9_readClause_104 (p1 : Int32) (p2 : Int32) (p3 : Int32) (p4 : Int32)  (S : fS) : Option (Int32 × fS) :=
  if p3 = (0 : Int32) then (j_X9_readClause_120 p1 p2 p3 p4  S) else
  (if (12 : Int32) ≤ (S.1 24 7) then (j_X9_readClause_137 p1 p2 p3  S) else
  (j_X9_readClause_120 p1 p2 p3 p4  S))
set_option maxHeartbeats 4000000 in
set_option maxRecDepth 100000 in
theorem ok_j_X9_readClause_104 {X : mm_C} {RR : Nat → Nat → Option Nat} (hR : RRok RR) {p1 : Int32} {p2 : Int32} {p3 : Int32} {p4 : Int32}  {S : fS} {r : Int32 × fS} (h : j_X9_readClause_104 p1 p2 p3 p4  S = some r) : mr X 5 mY_X9_readClause 104 [(0, .ref 37), (1, .int p1), (2, .int p2), (3, .int p3), (4, .int p4)] [] (MM RR S) (some (.int r.1), MM RR r.2) := by
  unfold j_X9_readClause_104 at h
  refine mr_iload_n (pc' := 105) dX9_readClause_104 rfl rfl ?_
  by_cases c8 : p3 = (0 : Int32)
  · rw [if_pos c8] at h
    refine mr_if_eq_t (t := 120) dX9_readClause_105 (by decide) c8 ?_
    exact mr_sub [(0, .ref 37), (1, .int p1), (2, .int p2), (3, .int p3), (4, .int p4)] ⟨rfl, rfl, rfl, rfl, rfl, trivial⟩ rfl (ok_j_X9_readClause_120 hR h)
  · rw [if_neg c8] at h
    refine mr_if_eq_f (t := 120) (pc' := 108) dX9_readClause_105 (by decide) rfl c8 ?_
    refine mr_aload_n (pc' := 109) dX9_readClause_108 rfl rfl ?_
    refine mr_getR (pc' := 112) (ci := 9) (j := 1) (b := 24) hR dX9_readClause_109 rfl rfl rfl (by decide) (by decide) (by decide) rfl rfl ?_
    refine mr_getI (pc' := 115) (ci := 8) (j := 7) dX9_readClause_112 rfl rfl rfl (by decide) (by decide) rfl ?_
    refine mr_bipush (pc' := 117) (v := (12 : Int32)) dX9_readClause_115 rfl (by decide) ?_
    by_cases c42 : (12 : Int32) ≤ (S.1 24 7)
    · rw [if_pos c42] at h
      refine mr_icmp_ge_t (t := 137) dX9_readClause_117 (by decide) c42 ?_
      exact mr_sub [(0, .ref 37), (1, .int p1), (2, .int p2), (3, .int p3)] ⟨rfl, rfl, rfl, rfl, trivial⟩ rfl (ok_j_X9_readClause_137 hR h)
    · rw [if_neg c42] at h
      refine mr_icmp_ge_f (t := 137) (pc' := 120) dX9_readClause_117 (by decide) rfl c42 ?_
      exact mr_sub [(0, .ref 37), (1, .int p1), (2, .int p2), (3, .int p3), (4, .int p4)] ⟨rfl, rfl, rfl, rfl, rfl, trivial⟩ rfl (ok_j_X9_readClause_120 hR h)
def j_X9_readClause_88 (p1 : Int32) (p2 : Int32) (p3 : Int32) (p4 : Int32)  (S : fS) : Option (Int32 × fS) :=
  if p2 = (0 : Int32) then (j_X9_readClause_104 p1 p2 p3 p4  S) else
  (if (10 : Int32) ≤ (S.1 24 6) then (j_X9_readClause_137 p1 p2 p3  S) else
  (j_X9_readClause_104 p1 p2 p3 p4  S))
set_option maxHeartbeats 4000000 in
set_option maxRecDepth 100000 in
theorem ok_j_X9_readClause_88 {X : mm_C} {RR : Nat → Nat → Option Nat} (hR : RRok RR) {p1 : Int32} {p2 : Int32} {p3 : Int32} {p4 : Int32}  {S : fS} {r : Int32 × fS} (h : j_X9_readClause_88 p1 p2 p3 p4  S = some r) : mr X 5 mY_X9_readClause 88 [(0, .ref 37), (1, .int p1), (2, .int p2), (3, .int p3), (4, .int p4)] [] (MM RR S) (some (.int r.1), MM RR r.2) := by
  unfold j_X9_readClause_88 at h
  refine mr_iload_n (pc' := 89) dX9_readClause_88 rfl rfl ?_
  by_cases c7 : p2 = (0 : Int32)
  · rw [if_pos c7] at h
    refine mr_if_eq_t (t := 104) dX9_readClause_89 (by decide) c7 ?_
    exact mr_sub [(0, .ref 37), (1, .int p1), (2, .int p2), (3, .int p3), (4, .int p4)] ⟨rfl, rfl, rfl, rfl, rfl, trivial⟩ rfl (ok_j_X9_readClause_104 hR h)
  · rw [if_neg c7] at h
    refine mr_if_eq_f (t := 104) (pc' := 92) dX9_readClause_89 (by decide) rfl c7 ?_
    refine mr_aload_n (pc' := 93) dX9_readClause_92 rfl rfl ?_
    refine mr_getR (pc' := 96) (ci := 9) (j := 1) (b := 24) hR dX9_readClause_93 rfl rfl rfl (by decide) (by decide) (by decide) rfl rfl ?_
    refine mr_getI (pc' := 99) (ci := 8) (j := 6) dX9_readClause_96 rfl rfl rfl (by decide) (by decide) rfl ?_
    refine mr_bipush (pc' := 101) (v := (10 : Int32)) dX9_readClause_99 rfl (by decide) ?_
    by_cases c43 : (10 : Int32) ≤ (S.1 24 6)
    · rw [if_pos c43] at h
      refine mr_icmp_ge_t (t := 137) dX9_readClause_101 (by decide) c43 ?_
      exact mr_sub [(0, .ref 37), (1, .int p1), (2, .int p2), (3, .int p3)] ⟨rfl, rfl, rfl, rfl, trivial⟩ rfl (ok_j_X9_readClause_137 hR h)
    · rw [if_neg c43] at h
      refine mr_icmp_ge_f (t := 137) (pc' := 104) dX9_readClause_101 (by decide) rfl c43 ?_
      exact mr_sub [(0, .ref 37), (1, .int p1), (2, .int p2), (3, .int p3), (4, .int p4)] ⟨rfl, rfl, rfl, rfl, rfl, trivial⟩ rfl (ok_j_X9_readClause_104 hR h)
def j_X9_readClause_57 (p1 : Int32) (p2 : Int32) (p3 : Int32) (s0 : Int32) (S : fS) : Option (Int32 × fS) :=
  if p2 = (0 : Int32) then (if p3 = (0 : Int32) then (if s0 = (0 : Int32) then ((f_X7_fail (S.1 1 2) (0 : Int32) S).bind fun q46 =>
  (bZ q46.1).bind fun z49 => some (z49, q46.2)) else
  (j_X9_readClause_88 p1 p2 p3 s0  S)) else
  (j_X9_readClause_88 p1 p2 p3 s0  S)) else
  (j_X9_readClause_88 p1 p2 p3 s0  S)
set_option maxHeartbeats 4000000 in
set_option maxRecDepth 100000 in
theorem ok_j_X9_readClause_57 {X : mm_C} {RR : Nat → Nat → Option Nat} (hR : RRok RR) {p1 : Int32} {p2 : Int32} {p3 : Int32} {s0 : Int32} {S : fS} {r : Int32 × fS} (h : j_X9_readClause_57 p1 p2 p3 s0 S = some r) : mr X 5 mY_X9_readClause 57 [(0, .ref 37), (1, .int p1), (2, .int p2), (3, .int p3)] [.int s0] (MM RR S) (some (.int r.1), MM RR r.2) := by
  unfold j_X9_readClause_57 at h
  refine mr_istore (pc' := 59) (lv' := [(4, .int s0), (0, .ref 37), (1, .int p1), (2, .int p2), (3, .int p3)]) dX9_readClause_57 rfl (by decide) rfl ?_
  refine mr_iload_n (pc' := 60) dX9_readClause_59 rfl rfl ?_
  by_cases c6 : p2 = (0 : Int32)
  · rw [if_pos c6] at h
    refine mr_if_ne_f (t := 88) (pc' := 63) dX9_readClause_60 (by decide) rfl (not_not_intro c6) ?_
    refine mr_iload_n (pc' := 64) dX9_readClause_63 rfl rfl ?_
    by_cases c44 : p3 = (0 : Int32)
    · rw [if_pos c44] at h
      refine mr_if_ne_f (t := 88) (pc' := 67) dX9_readClause_64 (by decide) rfl (not_not_intro c44) ?_
      refine mr_iload (pc' := 69) dX9_readClause_67 rfl rfl ?_
      by_cases c45 : s0 = (0 : Int32)
      · rw [if_pos c45] at h
        refine mr_if_ne_f (t := 88) (pc' := 72) dX9_readClause_69 (by decide) rfl (not_not_intro c45) ?_
        refine mr_aload_n (pc' := 73) dX9_readClause_72 rfl rfl ?_
        refine mr_getR (pc' := 76) (ci := 9) (j := 0) (b := 1) hR dX9_readClause_73 rfl rfl rfl (by decide) (by decide) (by decide) rfl rfl ?_
        refine mr_aload_n (pc' := 77) dX9_readClause_76 rfl rfl ?_
        refine mr_getR (pc' := 80) (ci := 9) (j := 0) (b := 1) hR dX9_readClause_77 rfl rfl rfl (by decide) (by decide) (by decide) rfl rfl ?_
        refine mr_getI (pc' := 83) (ci := 7) (j := 2) dX9_readClause_80 rfl rfl rfl (by decide) (by decide) rfl ?_
        refine mr_iconst (pc' := 84) (v := (0 : Int32)) dX9_readClause_83 rfl (by decide) ?_
        obtain ⟨q46, g47, h48⟩ := Option.bind_eq_some_iff.mp h
        refine mr_cv (pc' := 87) (a := 1) (d1 := 0) dX9_readClause_84 rfl rfl rfl rfl rfl rfl (by decide) rfl (by decide) (ok_X7_fail hR  g47) ?_
        show mr X _ _ 87 _ [.int q46.1] (MM RR q46.2) _
        obtain ⟨z49, g50, h51⟩ := Option.bind_eq_some_iff.mp h48
        obtain ⟨g52, e53⟩ := mm_ifs g50
        cases e53
        cases h51
        exact mr_zreturn dX9_readClause_87 rfl g52
      · rw [if_neg c45] at h
        refine mr_if_ne_t (t := 88) dX9_readClause_69 (by decide) c45 ?_
        exact mr_sub [(0, .ref 37), (1, .int p1), (2, .int p2), (3, .int p3), (4, .int s0)] ⟨rfl, rfl, rfl, rfl, rfl, trivial⟩ rfl (ok_j_X9_readClause_88 hR h)
    · rw [if_neg c44] at h
      refine mr_if_ne_t (t := 88) dX9_readClause_64 (by decide) c44 ?_
      exact mr_sub [(0, .ref 37), (1, .int p1), (2, .int p2), (3, .int p3), (4, .int s0)] ⟨rfl, rfl, rfl, rfl, rfl, trivial⟩ rfl (ok_j_X9_readClause_88 hR h)
  · rw [if_neg c6] at h
    refine mr_if_ne_t (t := 88) dX9_readClause_60 (by decide) c6 ?_
    exact mr_sub [(0, .ref 37), (1, .int p1), (2, .int p2), (3, .int p3), (4, .int s0)] ⟨rfl, rfl, rfl, rfl, rfl, trivial⟩ rfl (ok_j_X9_readClause_88 hR h)
def j_X9_readClause_56 (p1 : Int32) (p2 : Int32) (p3 : Int32)  (S : fS) : Option (Int32 × fS) :=
  j_X9_readClause_57 p1 p2 p3 (0 : Int32) S
set_option maxHeartbeats 4000000 in
set_option maxRecDepth 100000 in
theorem ok_j_X9_readClause_56 {X : mm_C} {RR : Nat → Nat → Option Nat} (hR : RRok RR) {p1 : Int32} {p2 : Int32} {p3 : Int32}  {S : fS} {r : Int32 × fS} (h : j_X9_readClause_56 p1 p2 p3  S = some r) : mr X 5 mY_X9_readClause 56 [(0, .ref 37), (1, .int p1), (2, .int p2), (3, .int p3)] [] (MM RR S) (some (.int r.1), MM RR r.2) := by
  unfold j_X9_readClause_56 at h
  refine mr_iconst (pc' := 57) (v := (0 : Int32)) dX9_readClause_56 rfl (by decide) ?_
  exact mr_sub [(0, .ref 37), (1, .int p1), (2, .int p2), (3, .int p3)] ⟨rfl, rfl, rfl, rfl, trivial⟩ rfl (ok_j_X9_readClause_57 hR h)
def j_X9_readClause_31 (p1 : Int32) (p2 : Int32) (s0 : Int32) (S : fS) : Option (Int32 × fS) :=
  if p2 = (0 : Int32) then (if s0 = (0 : Int32) then ((f_X7_takeWord 2 S).bind fun q55 =>
  if q55.1 = (0 : Int32) then (j_X9_readClause_56 p1 p2 s0  q55.2) else
  (j_X9_readClause_57 p1 p2 s0 (1 : Int32) q55.2)) else
  (j_X9_readClause_56 p1 p2 s0  S)) else
  (j_X9_readClause_56 p1 p2 s0  S)
set_option maxHeartbeats 4000000 in
set_option maxRecDepth 100000 in
theorem ok_j_X9_readClause_31 {X : mm_C} {RR : Nat → Nat → Option Nat} (hR : RRok RR) {p1 : Int32} {p2 : Int32} {s0 : Int32} {S : fS} {r : Int32 × fS} (h : j_X9_readClause_31 p1 p2 s0 S = some r) : mr X 5 mY_X9_readClause 31 [(0, .ref 37), (1, .int p1), (2, .int p2)] [.int s0] (MM RR S) (some (.int r.1), MM RR r.2) := by
  unfold j_X9_readClause_31 at h
  refine mr_istore_n (pc' := 32) (lv' := [(3, .int s0), (0, .ref 37), (1, .int p1), (2, .int p2)]) dX9_readClause_31 rfl (by decide) rfl ?_
  refine mr_iload_n (pc' := 33) dX9_readClause_32 rfl rfl ?_
  by_cases c5 : p2 = (0 : Int32)
  · rw [if_pos c5] at h
    refine mr_if_ne_f (t := 56) (pc' := 36) dX9_readClause_33 (by decide) rfl (not_not_intro c5) ?_
    refine mr_iload_n (pc' := 37) dX9_readClause_36 rfl rfl ?_
    by_cases c54 : s0 = (0 : Int32)
    · rw [if_pos c54] at h
      refine mr_if_ne_f (t := 56) (pc' := 40) dX9_readClause_37 (by decide) rfl (not_not_intro c54) ?_
      refine mr_aload_n (pc' := 41) dX9_readClause_40 rfl rfl ?_
      refine mr_getR (pc' := 44) (ci := 9) (j := 0) (b := 1) hR dX9_readClause_41 rfl rfl rfl (by decide) (by decide) (by decide) rfl rfl ?_
      refine mr_ldcS (pc' := 46) (i := 2) dX9_readClause_44 rfl rfl rfl ?_
      obtain ⟨q55, g56, h57⟩ := Option.bind_eq_some_iff.mp h
      refine mr_cv (pc' := 49) (a := 1) (d1 := 4) dX9_readClause_46 rfl rfl rfl rfl rfl rfl (by decide) rfl (by decide) (ok_X7_takeWord hR (by decide) g56) ?_
      show mr X _ _ 49 _ [.int q55.1] (MM RR q55.2) _
      by_cases c58 : q55.1 = (0 : Int32)
      · rw [if_pos c58] at h57
        refine mr_if_eq_t (t := 56) dX9_readClause_49 (by decide) c58 ?_
        exact mr_sub [(0, .ref 37), (1, .int p1), (2, .int p2), (3, .int s0)] ⟨rfl, rfl, rfl, rfl, trivial⟩ rfl (ok_j_X9_readClause_56 hR h57)
      · rw [if_neg c58] at h57
        refine mr_if_eq_f (t := 56) (pc' := 52) dX9_readClause_49 (by decide) rfl c58 ?_
        refine mr_iconst (pc' := 53) (v := (1 : Int32)) dX9_readClause_52 rfl (by decide) ?_
        refine mr_goto (t := 57) dX9_readClause_53 (by decide) ?_
        exact mr_sub [(0, .ref 37), (1, .int p1), (2, .int p2), (3, .int s0)] ⟨rfl, rfl, rfl, rfl, trivial⟩ rfl (ok_j_X9_readClause_57 hR h57)
    · rw [if_neg c54] at h
      refine mr_if_ne_t (t := 56) dX9_readClause_37 (by decide) c54 ?_
      exact mr_sub [(0, .ref 37), (1, .int p1), (2, .int p2), (3, .int s0)] ⟨rfl, rfl, rfl, rfl, trivial⟩ rfl (ok_j_X9_readClause_56 hR h)
  · rw [if_neg c5] at h
    refine mr_if_ne_t (t := 56) dX9_readClause_33 (by decide) c5 ?_
    exact mr_sub [(0, .ref 37), (1, .int p1), (2, .int p2), (3, .int s0)] ⟨rfl, rfl, rfl, rfl, trivial⟩ rfl (ok_j_X9_readClause_56 hR h)
def j_X9_readClause_30 (p1 : Int32) (p2 : Int32)  (S : fS) : Option (Int32 × fS) :=
  j_X9_readClause_31 p1 p2 (0 : Int32) S
set_option maxHeartbeats 4000000 in
set_option maxRecDepth 100000 in
theorem ok_j_X9_readClause_30 {X : mm_C} {RR : Nat → Nat → Option Nat} (hR : RRok RR) {p1 : Int32} {p2 : Int32}  {S : fS} {r : Int32 × fS} (h : j_X9_readClause_30 p1 p2  S = some r) : mr X 5 mY_X9_readClause 30 [(0, .ref 37), (1, .int p1), (2, .int p2)] [] (MM RR S) (some (.int r.1), MM RR r.2) := by
  unfold j_X9_readClause_30 at h
  refine mr_iconst (pc' := 31) (v := (0 : Int32)) dX9_readClause_30 rfl (by decide) ?_
  exact mr_sub [(0, .ref 37), (1, .int p1), (2, .int p2)] ⟨rfl, rfl, rfl, trivial⟩ rfl (ok_j_X9_readClause_31 hR h)
def f_X9_readClause (v1 : Int32) (S : fS) : Option (Int32 × fS) :=
  (f_X7_takeWord 0 S).bind fun q1 =>
  if q1.1 = (0 : Int32) then ((f_X7_takeWord 1 q1.2).bind fun q59 =>
  if q59.1 = (0 : Int32) then (j_X9_readClause_30 v1 q1.1  q59.2) else
  (j_X9_readClause_31 v1 q1.1 (1 : Int32) q59.2)) else
  (j_X9_readClause_30 v1 q1.1  q1.2)
set_option maxHeartbeats 4000000 in
set_option maxRecDepth 100000 in
theorem ok_X9_readClause {X : mm_C} {RR : Nat → Nat → Option Nat} (hR : RRok RR) {v1 : Int32}  {S : fS} {r : Int32 × fS} (h : f_X9_readClause v1 S = some r) : mr X 5 mY_X9_readClause 0 (lv_args 0 [.ref 37, .int v1]) [] (MM RR S) (some (.int r.1), MM RR r.2) := by
  unfold f_X9_readClause at h
  show mr X _ _ 0 [(0, .ref 37), (1, .int v1)] [] (MM RR S) _
  refine mr_aload_n (pc' := 1) dX9_readClause_0 rfl rfl ?_
  refine mr_getR (pc' := 4) (ci := 9) (j := 0) (b := 1) hR dX9_readClause_1 rfl rfl rfl (by decide) (by decide) (by decide) rfl rfl ?_
  refine mr_ldcS (pc' := 6) (i := 0) dX9_readClause_4 rfl rfl rfl ?_
  obtain ⟨q1, g2, h3⟩ := Option.bind_eq_some_iff.mp h
  refine mr_cv (pc' := 9) (a := 1) (d1 := 4) dX9_readClause_6 rfl rfl rfl rfl rfl rfl (by decide) rfl (by decide) (ok_X7_takeWord hR (by decide) g2) ?_
  show mr X _ _ 9 _ [.int q1.1] (MM RR q1.2) _
  refine mr_istore_n (pc' := 10) (lv' := [(2, .int q1.1), (0, .ref 37), (1, .int v1)]) dX9_readClause_9 rfl (by decide) rfl ?_
  refine mr_iload_n (pc' := 11) dX9_readClause_10 rfl rfl ?_
  by_cases c4 : q1.1 = (0 : Int32)
  · rw [if_pos c4] at h3
    refine mr_if_ne_f (t := 30) (pc' := 14) dX9_readClause_11 (by decide) rfl (not_not_intro c4) ?_
    refine mr_aload_n (pc' := 15) dX9_readClause_14 rfl rfl ?_
    refine mr_getR (pc' := 18) (ci := 9) (j := 0) (b := 1) hR dX9_readClause_15 rfl rfl rfl (by decide) (by decide) (by decide) rfl rfl ?_
    refine mr_ldcS (pc' := 20) (i := 1) dX9_readClause_18 rfl rfl rfl ?_
    obtain ⟨q59, g60, h61⟩ := Option.bind_eq_some_iff.mp h3
    refine mr_cv (pc' := 23) (a := 1) (d1 := 4) dX9_readClause_20 rfl rfl rfl rfl rfl rfl (by decide) rfl (by decide) (ok_X7_takeWord hR (by decide) g60) ?_
    show mr X _ _ 23 _ [.int q59.1] (MM RR q59.2) _
    by_cases c62 : q59.1 = (0 : Int32)
    · rw [if_pos c62] at h61
      refine mr_if_eq_t (t := 30) dX9_readClause_23 (by decide) c62 ?_
      exact mr_sub [(0, .ref 37), (1, .int v1), (2, .int q1.1)] ⟨rfl, rfl, rfl, trivial⟩ rfl (ok_j_X9_readClause_30 hR h61)
    · rw [if_neg c62] at h61
      refine mr_if_eq_f (t := 30) (pc' := 26) dX9_readClause_23 (by decide) rfl c62 ?_
      refine mr_iconst (pc' := 27) (v := (1 : Int32)) dX9_readClause_26 rfl (by decide) ?_
      refine mr_goto (t := 31) dX9_readClause_27 (by decide) ?_
      exact mr_sub [(0, .ref 37), (1, .int v1), (2, .int q1.1)] ⟨rfl, rfl, rfl, trivial⟩ rfl (ok_j_X9_readClause_31 hR h61)
  · rw [if_neg c4] at h3
    refine mr_if_ne_t (t := 30) dX9_readClause_11 (by decide) c4 ?_
    exact mr_sub [(0, .ref 37), (1, .int v1), (2, .int q1.1)] ⟨rfl, rfl, rfl, trivial⟩ rfl (ok_j_X9_readClause_30 hR h3)
def f_X7_isAtEnd  (S : fS) : Option (Int32 × fS) :=
  (f_X7_skipBlanks  S).bind fun q1 =>
  if (q1.1 1 2) < (q1.1 1 1) then (some ((0 : Int32), q1)) else
  (some ((1 : Int32), q1))
set_option maxHeartbeats 4000000 in
set_option maxRecDepth 100000 in
theorem ok_X7_isAtEnd {X : mm_C} {RR : Nat → Nat → Option Nat} (hR : RRok RR)   {S : fS} {r : Int32 × fS} (h : f_X7_isAtEnd  S = some r) : mr X 1 mY_X7_isAtEnd 0 (lv_args 0 [.ref 1]) [] (MM RR S) (some (.int r.1), MM RR r.2) := by
  unfold f_X7_isAtEnd at h
  show mr X _ _ 0 [(0, .ref 1)] [] (MM RR S) _
  refine mr_aload_n (pc' := 1) dX7_isAtEnd_0 rfl rfl ?_
  obtain ⟨q1, g2, h3⟩ := Option.bind_eq_some_iff.mp h
  refine mr_cv (pc' := 4) (a := 1) (d1 := 0) dX7_isAtEnd_1 rfl rfl rfl rfl rfl rfl (by decide) rfl (by decide) (ok_X7_skipBlanks hR  g2) ?_
  show mr X _ _ 4 _ [] (MM RR q1) _
  refine mr_aload_n (pc' := 5) dX7_isAtEnd_4 rfl rfl ?_
  refine mr_getI (pc' := 8) (ci := 7) (j := 2) dX7_isAtEnd_5 rfl rfl rfl (by decide) (by decide) rfl ?_
  refine mr_aload_n (pc' := 9) dX7_isAtEnd_8 rfl rfl ?_
  refine mr_getI (pc' := 12) (ci := 7) (j := 1) dX7_isAtEnd_9 rfl rfl rfl (by decide) (by decide) rfl ?_
  by_cases c4 : (q1.1 1 2) < (q1.1 1 1)
  · rw [if_pos c4] at h3
    refine mr_icmp_lt_t (t := 19) dX7_isAtEnd_12 (by decide) c4 ?_
    refine mr_iconst (pc' := 20) (v := (0 : Int32)) dX7_isAtEnd_19 rfl (by decide) ?_
    obtain rfl := Option.some.inj h3
    exact mr_zreturn dX7_isAtEnd_20 rfl (by decide)
  · rw [if_neg c4] at h3
    refine mr_icmp_lt_f (t := 19) (pc' := 15) dX7_isAtEnd_12 (by decide) rfl c4 ?_
    refine mr_iconst (pc' := 16) (v := (1 : Int32)) dX7_isAtEnd_15 rfl (by decide) ?_
    refine mr_goto (t := 20) dX7_isAtEnd_16 (by decide) ?_
    obtain rfl := Option.some.inj h3
    exact mr_zreturn dX7_isAtEnd_20 rfl (by decide)
def f_X8_hoursBetween (v0 : Nat) (v1 : Int32) (v2 : Int32) (S : fS) : Option (Int32) :=
  (gI S (v0 + 6) 100 ((v1 * (10 : Int32)) + v2)).bind fun a1 =>
  some a1
set_option maxHeartbeats 4000000 in
set_option maxRecDepth 100000 in
theorem ok_X8_hoursBetween {X : mm_C} {RR : Nat → Nat → Option Nat} (hR : RRok RR) {v0 : Nat} {v1 : Int32} {v2 : Int32} (t0 : tg v0 = 8) {S : fS} {r : Int32} (h : f_X8_hoursBetween v0 v1 v2 S = some r) : mr X 0 mY_X8_hoursBetween 0 (lv_args 0 [.ref v0, .int v1, .int v2]) [] (MM RR S) (some (.int r), MM RR S) := by
  unfold f_X8_hoursBetween at h
  show mr X _ _ 0 [(0, .ref v0), (1, .int v1), (2, .int v2)] [] (MM RR S) _
  refine mr_aload_n (pc' := 1) dX8_hoursBetween_0 rfl rfl ?_
  refine mr_getR (pc' := 4) (ci := 8) (j := 5) (b := (v0 + 6)) hR dX8_hoursBetween_1 rfl rfl t0 (by decide) (by decide) (by decide) rfl (ly8_5 t0).1 ?_
  refine mr_iload_n (pc' := 5) dX8_hoursBetween_4 rfl rfl ?_
  refine mr_bipush (pc' := 7) (v := (10 : Int32)) dX8_hoursBetween_5 rfl (by decide) ?_
  refine mr_imul (pc' := 8) dX8_hoursBetween_7 rfl ?_
  refine mr_iload_n (pc' := 9) dX8_hoursBetween_8 rfl rfl ?_
  refine mr_iadd (pc' := 10) dX8_hoursBetween_9 rfl ?_
  obtain ⟨a1, g2, h3⟩ := Option.bind_eq_some_iff.mp h
  refine mr_iald (pc' := 11) dX8_hoursBetween_10 rfl (ly8_5 t0).2.1 (ly8_5 t0).2.2 g2 ?_
  obtain rfl := Option.some.inj h3
  exact mr_ireturn dX8_hoursBetween_11 rfl
def f_X8_shorten (v0 : Nat) (v1 : Int32) (v2 : Int32) (v3 : Int32) (S : fS) : Option (fS) :=
  (f_X8_hoursBetween v0 v1 v2 S).bind fun q1 =>
  if q1 < (0 : Int32) then ((sI S (v0 + 6) 100 ((v1 * (10 : Int32)) + v2) v3).bind fun S5 =>
  some S5) else
  (if q1 ≤ v3 then (some S) else
  ((sI S (v0 + 6) 100 ((v1 * (10 : Int32)) + v2) v3).bind fun S9 =>
  some S9))
set_option maxHeartbeats 4000000 in
set_option maxRecDepth 100000 in
theorem ok_X8_shorten {X : mm_C} {RR : Nat → Nat → Option Nat} (hR : RRok RR) {v0 : Nat} {v1 : Int32} {v2 : Int32} {v3 : Int32} (t0 : tg v0 = 8) {S : fS} {r : fS} (h : f_X8_shorten v0 v1 v2 v3 S = some r) : mr X 1 mY_X8_shorten 0 (lv_args 0 [.ref v0, .int v1, .int v2, .int v3]) [] (MM RR S) (none, MM RR r) := by
  unfold f_X8_shorten at h
  show mr X _ _ 0 [(0, .ref v0), (1, .int v1), (2, .int v2), (3, .int v3)] [] (MM RR S) _
  refine mr_aload_n (pc' := 1) dX8_shorten_0 rfl rfl ?_
  refine mr_iload_n (pc' := 2) dX8_shorten_1 rfl rfl ?_
  refine mr_iload_n (pc' := 3) dX8_shorten_2 rfl rfl ?_
  obtain ⟨q1, g2, h3⟩ := Option.bind_eq_some_iff.mp h
  refine mr_cv (pc' := 6) (a := v0) (d1 := 0) dX8_shorten_3 rfl rfl rfl rfl rfl t0 (by decide) rfl (by decide) (ok_X8_hoursBetween hR t0 g2) ?_
  show mr X _ _ 6 _ [.int q1] (MM RR S) _
  refine mr_istore (pc' := 8) (lv' := [(4, .int q1), (0, .ref v0), (1, .int v1), (2, .int v2), (3, .int v3)]) dX8_shorten_6 rfl (by decide) rfl ?_
  refine mr_iload (pc' := 10) dX8_shorten_8 rfl rfl ?_
  by_cases c4 : q1 < (0 : Int32)
  · rw [if_pos c4] at h3
    refine mr_if_lt_t (t := 19) dX8_shorten_10 (by decide) c4 ?_
    refine mr_aload_n (pc' := 20) dX8_shorten_19 rfl rfl ?_
    refine mr_getR (pc' := 23) (ci := 8) (j := 5) (b := (v0 + 6)) hR dX8_shorten_20 rfl rfl t0 (by decide) (by decide) (by decide) rfl (ly8_5 t0).1 ?_
    refine mr_iload_n (pc' := 24) dX8_shorten_23 rfl rfl ?_
    refine mr_bipush (pc' := 26) (v := (10 : Int32)) dX8_shorten_24 rfl (by decide) ?_
    refine mr_imul (pc' := 27) dX8_shorten_26 rfl ?_
    refine mr_iload_n (pc' := 28) dX8_shorten_27 rfl rfl ?_
    refine mr_iadd (pc' := 29) dX8_shorten_28 rfl ?_
    refine mr_iload_n (pc' := 30) dX8_shorten_29 rfl rfl ?_
    obtain ⟨S5, g6, h7⟩ := Option.bind_eq_some_iff.mp h3
    refine mr_iast (pc' := 31) dX8_shorten_30 rfl (ly8_5 t0).2.1 (ly8_5 t0).2.2 g6 ?_
    obtain rfl := Option.some.inj h7
    exact mr_return dX8_shorten_31 rfl
  · rw [if_neg c4] at h3
    refine mr_if_lt_f (t := 19) (pc' := 13) dX8_shorten_10 (by decide) rfl c4 ?_
    refine mr_iload_n (pc' := 14) dX8_shorten_13 rfl rfl ?_
    refine mr_iload (pc' := 16) dX8_shorten_14 rfl rfl ?_
    by_cases c8 : q1 ≤ v3
    · rw [if_pos c8] at h3
      refine mr_icmp_ge_t (t := 31) dX8_shorten_16 (by decide) c8 ?_
      obtain rfl := Option.some.inj h3
      exact mr_return dX8_shorten_31 rfl
    · rw [if_neg c8] at h3
      refine mr_icmp_ge_f (t := 31) (pc' := 19) dX8_shorten_16 (by decide) rfl c8 ?_
      refine mr_aload_n (pc' := 20) dX8_shorten_19 rfl rfl ?_
      refine mr_getR (pc' := 23) (ci := 8) (j := 5) (b := (v0 + 6)) hR dX8_shorten_20 rfl rfl t0 (by decide) (by decide) (by decide) rfl (ly8_5 t0).1 ?_
      refine mr_iload_n (pc' := 24) dX8_shorten_23 rfl rfl ?_
      refine mr_bipush (pc' := 26) (v := (10 : Int32)) dX8_shorten_24 rfl (by decide) ?_
      refine mr_imul (pc' := 27) dX8_shorten_26 rfl ?_
      refine mr_iload_n (pc' := 28) dX8_shorten_27 rfl rfl ?_
      refine mr_iadd (pc' := 29) dX8_shorten_28 rfl ?_
      refine mr_iload_n (pc' := 30) dX8_shorten_29 rfl rfl ?_
      obtain ⟨S9, g10, h11⟩ := Option.bind_eq_some_iff.mp h3
      refine mr_iast (pc' := 31) dX8_shorten_30 rfl (ly8_5 t0).2.1 (ly8_5 t0).2.2 g10 ?_
      obtain rfl := Option.some.inj h11
      exact mr_return dX8_shorten_31 rfl
def lp_X8_measureWays_2 (p0 : Nat) (K : fS → Option (fS)) : Nat → Int32 → fS → Option (fS)
  | 0, _, _ => none
  | n + 1, p1, S0 =>
    if (100 : Int32) ≤ p1 then (K S0) else
    ((dI p1 (10 : Int32)).bind fun a2 =>
    (rI p1 (10 : Int32)).bind fun a5 =>
    if a2 = a5 then ((sI S0 (p0 + 6) 100 p1 (0 : Int32)).bind fun S12 =>
    lp_X8_measureWays_2 p0 K n (p1 + (1 : Int32)) S12) else
    ((sI S0 (p0 + 6) 100 p1 (-1 : Int32)).bind fun S9 =>
    lp_X8_measureWays_2 p0 K n (p1 + (1 : Int32)) S9))
set_option maxHeartbeats 4000000 in
set_option maxRecDepth 100000 in
theorem ok_lp_X8_measureWays_2 {X : mm_C} {RR : Nat → Nat → Option Nat} (hR : RRok RR) {p0 : Nat} (t0 : tg p0 = 8) {K : fS → Option (fS)} {r : fS} (hK : ∀ (Sk : fS), K Sk = some r → mr X 2 mY_X8_measureWays 36 [(0, .ref p0)] [] (MM RR Sk) (none, MM RR r)) : ∀ (n : Nat) (p1 : Int32) (S0 : fS), lp_X8_measureWays_2 p0 K n p1 S0 = some r → mr X 2 mY_X8_measureWays 2 [(0, .ref p0), (1, .int p1)] [] (MM RR S0) (none, MM RR r) := by
  intro n
  induction n with
  | zero => intro p1 S0 h; exact mm_no h
  | succ n ih =>
    intro p1 S0 h
    unfold lp_X8_measureWays_2 at h
    refine mr_iload_n (pc' := 3) dX8_measureWays_2 rfl rfl ?_
    refine mr_bipush (pc' := 5) (v := (100 : Int32)) dX8_measureWays_3 rfl (by decide) ?_
    by_cases c1 : (100 : Int32) ≤ p1
    · rw [if_pos c1] at h
      refine mr_icmp_ge_t (t := 36) dX8_measureWays_5 (by decide) c1 ?_
      exact mr_sub [(0, .ref p0)] ⟨rfl, trivial⟩ rfl (hK _  h)
    · rw [if_neg c1] at h
      refine mr_icmp_ge_f (t := 36) (pc' := 8) dX8_measureWays_5 (by decide) rfl c1 ?_
      refine mr_aload_n (pc' := 9) dX8_measureWays_8 rfl rfl ?_
      refine mr_getR (pc' := 12) (ci := 8) (j := 5) (b := (p0 + 6)) hR dX8_measureWays_9 rfl rfl t0 (by decide) (by decide) (by decide) rfl (ly8_5 t0).1 ?_
      refine mr_iload_n (pc' := 13) dX8_measureWays_12 rfl rfl ?_
      refine mr_iload_n (pc' := 14) dX8_measureWays_13 rfl rfl ?_
      refine mr_bipush (pc' := 16) (v := (10 : Int32)) dX8_measureWays_14 rfl (by decide) ?_
      obtain ⟨a2, g3, h4⟩ := Option.bind_eq_some_iff.mp h
      refine mr_idiv (pc' := 17) dX8_measureWays_16 rfl g3 ?_
      refine mr_iload_n (pc' := 18) dX8_measureWays_17 rfl rfl ?_
      refine mr_bipush (pc' := 20) (v := (10 : Int32)) dX8_measureWays_18 rfl (by decide) ?_
      obtain ⟨a5, g6, h7⟩ := Option.bind_eq_some_iff.mp h4
      refine mr_irem (pc' := 21) dX8_measureWays_20 rfl g6 ?_
      by_cases c8 : a2 = a5
      · rw [if_pos c8] at h7
        refine mr_icmp_ne_f (t := 28) (pc' := 24) dX8_measureWays_21 (by decide) rfl (not_not_intro c8) ?_
        refine mr_iconst (pc' := 25) (v := (0 : Int32)) dX8_measureWays_24 rfl (by decide) ?_
        refine mr_goto (t := 29) dX8_measureWays_25 (by decide) ?_
        obtain ⟨S12, g13, h14⟩ := Option.bind_eq_some_iff.mp h7
        refine mr_iast (pc' := 30) dX8_measureWays_29 rfl (ly8_5 t0).2.1 (ly8_5 t0).2.2 g13 ?_
        refine mr_iinc (pc' := 33) (x' := (p1 + (1 : Int32))) (lv' := [(1, .int (p1 + (1 : Int32))), (0, .ref p0)]) dX8_measureWays_30 rfl (by decide) rfl rfl rfl ?_
        refine mr_goto (t := 2) dX8_measureWays_33 (by decide) ?_
        exact mr_sub [(0, .ref p0), (1, .int (p1 + (1 : Int32)))] ⟨rfl, rfl, trivial⟩ rfl (ih _ _  h14)
      · rw [if_neg c8] at h7
        refine mr_icmp_ne_t (t := 28) dX8_measureWays_21 (by decide) c8 ?_
        refine mr_iconst (pc' := 29) (v := (-1 : Int32)) dX8_measureWays_28 rfl (by decide) ?_
        obtain ⟨S9, g10, h11⟩ := Option.bind_eq_some_iff.mp h7
        refine mr_iast (pc' := 30) dX8_measureWays_29 rfl (ly8_5 t0).2.1 (ly8_5 t0).2.2 g10 ?_
        refine mr_iinc (pc' := 33) (x' := (p1 + (1 : Int32))) (lv' := [(1, .int (p1 + (1 : Int32))), (0, .ref p0)]) dX8_measureWays_30 rfl (by decide) rfl rfl rfl ?_
        refine mr_goto (t := 2) dX8_measureWays_33 (by decide) ?_
        exact mr_sub [(0, .ref p0), (1, .int (p1 + (1 : Int32)))] ⟨rfl, rfl, trivial⟩ rfl (ih _ _  h11)
def lp_X8_measureWays_38 (p0 : Nat) (K : fS → Option (fS)) : Nat → Int32 → fS → Option (fS)
  | 0, _, _ => none
  | n + 1, p1, S0 =>
    if (S0.1 p0 7) ≤ p1 then (K S0) else
    ((gI S0 (p0 + 2) 12 p1).bind fun a18 =>
    (gI S0 (p0 + 3) 12 p1).bind fun a21 =>
    (gI S0 (p0 + 4) 12 p1).bind fun a24 =>
    (f_X8_shorten p0 a18 a21 a24 S0).bind fun q27 =>
    (gI q27 (p0 + 3) 12 p1).bind fun a30 =>
    (gI q27 (p0 + 2) 12 p1).bind fun a33 =>
    (gI q27 (p0 + 4) 12 p1).bind fun a36 =>
    (f_X8_shorten p0 a30 a33 a36 q27).bind fun q39 =>
    lp_X8_measureWays_38 p0 K n (p1 + (1 : Int32)) q39)
set_option maxHeartbeats 4000000 in
set_option maxRecDepth 100000 in
theorem ok_lp_X8_measureWays_38 {X : mm_C} {RR : Nat → Nat → Option Nat} (hR : RRok RR) {p0 : Nat} (t0 : tg p0 = 8) {K : fS → Option (fS)} {r : fS} (hK : ∀ (Sk : fS), K Sk = some r → mr X 2 mY_X8_measureWays 96 [(0, .ref p0)] [] (MM RR Sk) (none, MM RR r)) : ∀ (n : Nat) (p1 : Int32) (S0 : fS), lp_X8_measureWays_38 p0 K n p1 S0 = some r → mr X 2 mY_X8_measureWays 38 [(0, .ref p0), (1, .int p1)] [] (MM RR S0) (none, MM RR r) := by
  intro n
  induction n with
  | zero => intro p1 S0 h; exact mm_no h
  | succ n ih =>
    intro p1 S0 h
    unfold lp_X8_measureWays_38 at h
    refine mr_iload_n (pc' := 39) dX8_measureWays_38 rfl rfl ?_
    refine mr_aload_n (pc' := 40) dX8_measureWays_39 rfl rfl ?_
    refine mr_getI (pc' := 43) (ci := 8) (j := 7) dX8_measureWays_40 rfl rfl t0 (by decide) (by decide) rfl ?_
    by_cases c17 : (S0.1 p0 7) ≤ p1
    · rw [if_pos c17] at h
      refine mr_icmp_ge_t (t := 96) dX8_measureWays_43 (by decide) c17 ?_
      exact mr_sub [(0, .ref p0)] ⟨rfl, trivial⟩ rfl (hK _  h)
    · rw [if_neg c17] at h
      refine mr_icmp_ge_f (t := 96) (pc' := 46) dX8_measureWays_43 (by decide) rfl c17 ?_
      refine mr_aload_n (pc' := 47) dX8_measureWays_46 rfl rfl ?_
      refine mr_aload_n (pc' := 48) dX8_measureWays_47 rfl rfl ?_
      refine mr_getR (pc' := 51) (ci := 8) (j := 1) (b := (p0 + 2)) hR dX8_measureWays_48 rfl rfl t0 (by decide) (by decide) (by decide) rfl (ly8_1 t0).1 ?_
      refine mr_iload_n (pc' := 52) dX8_measureWays_51 rfl rfl ?_
      obtain ⟨a18, g19, h20⟩ := Option.bind_eq_some_iff.mp h
      refine mr_iald (pc' := 53) dX8_measureWays_52 rfl (ly8_1 t0).2.1 (ly8_1 t0).2.2 g19 ?_
      refine mr_aload_n (pc' := 54) dX8_measureWays_53 rfl rfl ?_
      refine mr_getR (pc' := 57) (ci := 8) (j := 2) (b := (p0 + 3)) hR dX8_measureWays_54 rfl rfl t0 (by decide) (by decide) (by decide) rfl (ly8_2 t0).1 ?_
      refine mr_iload_n (pc' := 58) dX8_measureWays_57 rfl rfl ?_
      obtain ⟨a21, g22, h23⟩ := Option.bind_eq_some_iff.mp h20
      refine mr_iald (pc' := 59) dX8_measureWays_58 rfl (ly8_2 t0).2.1 (ly8_2 t0).2.2 g22 ?_
      refine mr_aload_n (pc' := 60) dX8_measureWays_59 rfl rfl ?_
      refine mr_getR (pc' := 63) (ci := 8) (j := 3) (b := (p0 + 4)) hR dX8_measureWays_60 rfl rfl t0 (by decide) (by decide) (by decide) rfl (ly8_3 t0).1 ?_
      refine mr_iload_n (pc' := 64) dX8_measureWays_63 rfl rfl ?_
      obtain ⟨a24, g25, h26⟩ := Option.bind_eq_some_iff.mp h23
      refine mr_iald (pc' := 65) dX8_measureWays_64 rfl (ly8_3 t0).2.1 (ly8_3 t0).2.2 g25 ?_
      obtain ⟨q27, g28, h29⟩ := Option.bind_eq_some_iff.mp h26
      refine mr_cv (pc' := 68) (a := p0) (d1 := 1) dX8_measureWays_65 rfl rfl rfl rfl rfl t0 (by decide) rfl (by decide) (ok_X8_shorten hR t0 g28) ?_
      show mr X _ _ 68 _ [] (MM RR q27) _
      refine mr_aload_n (pc' := 69) dX8_measureWays_68 rfl rfl ?_
      refine mr_aload_n (pc' := 70) dX8_measureWays_69 rfl rfl ?_
      refine mr_getR (pc' := 73) (ci := 8) (j := 2) (b := (p0 + 3)) hR dX8_measureWays_70 rfl rfl t0 (by decide) (by decide) (by decide) rfl (ly8_2 t0).1 ?_
      refine mr_iload_n (pc' := 74) dX8_measureWays_73 rfl rfl ?_
      obtain ⟨a30, g31, h32⟩ := Option.bind_eq_some_iff.mp h29
      refine mr_iald (pc' := 75) dX8_measureWays_74 rfl (ly8_2 t0).2.1 (ly8_2 t0).2.2 g31 ?_
      refine mr_aload_n (pc' := 76) dX8_measureWays_75 rfl rfl ?_
      refine mr_getR (pc' := 79) (ci := 8) (j := 1) (b := (p0 + 2)) hR dX8_measureWays_76 rfl rfl t0 (by decide) (by decide) (by decide) rfl (ly8_1 t0).1 ?_
      refine mr_iload_n (pc' := 80) dX8_measureWays_79 rfl rfl ?_
      obtain ⟨a33, g34, h35⟩ := Option.bind_eq_some_iff.mp h32
      refine mr_iald (pc' := 81) dX8_measureWays_80 rfl (ly8_1 t0).2.1 (ly8_1 t0).2.2 g34 ?_
      refine mr_aload_n (pc' := 82) dX8_measureWays_81 rfl rfl ?_
      refine mr_getR (pc' := 85) (ci := 8) (j := 3) (b := (p0 + 4)) hR dX8_measureWays_82 rfl rfl t0 (by decide) (by decide) (by decide) rfl (ly8_3 t0).1 ?_
      refine mr_iload_n (pc' := 86) dX8_measureWays_85 rfl rfl ?_
      obtain ⟨a36, g37, h38⟩ := Option.bind_eq_some_iff.mp h35
      refine mr_iald (pc' := 87) dX8_measureWays_86 rfl (ly8_3 t0).2.1 (ly8_3 t0).2.2 g37 ?_
      obtain ⟨q39, g40, h41⟩ := Option.bind_eq_some_iff.mp h38
      refine mr_cv (pc' := 90) (a := p0) (d1 := 1) dX8_measureWays_87 rfl rfl rfl rfl rfl t0 (by decide) rfl (by decide) (ok_X8_shorten hR t0 g40) ?_
      show mr X _ _ 90 _ [] (MM RR q39) _
      refine mr_iinc (pc' := 93) (x' := (p1 + (1 : Int32))) (lv' := [(1, .int (p1 + (1 : Int32))), (0, .ref p0)]) dX8_measureWays_90 rfl (by decide) rfl rfl rfl ?_
      refine mr_goto (t := 38) dX8_measureWays_93 (by decide) ?_
      exact mr_sub [(0, .ref p0), (1, .int (p1 + (1 : Int32)))] ⟨rfl, rfl, trivial⟩ rfl (ih _ _  h41)
def lp_X8_measureWays_118 (p0 : Nat) (p1 : Int32) (p2 : Int32) (K : fS → Option (fS)) : Nat → Int32 → fS → Option (fS)
  | 0, _, _ => none
  | n + 1, p3, S0 =>
    if (S0.1 p0 6) ≤ p3 then (K S0) else
    ((f_X8_hoursBetween p0 p2 p1 S0).bind fun q47 =>
    (f_X8_hoursBetween p0 p1 p3 S0).bind fun q50 =>
    if q47 < (0 : Int32) then (lp_X8_measureWays_118 p0 p1 p2 K n (p3 + (1 : Int32)) S0) else
    (if q50 < (0 : Int32) then (lp_X8_measureWays_118 p0 p1 p2 K n (p3 + (1 : Int32)) S0) else
    ((f_X8_shorten p0 p2 p3 (q47 + q50) S0).bind fun q55 =>
    lp_X8_measureWays_118 p0 p1 p2 K n (p3 + (1 : Int32)) q55)))
set_option maxHeartbeats 4000000 in
set_option maxRecDepth 100000 in
theorem ok_lp_X8_measureWays_118 {X : mm_C} {RR : Nat → Nat → Option Nat} (hR : RRok RR) {p0 : Nat} {p1 : Int32} {p2 : Int32} (t0 : tg p0 = 8) {K : fS → Option (fS)} {r : fS} (hK : ∀ (Sk : fS), K Sk = some r → mr X 2 mY_X8_measureWays 169 [(0, .ref p0), (1, .int p1), (2, .int p2)] [] (MM RR Sk) (none, MM RR r)) : ∀ (n : Nat) (p3 : Int32) (S0 : fS), lp_X8_measureWays_118 p0 p1 p2 K n p3 S0 = some r → mr X 2 mY_X8_measureWays 118 [(0, .ref p0), (1, .int p1), (2, .int p2), (3, .int p3)] [] (MM RR S0) (none, MM RR r) := by
  intro n
  induction n with
  | zero => intro p3 S0 h; exact mm_no h
  | succ n ih =>
    intro p3 S0 h
    unfold lp_X8_measureWays_118 at h
    refine mr_iload_n (pc' := 119) dX8_measureWays_118 rfl rfl ?_
    refine mr_aload_n (pc' := 120) dX8_measureWays_119 rfl rfl ?_
    refine mr_getI (pc' := 123) (ci := 8) (j := 6) dX8_measureWays_120 rfl rfl t0 (by decide) (by decide) rfl ?_
    by_cases c46 : (S0.1 p0 6) ≤ p3
    · rw [if_pos c46] at h
      refine mr_icmp_ge_t (t := 169) dX8_measureWays_123 (by decide) c46 ?_
      exact mr_sub [(0, .ref p0), (1, .int p1), (2, .int p2)] ⟨rfl, rfl, rfl, trivial⟩ rfl (hK _  h)
    · rw [if_neg c46] at h
      refine mr_icmp_ge_f (t := 169) (pc' := 126) dX8_measureWays_123 (by decide) rfl c46 ?_
      refine mr_aload_n (pc' := 127) dX8_measureWays_126 rfl rfl ?_
      refine mr_iload_n (pc' := 128) dX8_measureWays_127 rfl rfl ?_
      refine mr_iload_n (pc' := 129) dX8_measureWays_128 rfl rfl ?_
      obtain ⟨q47, g48, h49⟩ := Option.bind_eq_some_iff.mp h
      refine mr_cv (pc' := 132) (a := p0) (d1 := 0) dX8_measureWays_129 rfl rfl rfl rfl rfl t0 (by decide) rfl (by decide) (ok_X8_hoursBetween hR t0 g48) ?_
      show mr X _ _ 132 _ [.int q47] (MM RR S0) _
      refine mr_istore (pc' := 134) (lv' := [(4, .int q47), (0, .ref p0), (1, .int p1), (2, .int p2), (3, .int p3)]) dX8_measureWays_132 rfl (by decide) rfl ?_
      refine mr_aload_n (pc' := 135) dX8_measureWays_134 rfl rfl ?_
      refine mr_iload_n (pc' := 136) dX8_measureWays_135 rfl rfl ?_
      refine mr_iload_n (pc' := 137) dX8_measureWays_136 rfl rfl ?_
      obtain ⟨q50, g51, h52⟩ := Option.bind_eq_some_iff.mp h49
      refine mr_cv (pc' := 140) (a := p0) (d1 := 0) dX8_measureWays_137 rfl rfl rfl rfl rfl t0 (by decide) rfl (by decide) (ok_X8_hoursBetween hR t0 g51) ?_
      show mr X _ _ 140 _ [.int q50] (MM RR S0) _
      refine mr_istore (pc' := 142) (lv' := [(5, .int q50), (4, .int q47), (0, .ref p0), (1, .int p1), (2, .int p2), (3, .int p3)]) dX8_measureWays_140 rfl (by decide) rfl ?_
      refine mr_iload (pc' := 144) dX8_measureWays_142 rfl rfl ?_
      by_cases c53 : q47 < (0 : Int32)
      · rw [if_pos c53] at h52
        refine mr_if_lt_t (t := 163) dX8_measureWays_144 (by decide) c53 ?_
        refine mr_iinc (pc' := 166) (x' := (p3 + (1 : Int32))) (lv' := [(3, .int (p3 + (1 : Int32))), (5, .int q50), (4, .int q47), (0, .ref p0), (1, .int p1), (2, .int p2)]) dX8_measureWays_163 rfl (by decide) rfl rfl rfl ?_
        refine mr_goto (t := 118) dX8_measureWays_166 (by decide) ?_
        exact mr_sub [(0, .ref p0), (1, .int p1), (2, .int p2), (3, .int (p3 + (1 : Int32)))] ⟨rfl, rfl, rfl, rfl, trivial⟩ rfl (ih _ _  h52)
      · rw [if_neg c53] at h52
        refine mr_if_lt_f (t := 163) (pc' := 147) dX8_measureWays_144 (by decide) rfl c53 ?_
        refine mr_iload (pc' := 149) dX8_measureWays_147 rfl rfl ?_
        by_cases c54 : q50 < (0 : Int32)
        · rw [if_pos c54] at h52
          refine mr_if_lt_t (t := 163) dX8_measureWays_149 (by decide) c54 ?_
          refine mr_iinc (pc' := 166) (x' := (p3 + (1 : Int32))) (lv' := [(3, .int (p3 + (1 : Int32))), (5, .int q50), (4, .int q47), (0, .ref p0), (1, .int p1), (2, .int p2)]) dX8_measureWays_163 rfl (by decide) rfl rfl rfl ?_
          refine mr_goto (t := 118) dX8_measureWays_166 (by decide) ?_
          exact mr_sub [(0, .ref p0), (1, .int p1), (2, .int p2), (3, .int (p3 + (1 : Int32)))] ⟨rfl, rfl, rfl, rfl, trivial⟩ rfl (ih _ _  h52)
        · rw [if_neg c54] at h52
          refine mr_if_lt_f (t := 163) (pc' := 152) dX8_measureWays_149 (by decide) rfl c54 ?_
          refine mr_aload_n (pc' := 153) dX8_measureWays_152 rfl rfl ?_
          refine mr_iload_n (pc' := 154) dX8_measureWays_153 rfl rfl ?_
          refine mr_iload_n (pc' := 155) dX8_measureWays_154 rfl rfl ?_
          refine mr_iload (pc' := 157) dX8_measureWays_155 rfl rfl ?_
          refine mr_iload (pc' := 159) dX8_measureWays_157 rfl rfl ?_
          refine mr_iadd (pc' := 160) dX8_measureWays_159 rfl ?_
          obtain ⟨q55, g56, h57⟩ := Option.bind_eq_some_iff.mp h52
          refine mr_cv (pc' := 163) (a := p0) (d1 := 1) dX8_measureWays_160 rfl rfl rfl rfl rfl t0 (by decide) rfl (by decide) (ok_X8_shorten hR t0 g56) ?_
          show mr X _ _ 163 _ [] (MM RR q55) _
          refine mr_iinc (pc' := 166) (x' := (p3 + (1 : Int32))) (lv' := [(3, .int (p3 + (1 : Int32))), (5, .int q50), (4, .int q47), (0, .ref p0), (1, .int p1), (2, .int p2)]) dX8_measureWays_163 rfl (by decide) rfl rfl rfl ?_
          refine mr_goto (t := 118) dX8_measureWays_166 (by decide) ?_
          exact mr_sub [(0, .ref p0), (1, .int p1), (2, .int p2), (3, .int (p3 + (1 : Int32)))] ⟨rfl, rfl, rfl, rfl, trivial⟩ rfl (ih _ _  h57)
def lp_X8_measureWays_108 (p0 : Nat) (p1 : Int32) (K : fS → Option (fS)) : Nat → Int32 → fS → Option (fS)
  | 0, _, _ => none
  | n + 1, p2, S0 =>
    if (S0.1 p0 6) ≤ p2 then (K S0) else
    (lp_X8_measureWays_118 p0 p1 p2 (fun S58 => lp_X8_measureWays_108 p0 p1 K n (p2 + (1 : Int32)) S58) FU (0 : Int32) S0)
set_option maxHeartbeats 4000000 in
set_option maxRecDepth 100000 in
theorem ok_lp_X8_measureWays_108 {X : mm_C} {RR : Nat → Nat → Option Nat} (hR : RRok RR) {p0 : Nat} {p1 : Int32} (t0 : tg p0 = 8) {K : fS → Option (fS)} {r : fS} (hK : ∀ (Sk : fS), K Sk = some r → mr X 2 mY_X8_measureWays 175 [(0, .ref p0), (1, .int p1)] [] (MM RR Sk) (none, MM RR r)) : ∀ (n : Nat) (p2 : Int32) (S0 : fS), lp_X8_measureWays_108 p0 p1 K n p2 S0 = some r → mr X 2 mY_X8_measureWays 108 [(0, .ref p0), (1, .int p1), (2, .int p2)] [] (MM RR S0) (none, MM RR r) := by
  intro n
  induction n with
  | zero => intro p2 S0 h; exact mm_no h
  | succ n ih =>
    intro p2 S0 h
    unfold lp_X8_measureWays_108 at h
    refine mr_iload_n (pc' := 109) dX8_measureWays_108 rfl rfl ?_
    refine mr_aload_n (pc' := 110) dX8_measureWays_109 rfl rfl ?_
    refine mr_getI (pc' := 113) (ci := 8) (j := 6) dX8_measureWays_110 rfl rfl t0 (by decide) (by decide) rfl ?_
    by_cases c45 : (S0.1 p0 6) ≤ p2
    · rw [if_pos c45] at h
      refine mr_icmp_ge_t (t := 175) dX8_measureWays_113 (by decide) c45 ?_
      exact mr_sub [(0, .ref p0), (1, .int p1)] ⟨rfl, rfl, trivial⟩ rfl (hK _  h)
    · rw [if_neg c45] at h
      refine mr_icmp_ge_f (t := 175) (pc' := 116) dX8_measureWays_113 (by decide) rfl c45 ?_
      refine mr_iconst (pc' := 117) (v := (0 : Int32)) dX8_measureWays_116 rfl (by decide) ?_
      refine mr_istore_n (pc' := 118) (lv' := [(3, .int (0 : Int32)), (0, .ref p0), (1, .int p1), (2, .int p2)]) dX8_measureWays_117 rfl (by decide) rfl ?_
      refine mr_sub [(0, .ref p0), (1, .int p1), (2, .int p2), (3, .int (0 : Int32))] ⟨rfl, rfl, rfl, rfl, trivial⟩ rfl ?_
      refine ok_lp_X8_measureWays_118 hR t0 (fun S58 h59 => ?_) FU _ _  h
      refine mr_iinc (pc' := 172) (x' := (p2 + (1 : Int32))) (lv' := [(2, .int (p2 + (1 : Int32))), (0, .ref p0), (1, .int p1)]) dX8_measureWays_169 rfl (by decide) rfl rfl rfl ?_
      refine mr_goto (t := 108) dX8_measureWays_172 (by decide) ?_
      exact mr_sub [(0, .ref p0), (1, .int p1), (2, .int (p2 + (1 : Int32)))] ⟨rfl, rfl, rfl, trivial⟩ rfl (ih _ _  h59)
def lp_X8_measureWays_98 (p0 : Nat) (K : fS → Option (fS)) : Nat → Int32 → fS → Option (fS)
  | 0, _, _ => none
  | n + 1, p1, S0 =>
    if (S0.1 p0 6) ≤ p1 then (K S0) else
    (lp_X8_measureWays_108 p0 p1 (fun S60 => lp_X8_measureWays_98 p0 K n (p1 + (1 : Int32)) S60) FU (0 : Int32) S0)
set_option maxHeartbeats 4000000 in
set_option maxRecDepth 100000 in
theorem ok_lp_X8_measureWays_98 {X : mm_C} {RR : Nat → Nat → Option Nat} (hR : RRok RR) {p0 : Nat} (t0 : tg p0 = 8) {K : fS → Option (fS)} {r : fS} (hK : ∀ (Sk : fS), K Sk = some r → mr X 2 mY_X8_measureWays 181 [] [] (MM RR Sk) (none, MM RR r)) : ∀ (n : Nat) (p1 : Int32) (S0 : fS), lp_X8_measureWays_98 p0 K n p1 S0 = some r → mr X 2 mY_X8_measureWays 98 [(0, .ref p0), (1, .int p1)] [] (MM RR S0) (none, MM RR r) := by
  intro n
  induction n with
  | zero => intro p1 S0 h; exact mm_no h
  | succ n ih =>
    intro p1 S0 h
    unfold lp_X8_measureWays_98 at h
    refine mr_iload_n (pc' := 99) dX8_measureWays_98 rfl rfl ?_
    refine mr_aload_n (pc' := 100) dX8_measureWays_99 rfl rfl ?_
    refine mr_getI (pc' := 103) (ci := 8) (j := 6) dX8_measureWays_100 rfl rfl t0 (by decide) (by decide) rfl ?_
    by_cases c44 : (S0.1 p0 6) ≤ p1
    · rw [if_pos c44] at h
      refine mr_icmp_ge_t (t := 181) dX8_measureWays_103 (by decide) c44 ?_
      exact mr_sub [] trivial rfl (hK _  h)
    · rw [if_neg c44] at h
      refine mr_icmp_ge_f (t := 181) (pc' := 106) dX8_measureWays_103 (by decide) rfl c44 ?_
      refine mr_iconst (pc' := 107) (v := (0 : Int32)) dX8_measureWays_106 rfl (by decide) ?_
      refine mr_istore_n (pc' := 108) (lv' := [(2, .int (0 : Int32)), (0, .ref p0), (1, .int p1)]) dX8_measureWays_107 rfl (by decide) rfl ?_
      refine mr_sub [(0, .ref p0), (1, .int p1), (2, .int (0 : Int32))] ⟨rfl, rfl, rfl, trivial⟩ rfl ?_
      refine ok_lp_X8_measureWays_108 hR t0 (fun S60 h61 => ?_) FU _ _  h
      refine mr_iinc (pc' := 178) (x' := (p1 + (1 : Int32))) (lv' := [(1, .int (p1 + (1 : Int32))), (0, .ref p0)]) dX8_measureWays_175 rfl (by decide) rfl rfl rfl ?_
      refine mr_goto (t := 98) dX8_measureWays_178 (by decide) ?_
      exact mr_sub [(0, .ref p0), (1, .int (p1 + (1 : Int32)))] ⟨rfl, rfl, trivial⟩ rfl (ih _ _  h61)
def f_X8_measureWays (v0 : Nat) (S : fS) : Option (fS) :=
  lp_X8_measureWays_2 v0 (fun S15 => lp_X8_measureWays_38 v0 (fun S42 => lp_X8_measureWays_98 v0 (fun S62 => some S62) FU (0 : Int32) S42) FU (0 : Int32) S15) FU (0 : Int32) S
set_option maxHeartbeats 4000000 in
set_option maxRecDepth 100000 in
theorem ok_X8_measureWays {X : mm_C} {RR : Nat → Nat → Option Nat} (hR : RRok RR) {v0 : Nat} (t0 : tg v0 = 8) {S : fS} {r : fS} (h : f_X8_measureWays v0 S = some r) : mr X 2 mY_X8_measureWays 0 (lv_args 0 [.ref v0]) [] (MM RR S) (none, MM RR r) := by
  unfold f_X8_measureWays at h
  show mr X _ _ 0 [(0, .ref v0)] [] (MM RR S) _
  refine mr_iconst (pc' := 1) (v := (0 : Int32)) dX8_measureWays_0 rfl (by decide) ?_
  refine mr_istore_n (pc' := 2) (lv' := [(1, .int (0 : Int32)), (0, .ref v0)]) dX8_measureWays_1 rfl (by decide) rfl ?_
  refine mr_sub [(0, .ref v0), (1, .int (0 : Int32))] ⟨rfl, rfl, trivial⟩ rfl ?_
  refine ok_lp_X8_measureWays_2 hR t0 (fun S15 h16 => ?_) FU _ _  h
  refine mr_iconst (pc' := 37) (v := (0 : Int32)) dX8_measureWays_36 rfl (by decide) ?_
  refine mr_istore_n (pc' := 38) (lv' := [(1, .int (0 : Int32)), (0, .ref v0)]) dX8_measureWays_37 rfl (by decide) rfl ?_
  refine mr_sub [(0, .ref v0), (1, .int (0 : Int32))] ⟨rfl, rfl, trivial⟩ rfl ?_
  refine ok_lp_X8_measureWays_38 hR t0 (fun S42 h43 => ?_) FU _ _  h16
  refine mr_iconst (pc' := 97) (v := (0 : Int32)) dX8_measureWays_96 rfl (by decide) ?_
  refine mr_istore_n (pc' := 98) (lv' := [(1, .int (0 : Int32)), (0, .ref v0)]) dX8_measureWays_97 rfl (by decide) rfl ?_
  refine mr_sub [(0, .ref v0), (1, .int (0 : Int32))] ⟨rfl, rfl, trivial⟩ rfl ?_
  refine ok_lp_X8_measureWays_98 hR t0 (fun S62 h63 => ?_) FU _ _  h43
  obtain rfl := Option.some.inj h63
  exact mr_return dX8_measureWays_181 rfl
