def lp_X8_stairInPlace_5 (p0 : Nat) (p1 : Int32) (p2 : Int32) (S : fS) (K : Unit → Option (Int32)) : Nat → Int32 → Int32 → Option (Int32)
  | 0, _, _ => none
  | n + 1, p3, p4 =>
    if (S.1 p0 7) ≤ p4 then (K ()) else
    ((f_X8_otherEnd p0 p4 p1 S).bind fun q2 =>
    if (0 : Int32) ≤ q2 then (if p3 = p2 then (some p4) else
    (lp_X8_stairInPlace_5 p0 p1 p2 S K n (p3 + (1 : Int32)) (p4 + (1 : Int32)))) else
    (lp_X8_stairInPlace_5 p0 p1 p2 S K n p3 (p4 + (1 : Int32))))
set_option maxHeartbeats 4000000 in
set_option maxRecDepth 100000 in
theorem ok_lp_X8_stairInPlace_5 {X : mm_C} {RR : Nat → Nat → Option Nat} (hR : RRok RR) {p0 : Nat} {p1 : Int32} {p2 : Int32} (t0 : tg p0 = 8) {S : fS} {K : Unit → Option (Int32)} {r : Int32} (hK : ∀ (_ : Unit), K () = some r → mr X 1 mY_X8_stairInPlace 44 [] [] (MM RR S) (some (.int r), MM RR S)) : ∀ (n : Nat) (p3 : Int32) (p4 : Int32), lp_X8_stairInPlace_5 p0 p1 p2 S K n p3 p4 = some r → mr X 1 mY_X8_stairInPlace 5 [(0, .ref p0), (1, .int p1), (2, .int p2), (3, .int p3), (4, .int p4)] [] (MM RR S) (some (.int r), MM RR S) := by
  intro n
  induction n with
  | zero => intro p3 p4 h; exact mm_no h
  | succ n ih =>
    intro p3 p4 h
    unfold lp_X8_stairInPlace_5 at h
    refine mr_iload (pc' := 7) dX8_stairInPlace_5 rfl rfl ?_
    refine mr_aload_n (pc' := 8) dX8_stairInPlace_7 rfl rfl ?_
    refine mr_getI (pc' := 11) (ci := 8) (j := 7) dX8_stairInPlace_8 rfl rfl t0 (by decide) (by decide) rfl ?_
    by_cases c1 : (S.1 p0 7) ≤ p4
    · rw [if_pos c1] at h
      refine mr_icmp_ge_t (t := 44) dX8_stairInPlace_11 (by decide) c1 ?_
      exact mr_sub [] trivial rfl (hK () h)
    · rw [if_neg c1] at h
      refine mr_icmp_ge_f (t := 44) (pc' := 14) dX8_stairInPlace_11 (by decide) rfl c1 ?_
      refine mr_aload_n (pc' := 15) dX8_stairInPlace_14 rfl rfl ?_
      refine mr_iload (pc' := 17) dX8_stairInPlace_15 rfl rfl ?_
      refine mr_iload_n (pc' := 18) dX8_stairInPlace_17 rfl rfl ?_
      obtain ⟨q2, g3, h4⟩ := Option.bind_eq_some_iff.mp h
      refine mr_cv (pc' := 21) (a := p0) (d1 := 0) dX8_stairInPlace_18 rfl rfl rfl rfl rfl t0 (by decide) rfl (by decide) (ok_X8_otherEnd hR t0 g3) ?_
      show mr X _ _ 21 _ [.int q2] (MM RR S) _
      by_cases c5 : (0 : Int32) ≤ q2
      · rw [if_pos c5] at h4
        refine mr_if_ge_t (t := 27) dX8_stairInPlace_21 (by decide) c5 ?_
        refine mr_iload_n (pc' := 28) dX8_stairInPlace_27 rfl rfl ?_
        refine mr_iload_n (pc' := 29) dX8_stairInPlace_28 rfl rfl ?_
        by_cases c6 : p3 = p2
        · rw [if_pos c6] at h4
          refine mr_icmp_ne_f (t := 35) (pc' := 32) dX8_stairInPlace_29 (by decide) rfl (not_not_intro c6) ?_
          refine mr_iload (pc' := 34) dX8_stairInPlace_32 rfl rfl ?_
          obtain rfl := Option.some.inj h4
          exact mr_ireturn dX8_stairInPlace_34 rfl
        · rw [if_neg c6] at h4
          refine mr_icmp_ne_t (t := 35) dX8_stairInPlace_29 (by decide) c6 ?_
          refine mr_iinc (pc' := 38) (x' := (p3 + (1 : Int32))) (lv' := [(3, .int (p3 + (1 : Int32))), (0, .ref p0), (1, .int p1), (2, .int p2), (4, .int p4)]) dX8_stairInPlace_35 rfl (by decide) rfl rfl rfl ?_
          refine mr_iinc (pc' := 41) (x' := (p4 + (1 : Int32))) (lv' := [(4, .int (p4 + (1 : Int32))), (3, .int (p3 + (1 : Int32))), (0, .ref p0), (1, .int p1), (2, .int p2)]) dX8_stairInPlace_38 rfl (by decide) rfl rfl rfl ?_
          refine mr_goto (t := 5) dX8_stairInPlace_41 (by decide) ?_
          exact mr_sub [(0, .ref p0), (1, .int p1), (2, .int p2), (3, .int (p3 + (1 : Int32))), (4, .int (p4 + (1 : Int32)))] ⟨rfl, rfl, rfl, rfl, rfl, trivial⟩ rfl (ih _ _  h4)
      · rw [if_neg c5] at h4
        refine mr_if_ge_f (t := 27) (pc' := 24) dX8_stairInPlace_21 (by decide) rfl c5 ?_
        refine mr_goto (t := 38) dX8_stairInPlace_24 (by decide) ?_
        refine mr_iinc (pc' := 41) (x' := (p4 + (1 : Int32))) (lv' := [(4, .int (p4 + (1 : Int32))), (0, .ref p0), (1, .int p1), (2, .int p2), (3, .int p3)]) dX8_stairInPlace_38 rfl (by decide) rfl rfl rfl ?_
        refine mr_goto (t := 5) dX8_stairInPlace_41 (by decide) ?_
        exact mr_sub [(0, .ref p0), (1, .int p1), (2, .int p2), (3, .int p3), (4, .int (p4 + (1 : Int32)))] ⟨rfl, rfl, rfl, rfl, rfl, trivial⟩ rfl (ih _ _  h4)
def f_X8_stairInPlace (v0 : Nat) (v1 : Int32) (v2 : Int32) (S : fS) : Option (Int32) :=
  lp_X8_stairInPlace_5 v0 v1 v2 S (fun (_ : Unit) => some (-1 : Int32)) FU (0 : Int32) (0 : Int32)
set_option maxHeartbeats 4000000 in
set_option maxRecDepth 100000 in
theorem ok_X8_stairInPlace {X : mm_C} {RR : Nat → Nat → Option Nat} (hR : RRok RR) {v0 : Nat} {v1 : Int32} {v2 : Int32} (t0 : tg v0 = 8) {S : fS} {r : Int32} (h : f_X8_stairInPlace v0 v1 v2 S = some r) : mr X 1 mY_X8_stairInPlace 0 (lv_args 0 [.ref v0, .int v1, .int v2]) [] (MM RR S) (some (.int r), MM RR S) := by
  unfold f_X8_stairInPlace at h
  show mr X _ _ 0 [(0, .ref v0), (1, .int v1), (2, .int v2)] [] (MM RR S) _
  refine mr_iconst (pc' := 1) (v := (0 : Int32)) dX8_stairInPlace_0 rfl (by decide) ?_
  refine mr_istore_n (pc' := 2) (lv' := [(3, .int (0 : Int32)), (0, .ref v0), (1, .int v1), (2, .int v2)]) dX8_stairInPlace_1 rfl (by decide) rfl ?_
  refine mr_iconst (pc' := 3) (v := (0 : Int32)) dX8_stairInPlace_2 rfl (by decide) ?_
  refine mr_istore (pc' := 5) (lv' := [(4, .int (0 : Int32)), (3, .int (0 : Int32)), (0, .ref v0), (1, .int v1), (2, .int v2)]) dX8_stairInPlace_3 rfl (by decide) rfl ?_
  refine mr_sub [(0, .ref v0), (1, .int v1), (2, .int v2), (3, .int (0 : Int32)), (4, .int (0 : Int32))] ⟨rfl, rfl, rfl, rfl, rfl, trivial⟩ rfl ?_
  refine ok_lp_X8_stairInPlace_5 hR t0 (fun _ h7 => ?_) FU _ _  h
  refine mr_iconst (pc' := 45) (v := (-1 : Int32)) dX8_stairInPlace_44 rfl (by decide) ?_
  obtain rfl := Option.some.inj h7
  exact mr_ireturn dX8_stairInPlace_45 rfl
def lp_X10_wander_2  (K : fS → Option (fS)) : Nat → Int32 → fS → Option (fS)
  | 0, _, _ => none
  | n + 1, p1, S0 =>
    if (S0.1 31 5) ≤ p1 then (K S0) else
    ((f_X0_isStanding 31 p1 S0).bind fun q2 =>
    if q2 = (0 : Int32) then (lp_X10_wander_2  K n (p1 + (1 : Int32)) S0) else
    ((gI S0 32 8 p1).bind fun a6 =>
    (f_X6_draw 3 S0).bind fun q9 =>
    (rI q9.1 (4 : Int32)).bind fun a12 =>
    if a12 = (0 : Int32) then ((f_X8_stairsAt 4 a6 q9.2).bind fun q33 =>
    if (1 : Int32) = (0 : Int32) then (lp_X10_wander_2  K n (p1 + (1 : Int32)) q9.2) else
    (if q33 ≤ (0 : Int32) then (lp_X10_wander_2  K n (p1 + (1 : Int32)) q9.2) else
    ((f_X6_draw 3 q9.2).bind fun q38 =>
    (rI q38.1 q33).bind fun a41 =>
    (f_X8_stairInPlace 4 a6 a41 q38.2).bind fun q44 =>
    (f_X0_setOff 31 4 p1 q44 q38.2).bind fun q47 =>
    lp_X10_wander_2  K n (p1 + (1 : Int32)) q47.2))) else
    ((f_X8_stairsAt 4 a6 q9.2).bind fun q16 =>
    if (0 : Int32) = (0 : Int32) then (lp_X10_wander_2  K n (p1 + (1 : Int32)) q9.2) else
    (if q16 ≤ (0 : Int32) then (lp_X10_wander_2  K n (p1 + (1 : Int32)) q9.2) else
    ((f_X6_draw 3 q9.2).bind fun q21 =>
    (rI q21.1 q16).bind fun a24 =>
    (f_X8_stairInPlace 4 a6 a24 q21.2).bind fun q27 =>
    (f_X0_setOff 31 4 p1 q27 q21.2).bind fun q30 =>
    lp_X10_wander_2  K n (p1 + (1 : Int32)) q30.2)))))
set_option maxHeartbeats 4000000 in
set_option maxRecDepth 100000 in
theorem ok_lp_X10_wander_2 {X : mm_C} {RR : Nat → Nat → Option Nat} (hR : RRok RR)   {K : fS → Option (fS)} {r : fS} (hK : ∀ (Sk : fS), K Sk = some r → mr X 2 mY_X10_wander 124 [] [] (MM RR Sk) (none, MM RR r)) : ∀ (n : Nat) (p1 : Int32) (S0 : fS), lp_X10_wander_2  K n p1 S0 = some r → mr X 2 mY_X10_wander 2 [(0, .ref 0), (1, .int p1)] [] (MM RR S0) (none, MM RR r) := by
  intro n
  induction n with
  | zero => intro p1 S0 h; exact mm_no h
  | succ n ih =>
    intro p1 S0 h
    unfold lp_X10_wander_2 at h
    refine mr_iload_n (pc' := 3) dX10_wander_2 rfl rfl ?_
    refine mr_aload_n (pc' := 4) dX10_wander_3 rfl rfl ?_
    refine mr_getR (pc' := 7) (ci := 10) (j := 5) (b := 31) hR dX10_wander_4 rfl rfl rfl (by decide) (by decide) (by decide) rfl rfl ?_
    refine mr_getI (pc' := 10) (ci := 0) (j := 5) dX10_wander_7 rfl rfl rfl (by decide) (by decide) rfl ?_
    by_cases c1 : (S0.1 31 5) ≤ p1
    · rw [if_pos c1] at h
      refine mr_icmp_ge_t (t := 124) dX10_wander_10 (by decide) c1 ?_
      exact mr_sub [] trivial rfl (hK _  h)
    · rw [if_neg c1] at h
      refine mr_icmp_ge_f (t := 124) (pc' := 13) dX10_wander_10 (by decide) rfl c1 ?_
      refine mr_aload_n (pc' := 14) dX10_wander_13 rfl rfl ?_
      refine mr_getR (pc' := 17) (ci := 10) (j := 5) (b := 31) hR dX10_wander_14 rfl rfl rfl (by decide) (by decide) (by decide) rfl rfl ?_
      refine mr_iload_n (pc' := 18) dX10_wander_17 rfl rfl ?_
      obtain ⟨q2, g3, h4⟩ := Option.bind_eq_some_iff.mp h
      refine mr_cv (pc' := 21) (a := 31) (d1 := 0) dX10_wander_18 rfl rfl rfl rfl rfl rfl (by decide) rfl (by decide) (ok_X0_isStanding hR rfl g3) ?_
      show mr X _ _ 21 _ [.int q2] (MM RR S0) _
      by_cases c5 : q2 = (0 : Int32)
      · rw [if_pos c5] at h4
        refine mr_if_ne_f (t := 27) (pc' := 24) dX10_wander_21 (by decide) rfl (not_not_intro c5) ?_
        refine mr_goto (t := 118) dX10_wander_24 (by decide) ?_
        refine mr_iinc (pc' := 121) (x' := (p1 + (1 : Int32))) (lv' := [(1, .int (p1 + (1 : Int32))), (0, .ref 0)]) dX10_wander_118 rfl (by decide) rfl rfl rfl ?_
        refine mr_goto (t := 2) dX10_wander_121 (by decide) ?_
        exact mr_sub [(0, .ref 0), (1, .int (p1 + (1 : Int32)))] ⟨rfl, rfl, trivial⟩ rfl (ih _ _  h4)
      · rw [if_neg c5] at h4
        refine mr_if_ne_t (t := 27) dX10_wander_21 (by decide) c5 ?_
        refine mr_aload_n (pc' := 28) dX10_wander_27 rfl rfl ?_
        refine mr_getR (pc' := 31) (ci := 10) (j := 5) (b := 31) hR dX10_wander_28 rfl rfl rfl (by decide) (by decide) (by decide) rfl rfl ?_
        refine mr_getR (pc' := 34) (ci := 0) (j := 0) (b := 32) hR dX10_wander_31 rfl rfl rfl (by decide) (by decide) (by decide) rfl rfl ?_
        refine mr_iload_n (pc' := 35) dX10_wander_34 rfl rfl ?_
        obtain ⟨a6, g7, h8⟩ := Option.bind_eq_some_iff.mp h4
        refine mr_iald (pc' := 36) dX10_wander_35 rfl rfl rfl g7 ?_
        refine mr_istore_n (pc' := 37) (lv' := [(2, .int a6), (0, .ref 0), (1, .int p1)]) dX10_wander_36 rfl (by decide) rfl ?_
        refine mr_aload_n (pc' := 38) dX10_wander_37 rfl rfl ?_
        refine mr_getR (pc' := 41) (ci := 10) (j := 1) (b := 3) hR dX10_wander_38 rfl rfl rfl (by decide) (by decide) (by decide) rfl rfl ?_
        obtain ⟨q9, g10, h11⟩ := Option.bind_eq_some_iff.mp h8
        refine mr_cv (pc' := 44) (a := 3) (d1 := 0) dX10_wander_41 rfl rfl rfl rfl rfl rfl (by decide) rfl (by decide) (ok_X6_draw hR rfl g10) ?_
        show mr X _ _ 44 _ [.int q9.1] (MM RR q9.2) _
        refine mr_iconst (pc' := 45) (v := (4 : Int32)) dX10_wander_44 rfl (by decide) ?_
        obtain ⟨a12, g13, h14⟩ := Option.bind_eq_some_iff.mp h11
        refine mr_irem (pc' := 46) dX10_wander_45 rfl g13 ?_
        by_cases c15 : a12 = (0 : Int32)
        · rw [if_pos c15] at h14
          refine mr_if_ne_f (t := 53) (pc' := 49) dX10_wander_46 (by decide) rfl (not_not_intro c15) ?_
          refine mr_iconst (pc' := 50) (v := (1 : Int32)) dX10_wander_49 rfl (by decide) ?_
          refine mr_goto (t := 54) dX10_wander_50 (by decide) ?_
          refine mr_istore_n (pc' := 55) (lv' := [(3, .int (1 : Int32)), (2, .int a6), (0, .ref 0), (1, .int p1)]) dX10_wander_54 rfl (by decide) rfl ?_
          refine mr_aload_n (pc' := 56) dX10_wander_55 rfl rfl ?_
          refine mr_getR (pc' := 59) (ci := 10) (j := 1) (b := 3) hR dX10_wander_56 rfl rfl rfl (by decide) (by decide) (by decide) rfl rfl ?_
          refine mr_getR (pc' := 62) (ci := 6) (j := 0) (b := 4) hR dX10_wander_59 rfl rfl rfl (by decide) (by decide) (by decide) rfl rfl ?_
          refine mr_iload_n (pc' := 63) dX10_wander_62 rfl rfl ?_
          obtain ⟨q33, g34, h35⟩ := Option.bind_eq_some_iff.mp h14
          refine mr_cv (pc' := 66) (a := 4) (d1 := 1) dX10_wander_63 rfl rfl rfl rfl rfl rfl (by decide) rfl (by decide) (ok_X8_stairsAt hR rfl g34) ?_
          show mr X _ _ 66 _ [.int q33] (MM RR q9.2) _
          refine mr_istore (pc' := 68) (lv' := [(4, .int q33), (3, .int (1 : Int32)), (2, .int a6), (0, .ref 0), (1, .int p1)]) dX10_wander_66 rfl (by decide) rfl ?_
          refine mr_iload_n (pc' := 69) dX10_wander_68 rfl rfl ?_
          by_cases c36 : (1 : Int32) = (0 : Int32)
          · rw [if_pos c36] at h35
            refine mr_if_eq_t (t := 118) dX10_wander_69 (by decide) c36 ?_
            refine mr_iinc (pc' := 121) (x' := (p1 + (1 : Int32))) (lv' := [(1, .int (p1 + (1 : Int32))), (4, .int q33), (3, .int (1 : Int32)), (2, .int a6), (0, .ref 0)]) dX10_wander_118 rfl (by decide) rfl rfl rfl ?_
            refine mr_goto (t := 2) dX10_wander_121 (by decide) ?_
            exact mr_sub [(0, .ref 0), (1, .int (p1 + (1 : Int32)))] ⟨rfl, rfl, trivial⟩ rfl (ih _ _  h35)
          · rw [if_neg c36] at h35
            refine mr_if_eq_f (t := 118) (pc' := 72) dX10_wander_69 (by decide) rfl c36 ?_
            refine mr_iload (pc' := 74) dX10_wander_72 rfl rfl ?_
            by_cases c37 : q33 ≤ (0 : Int32)
            · rw [if_pos c37] at h35
              refine mr_if_le_t (t := 118) dX10_wander_74 (by decide) c37 ?_
              refine mr_iinc (pc' := 121) (x' := (p1 + (1 : Int32))) (lv' := [(1, .int (p1 + (1 : Int32))), (4, .int q33), (3, .int (1 : Int32)), (2, .int a6), (0, .ref 0)]) dX10_wander_118 rfl (by decide) rfl rfl rfl ?_
              refine mr_goto (t := 2) dX10_wander_121 (by decide) ?_
              exact mr_sub [(0, .ref 0), (1, .int (p1 + (1 : Int32)))] ⟨rfl, rfl, trivial⟩ rfl (ih _ _  h35)
            · rw [if_neg c37] at h35
              refine mr_if_le_f (t := 118) (pc' := 77) dX10_wander_74 (by decide) rfl c37 ?_
              refine mr_aload_n (pc' := 78) dX10_wander_77 rfl rfl ?_
              refine mr_getR (pc' := 81) (ci := 10) (j := 1) (b := 3) hR dX10_wander_78 rfl rfl rfl (by decide) (by decide) (by decide) rfl rfl ?_
              refine mr_getR (pc' := 84) (ci := 6) (j := 0) (b := 4) hR dX10_wander_81 rfl rfl rfl (by decide) (by decide) (by decide) rfl rfl ?_
              refine mr_iload_n (pc' := 85) dX10_wander_84 rfl rfl ?_
              refine mr_aload_n (pc' := 86) dX10_wander_85 rfl rfl ?_
              refine mr_getR (pc' := 89) (ci := 10) (j := 1) (b := 3) hR dX10_wander_86 rfl rfl rfl (by decide) (by decide) (by decide) rfl rfl ?_
              obtain ⟨q38, g39, h40⟩ := Option.bind_eq_some_iff.mp h35
              refine mr_cv (pc' := 92) (a := 3) (d1 := 0) dX10_wander_89 rfl rfl rfl rfl rfl rfl (by decide) rfl (by decide) (ok_X6_draw hR rfl g39) ?_
              show mr X _ _ 92 _ [.int q38.1, .int a6, .ref 4] (MM RR q38.2) _
              refine mr_iload (pc' := 94) dX10_wander_92 rfl rfl ?_
              obtain ⟨a41, g42, h43⟩ := Option.bind_eq_some_iff.mp h40
              refine mr_irem (pc' := 95) dX10_wander_94 rfl g42 ?_
              obtain ⟨q44, g45, h46⟩ := Option.bind_eq_some_iff.mp h43
              refine mr_cv (pc' := 98) (a := 4) (d1 := 1) dX10_wander_95 rfl rfl rfl rfl rfl rfl (by decide) rfl (by decide) (ok_X8_stairInPlace hR rfl g45) ?_
              show mr X _ _ 98 _ [.int q44] (MM RR q38.2) _
              refine mr_istore (pc' := 100) (lv' := [(5, .int q44), (4, .int q33), (3, .int (1 : Int32)), (2, .int a6), (0, .ref 0), (1, .int p1)]) dX10_wander_98 rfl (by decide) rfl ?_
              refine mr_aload_n (pc' := 101) dX10_wander_100 rfl rfl ?_
              refine mr_getR (pc' := 104) (ci := 10) (j := 5) (b := 31) hR dX10_wander_101 rfl rfl rfl (by decide) (by decide) (by decide) rfl rfl ?_
              refine mr_aload_n (pc' := 105) dX10_wander_104 rfl rfl ?_
              refine mr_getR (pc' := 108) (ci := 10) (j := 1) (b := 3) hR dX10_wander_105 rfl rfl rfl (by decide) (by decide) (by decide) rfl rfl ?_
              refine mr_getR (pc' := 111) (ci := 6) (j := 0) (b := 4) hR dX10_wander_108 rfl rfl rfl (by decide) (by decide) (by decide) rfl rfl ?_
              refine mr_iload_n (pc' := 112) dX10_wander_111 rfl rfl ?_
              refine mr_iload (pc' := 114) dX10_wander_112 rfl rfl ?_
              obtain ⟨q47, g48, h49⟩ := Option.bind_eq_some_iff.mp h46
              refine mr_cv (pc' := 117) (a := 31) (d1 := 1) dX10_wander_114 rfl rfl rfl rfl rfl rfl (by decide) rfl (by decide) (ok_X0_setOff hR rfl rfl g48) ?_
              show mr X _ _ 117 _ [.int q47.1] (MM RR q47.2) _
              refine mr_pop_int (pc' := 118) dX10_wander_117 rfl ?_
              refine mr_iinc (pc' := 121) (x' := (p1 + (1 : Int32))) (lv' := [(1, .int (p1 + (1 : Int32))), (5, .int q44), (4, .int q33), (3, .int (1 : Int32)), (2, .int a6), (0, .ref 0)]) dX10_wander_118 rfl (by decide) rfl rfl rfl ?_
              refine mr_goto (t := 2) dX10_wander_121 (by decide) ?_
              exact mr_sub [(0, .ref 0), (1, .int (p1 + (1 : Int32)))] ⟨rfl, rfl, trivial⟩ rfl (ih _ _  h49)
        · rw [if_neg c15] at h14
          refine mr_if_ne_t (t := 53) dX10_wander_46 (by decide) c15 ?_
          refine mr_iconst (pc' := 54) (v := (0 : Int32)) dX10_wander_53 rfl (by decide) ?_
          refine mr_istore_n (pc' := 55) (lv' := [(3, .int (0 : Int32)), (2, .int a6), (0, .ref 0), (1, .int p1)]) dX10_wander_54 rfl (by decide) rfl ?_
          refine mr_aload_n (pc' := 56) dX10_wander_55 rfl rfl ?_
          refine mr_getR (pc' := 59) (ci := 10) (j := 1) (b := 3) hR dX10_wander_56 rfl rfl rfl (by decide) (by decide) (by decide) rfl rfl ?_
          refine mr_getR (pc' := 62) (ci := 6) (j := 0) (b := 4) hR dX10_wander_59 rfl rfl rfl (by decide) (by decide) (by decide) rfl rfl ?_
          refine mr_iload_n (pc' := 63) dX10_wander_62 rfl rfl ?_
          obtain ⟨q16, g17, h18⟩ := Option.bind_eq_some_iff.mp h14
          refine mr_cv (pc' := 66) (a := 4) (d1 := 1) dX10_wander_63 rfl rfl rfl rfl rfl rfl (by decide) rfl (by decide) (ok_X8_stairsAt hR rfl g17) ?_
          show mr X _ _ 66 _ [.int q16] (MM RR q9.2) _
          refine mr_istore (pc' := 68) (lv' := [(4, .int q16), (3, .int (0 : Int32)), (2, .int a6), (0, .ref 0), (1, .int p1)]) dX10_wander_66 rfl (by decide) rfl ?_
          refine mr_iload_n (pc' := 69) dX10_wander_68 rfl rfl ?_
          by_cases c19 : (0 : Int32) = (0 : Int32)
          · rw [if_pos c19] at h18
            refine mr_if_eq_t (t := 118) dX10_wander_69 (by decide) c19 ?_
            refine mr_iinc (pc' := 121) (x' := (p1 + (1 : Int32))) (lv' := [(1, .int (p1 + (1 : Int32))), (4, .int q16), (3, .int (0 : Int32)), (2, .int a6), (0, .ref 0)]) dX10_wander_118 rfl (by decide) rfl rfl rfl ?_
            refine mr_goto (t := 2) dX10_wander_121 (by decide) ?_
            exact mr_sub [(0, .ref 0), (1, .int (p1 + (1 : Int32)))] ⟨rfl, rfl, trivial⟩ rfl (ih _ _  h18)
          · rw [if_neg c19] at h18
            refine mr_if_eq_f (t := 118) (pc' := 72) dX10_wander_69 (by decide) rfl c19 ?_
            refine mr_iload (pc' := 74) dX10_wander_72 rfl rfl ?_
            by_cases c20 : q16 ≤ (0 : Int32)
            · rw [if_pos c20] at h18
              refine mr_if_le_t (t := 118) dX10_wander_74 (by decide) c20 ?_
              refine mr_iinc (pc' := 121) (x' := (p1 + (1 : Int32))) (lv' := [(1, .int (p1 + (1 : Int32))), (4, .int q16), (3, .int (0 : Int32)), (2, .int a6), (0, .ref 0)]) dX10_wander_118 rfl (by decide) rfl rfl rfl ?_
              refine mr_goto (t := 2) dX10_wander_121 (by decide) ?_
              exact mr_sub [(0, .ref 0), (1, .int (p1 + (1 : Int32)))] ⟨rfl, rfl, trivial⟩ rfl (ih _ _  h18)
            · rw [if_neg c20] at h18
              refine mr_if_le_f (t := 118) (pc' := 77) dX10_wander_74 (by decide) rfl c20 ?_
              refine mr_aload_n (pc' := 78) dX10_wander_77 rfl rfl ?_
              refine mr_getR (pc' := 81) (ci := 10) (j := 1) (b := 3) hR dX10_wander_78 rfl rfl rfl (by decide) (by decide) (by decide) rfl rfl ?_
              refine mr_getR (pc' := 84) (ci := 6) (j := 0) (b := 4) hR dX10_wander_81 rfl rfl rfl (by decide) (by decide) (by decide) rfl rfl ?_
              refine mr_iload_n (pc' := 85) dX10_wander_84 rfl rfl ?_
              refine mr_aload_n (pc' := 86) dX10_wander_85 rfl rfl ?_
              refine mr_getR (pc' := 89) (ci := 10) (j := 1) (b := 3) hR dX10_wander_86 rfl rfl rfl (by decide) (by decide) (by decide) rfl rfl ?_
              obtain ⟨q21, g22, h23⟩ := Option.bind_eq_some_iff.mp h18
              refine mr_cv (pc' := 92) (a := 3) (d1 := 0) dX10_wander_89 rfl rfl rfl rfl rfl rfl (by decide) rfl (by decide) (ok_X6_draw hR rfl g22) ?_
              show mr X _ _ 92 _ [.int q21.1, .int a6, .ref 4] (MM RR q21.2) _
              refine mr_iload (pc' := 94) dX10_wander_92 rfl rfl ?_
              obtain ⟨a24, g25, h26⟩ := Option.bind_eq_some_iff.mp h23
              refine mr_irem (pc' := 95) dX10_wander_94 rfl g25 ?_
              obtain ⟨q27, g28, h29⟩ := Option.bind_eq_some_iff.mp h26
              refine mr_cv (pc' := 98) (a := 4) (d1 := 1) dX10_wander_95 rfl rfl rfl rfl rfl rfl (by decide) rfl (by decide) (ok_X8_stairInPlace hR rfl g28) ?_
              show mr X _ _ 98 _ [.int q27] (MM RR q21.2) _
              refine mr_istore (pc' := 100) (lv' := [(5, .int q27), (4, .int q16), (3, .int (0 : Int32)), (2, .int a6), (0, .ref 0), (1, .int p1)]) dX10_wander_98 rfl (by decide) rfl ?_
              refine mr_aload_n (pc' := 101) dX10_wander_100 rfl rfl ?_
              refine mr_getR (pc' := 104) (ci := 10) (j := 5) (b := 31) hR dX10_wander_101 rfl rfl rfl (by decide) (by decide) (by decide) rfl rfl ?_
              refine mr_aload_n (pc' := 105) dX10_wander_104 rfl rfl ?_
              refine mr_getR (pc' := 108) (ci := 10) (j := 1) (b := 3) hR dX10_wander_105 rfl rfl rfl (by decide) (by decide) (by decide) rfl rfl ?_
              refine mr_getR (pc' := 111) (ci := 6) (j := 0) (b := 4) hR dX10_wander_108 rfl rfl rfl (by decide) (by decide) (by decide) rfl rfl ?_
              refine mr_iload_n (pc' := 112) dX10_wander_111 rfl rfl ?_
              refine mr_iload (pc' := 114) dX10_wander_112 rfl rfl ?_
              obtain ⟨q30, g31, h32⟩ := Option.bind_eq_some_iff.mp h29
              refine mr_cv (pc' := 117) (a := 31) (d1 := 1) dX10_wander_114 rfl rfl rfl rfl rfl rfl (by decide) rfl (by decide) (ok_X0_setOff hR rfl rfl g31) ?_
              show mr X _ _ 117 _ [.int q30.1] (MM RR q30.2) _
              refine mr_pop_int (pc' := 118) dX10_wander_117 rfl ?_
              refine mr_iinc (pc' := 121) (x' := (p1 + (1 : Int32))) (lv' := [(1, .int (p1 + (1 : Int32))), (5, .int q27), (4, .int q16), (3, .int (0 : Int32)), (2, .int a6), (0, .ref 0)]) dX10_wander_118 rfl (by decide) rfl rfl rfl ?_
              refine mr_goto (t := 2) dX10_wander_121 (by decide) ?_
              exact mr_sub [(0, .ref 0), (1, .int (p1 + (1 : Int32)))] ⟨rfl, rfl, trivial⟩ rfl (ih _ _  h32)
def f_X10_wander  (S : fS) : Option (fS) :=
  lp_X10_wander_2  (fun S50 => some S50) FU (0 : Int32) S
set_option maxHeartbeats 4000000 in
set_option maxRecDepth 100000 in
theorem ok_X10_wander {X : mm_C} {RR : Nat → Nat → Option Nat} (hR : RRok RR)   {S : fS} {r : fS} (h : f_X10_wander  S = some r) : mr X 2 mY_X10_wander 0 (lv_args 0 [.ref 0]) [] (MM RR S) (none, MM RR r) := by
  unfold f_X10_wander at h
  show mr X _ _ 0 [(0, .ref 0)] [] (MM RR S) _
  refine mr_iconst (pc' := 1) (v := (0 : Int32)) dX10_wander_0 rfl (by decide) ?_
  refine mr_istore_n (pc' := 2) (lv' := [(1, .int (0 : Int32)), (0, .ref 0)]) dX10_wander_1 rfl (by decide) rfl ?_
  refine mr_sub [(0, .ref 0), (1, .int (0 : Int32))] ⟨rfl, rfl, trivial⟩ rfl ?_
  refine ok_lp_X10_wander_2 hR  (fun S50 h51 => ?_) FU _ _  h
  obtain rfl := Option.some.inj h51
  exact mr_return dX10_wander_124 rfl
def f_X0_isTogether (v0 : Nat) (v1 : Int32) (v2 : Int32) (S : fS) : Option (Int32) :=
  (f_X0_isStanding v0 v1 S).bind fun q1 =>
  if q1 = (0 : Int32) then (some (0 : Int32)) else
  ((gI S (v0 + 1) 8 v1).bind fun a5 =>
  (gI S (v0 + 1) 8 v2).bind fun a8 =>
  if a5 = a8 then (some (1 : Int32)) else
  (some (0 : Int32)))
set_option maxHeartbeats 4000000 in
set_option maxRecDepth 100000 in
theorem ok_X0_isTogether {X : mm_C} {RR : Nat → Nat → Option Nat} (hR : RRok RR) {v0 : Nat} {v1 : Int32} {v2 : Int32} (t0 : tg v0 = 0) {S : fS} {r : Int32} (h : f_X0_isTogether v0 v1 v2 S = some r) : mr X 1 mY_X0_isTogether 0 (lv_args 0 [.ref v0, .int v1, .int v2]) [] (MM RR S) (some (.int r), MM RR S) := by
  unfold f_X0_isTogether at h
  show mr X _ _ 0 [(0, .ref v0), (1, .int v1), (2, .int v2)] [] (MM RR S) _
  refine mr_aload_n (pc' := 1) dX0_isTogether_0 rfl rfl ?_
  refine mr_iload_n (pc' := 2) dX0_isTogether_1 rfl rfl ?_
  obtain ⟨q1, g2, h3⟩ := Option.bind_eq_some_iff.mp h
  refine mr_cv (pc' := 5) (a := v0) (d1 := 0) dX0_isTogether_2 rfl rfl rfl rfl rfl t0 (by decide) rfl (by decide) (ok_X0_isStanding hR t0 g2) ?_
  show mr X _ _ 5 _ [.int q1] (MM RR S) _
  by_cases c4 : q1 = (0 : Int32)
  · rw [if_pos c4] at h3
    refine mr_if_eq_t (t := 27) dX0_isTogether_5 (by decide) c4 ?_
    refine mr_iconst (pc' := 28) (v := (0 : Int32)) dX0_isTogether_27 rfl (by decide) ?_
    obtain rfl := Option.some.inj h3
    exact mr_zreturn dX0_isTogether_28 rfl (by decide)
  · rw [if_neg c4] at h3
    refine mr_if_eq_f (t := 27) (pc' := 8) dX0_isTogether_5 (by decide) rfl c4 ?_
    refine mr_aload_n (pc' := 9) dX0_isTogether_8 rfl rfl ?_
    refine mr_getR (pc' := 12) (ci := 0) (j := 0) (b := (v0 + 1)) hR dX0_isTogether_9 rfl rfl t0 (by decide) (by decide) (by decide) rfl (ly0_0 t0).1 ?_
    refine mr_iload_n (pc' := 13) dX0_isTogether_12 rfl rfl ?_
    obtain ⟨a5, g6, h7⟩ := Option.bind_eq_some_iff.mp h3
    refine mr_iald (pc' := 14) dX0_isTogether_13 rfl (ly0_0 t0).2.1 (ly0_0 t0).2.2 g6 ?_
    refine mr_aload_n (pc' := 15) dX0_isTogether_14 rfl rfl ?_
    refine mr_getR (pc' := 18) (ci := 0) (j := 0) (b := (v0 + 1)) hR dX0_isTogether_15 rfl rfl t0 (by decide) (by decide) (by decide) rfl (ly0_0 t0).1 ?_
    refine mr_iload_n (pc' := 19) dX0_isTogether_18 rfl rfl ?_
    obtain ⟨a8, g9, h10⟩ := Option.bind_eq_some_iff.mp h7
    refine mr_iald (pc' := 20) dX0_isTogether_19 rfl (ly0_0 t0).2.1 (ly0_0 t0).2.2 g9 ?_
    by_cases c11 : a5 = a8
    · rw [if_pos c11] at h10
      refine mr_icmp_ne_f (t := 27) (pc' := 23) dX0_isTogether_20 (by decide) rfl (not_not_intro c11) ?_
      refine mr_iconst (pc' := 24) (v := (1 : Int32)) dX0_isTogether_23 rfl (by decide) ?_
      refine mr_goto (t := 28) dX0_isTogether_24 (by decide) ?_
      obtain rfl := Option.some.inj h10
      exact mr_zreturn dX0_isTogether_28 rfl (by decide)
    · rw [if_neg c11] at h10
      refine mr_icmp_ne_t (t := 27) dX0_isTogether_20 (by decide) c11 ?_
      refine mr_iconst (pc' := 28) (v := (0 : Int32)) dX0_isTogether_27 rfl (by decide) ?_
      obtain rfl := Option.some.inj h10
      exact mr_zreturn dX0_isTogether_28 rfl (by decide)
def lp_X10_hoursMet_20 (p1 : Int32) (p2 : Int32) (p3 : Int32) (K : Int32 → fS → Option (Int32 × fS)) : Nat → Int32 → Int32 → fS → Option (Int32 × fS)
  | 0, _, _, _ => none
  | n + 1, p4, p5, S0 =>
    if p3 ≤ p5 then (K p4 S0) else
    ((f_X10_wander  S0).bind fun q5 =>
    (f_X0_passHour 31 4 q5).bind fun q8 =>
    (f_X0_isTogether 31 p1 p2 q8).bind fun q11 =>
    if q11 = (0 : Int32) then (lp_X10_hoursMet_20 p1 p2 p3 K n p4 (p5 + (1 : Int32)) q8) else
    (lp_X10_hoursMet_20 p1 p2 p3 K n (p4 + (1 : Int32)) (p5 + (1 : Int32)) q8))
set_option maxHeartbeats 4000000 in
set_option maxRecDepth 100000 in
theorem ok_lp_X10_hoursMet_20 {X : mm_C} {RR : Nat → Nat → Option Nat} (hR : RRok RR) {p1 : Int32} {p2 : Int32} {p3 : Int32}  {K : Int32 → fS → Option (Int32 × fS)} {r : Int32 × fS} (hK : ∀ (k4 : Int32) (Sk : fS), K k4 Sk = some r → mr X 3 mY_X10_hoursMet 65 [(4, .int k4)] [] (MM RR Sk) (some (.int r.1), MM RR r.2)) : ∀ (n : Nat) (p4 : Int32) (p5 : Int32) (S0 : fS), lp_X10_hoursMet_20 p1 p2 p3 K n p4 p5 S0 = some r → mr X 3 mY_X10_hoursMet 20 [(0, .ref 0), (1, .int p1), (2, .int p2), (3, .int p3), (4, .int p4), (5, .int p5)] [] (MM RR S0) (some (.int r.1), MM RR r.2) := by
  intro n
  induction n with
  | zero => intro p4 p5 S0 h; exact mm_no h
  | succ n ih =>
    intro p4 p5 S0 h
    unfold lp_X10_hoursMet_20 at h
    refine mr_iload (pc' := 22) dX10_hoursMet_20 rfl rfl ?_
    refine mr_iload_n (pc' := 23) dX10_hoursMet_22 rfl rfl ?_
    by_cases c4 : p3 ≤ p5
    · rw [if_pos c4] at h
      refine mr_icmp_ge_t (t := 65) dX10_hoursMet_23 (by decide) c4 ?_
      exact mr_sub [(4, .int p4)] ⟨rfl, trivial⟩ rfl (hK _ _  h)
    · rw [if_neg c4] at h
      refine mr_icmp_ge_f (t := 65) (pc' := 26) dX10_hoursMet_23 (by decide) rfl c4 ?_
      refine mr_aload_n (pc' := 27) dX10_hoursMet_26 rfl rfl ?_
      obtain ⟨q5, g6, h7⟩ := Option.bind_eq_some_iff.mp h
      refine mr_cv (pc' := 30) (a := 0) (d1 := 2) dX10_hoursMet_27 rfl rfl rfl rfl rfl rfl (by decide) rfl (by decide) (ok_X10_wander hR  g6) ?_
      show mr X _ _ 30 _ [] (MM RR q5) _
      refine mr_aload_n (pc' := 31) dX10_hoursMet_30 rfl rfl ?_
      refine mr_getR (pc' := 34) (ci := 10) (j := 5) (b := 31) hR dX10_hoursMet_31 rfl rfl rfl (by decide) (by decide) (by decide) rfl rfl ?_
      refine mr_aload_n (pc' := 35) dX10_hoursMet_34 rfl rfl ?_
      refine mr_getR (pc' := 38) (ci := 10) (j := 1) (b := 3) hR dX10_hoursMet_35 rfl rfl rfl (by decide) (by decide) (by decide) rfl rfl ?_
      refine mr_getR (pc' := 41) (ci := 6) (j := 0) (b := 4) hR dX10_hoursMet_38 rfl rfl rfl (by decide) (by decide) (by decide) rfl rfl ?_
      obtain ⟨q8, g9, h10⟩ := Option.bind_eq_some_iff.mp h7
      refine mr_cv (pc' := 44) (a := 31) (d1 := 1) dX10_hoursMet_41 rfl rfl rfl rfl rfl rfl (by decide) rfl (by decide) (ok_X0_passHour hR rfl rfl g9) ?_
      show mr X _ _ 44 _ [] (MM RR q8) _
      refine mr_aload_n (pc' := 45) dX10_hoursMet_44 rfl rfl ?_
      refine mr_getR (pc' := 48) (ci := 10) (j := 5) (b := 31) hR dX10_hoursMet_45 rfl rfl rfl (by decide) (by decide) (by decide) rfl rfl ?_
      refine mr_iload_n (pc' := 49) dX10_hoursMet_48 rfl rfl ?_
      refine mr_iload_n (pc' := 50) dX10_hoursMet_49 rfl rfl ?_
      obtain ⟨q11, g12, h13⟩ := Option.bind_eq_some_iff.mp h10
      refine mr_cv (pc' := 53) (a := 31) (d1 := 1) dX10_hoursMet_50 rfl rfl rfl rfl rfl rfl (by decide) rfl (by decide) (ok_X0_isTogether hR rfl g12) ?_
      show mr X _ _ 53 _ [.int q11] (MM RR q8) _
      by_cases c14 : q11 = (0 : Int32)
      · rw [if_pos c14] at h13
        refine mr_if_eq_t (t := 59) dX10_hoursMet_53 (by decide) c14 ?_
        refine mr_iinc (pc' := 62) (x' := (p5 + (1 : Int32))) (lv' := [(5, .int (p5 + (1 : Int32))), (0, .ref 0), (1, .int p1), (2, .int p2), (3, .int p3), (4, .int p4)]) dX10_hoursMet_59 rfl (by decide) rfl rfl rfl ?_
        refine mr_goto (t := 20) dX10_hoursMet_62 (by decide) ?_
        exact mr_sub [(0, .ref 0), (1, .int p1), (2, .int p2), (3, .int p3), (4, .int p4), (5, .int (p5 + (1 : Int32)))] ⟨rfl, rfl, rfl, rfl, rfl, rfl, trivial⟩ rfl (ih _ _ _  h13)
      · rw [if_neg c14] at h13
        refine mr_if_eq_f (t := 59) (pc' := 56) dX10_hoursMet_53 (by decide) rfl c14 ?_
        refine mr_iinc (pc' := 59) (x' := (p4 + (1 : Int32))) (lv' := [(4, .int (p4 + (1 : Int32))), (0, .ref 0), (1, .int p1), (2, .int p2), (3, .int p3), (5, .int p5)]) dX10_hoursMet_56 rfl (by decide) rfl rfl rfl ?_
        refine mr_iinc (pc' := 62) (x' := (p5 + (1 : Int32))) (lv' := [(5, .int (p5 + (1 : Int32))), (4, .int (p4 + (1 : Int32))), (0, .ref 0), (1, .int p1), (2, .int p2), (3, .int p3)]) dX10_hoursMet_59 rfl (by decide) rfl rfl rfl ?_
        refine mr_goto (t := 20) dX10_hoursMet_62 (by decide) ?_
        exact mr_sub [(0, .ref 0), (1, .int p1), (2, .int p2), (3, .int p3), (4, .int (p4 + (1 : Int32))), (5, .int (p5 + (1 : Int32)))] ⟨rfl, rfl, rfl, rfl, rfl, rfl, trivial⟩ rfl (ih _ _ _  h13)
def f_X10_hoursMet (v1 : Int32) (v2 : Int32) (v3 : Int32) (S : fS) : Option (Int32 × fS) :=
  (f_X0_copyFrom 31 11 S).bind fun q1 =>
  lp_X10_hoursMet_20 v1 v2 v3 (fun u15 S16 => some (u15, S16)) FU (0 : Int32) (0 : Int32) q1
set_option maxHeartbeats 4000000 in
set_option maxRecDepth 100000 in
theorem ok_X10_hoursMet {X : mm_C} {RR : Nat → Nat → Option Nat} (hR : RRok RR) {v1 : Int32} {v2 : Int32} {v3 : Int32}  {S : fS} {r : Int32 × fS} (h : f_X10_hoursMet v1 v2 v3 S = some r) : mr X 3 mY_X10_hoursMet 0 (lv_args 0 [.ref 0, .int v1, .int v2, .int v3]) [] (MM RR S) (some (.int r.1), MM RR r.2) := by
  unfold f_X10_hoursMet at h
  show mr X _ _ 0 [(0, .ref 0), (1, .int v1), (2, .int v2), (3, .int v3)] [] (MM RR S) _
  refine mr_iconst (pc' := 1) (v := (0 : Int32)) dX10_hoursMet_0 rfl (by decide) ?_
  refine mr_istore (pc' := 3) (lv' := [(4, .int (0 : Int32)), (0, .ref 0), (1, .int v1), (2, .int v2), (3, .int v3)]) dX10_hoursMet_1 rfl (by decide) rfl ?_
  refine mr_aload_n (pc' := 4) dX10_hoursMet_3 rfl rfl ?_
  refine mr_getR (pc' := 7) (ci := 10) (j := 5) (b := 31) hR dX10_hoursMet_4 rfl rfl rfl (by decide) (by decide) (by decide) rfl rfl ?_
  refine mr_aload_n (pc' := 8) dX10_hoursMet_7 rfl rfl ?_
  refine mr_getR (pc' := 11) (ci := 10) (j := 1) (b := 3) hR dX10_hoursMet_8 rfl rfl rfl (by decide) (by decide) (by decide) rfl rfl ?_
  refine mr_getR (pc' := 14) (ci := 6) (j := 1) (b := 11) hR dX10_hoursMet_11 rfl rfl rfl (by decide) (by decide) (by decide) rfl rfl ?_
  obtain ⟨q1, g2, h3⟩ := Option.bind_eq_some_iff.mp h
  refine mr_cv (pc' := 17) (a := 31) (d1 := 0) dX10_hoursMet_14 rfl rfl rfl rfl rfl rfl (by decide) rfl (by decide) (ok_X0_copyFrom hR rfl rfl g2) ?_
  show mr X _ _ 17 _ [] (MM RR q1) _
  refine mr_iconst (pc' := 18) (v := (0 : Int32)) dX10_hoursMet_17 rfl (by decide) ?_
  refine mr_istore (pc' := 20) (lv' := [(5, .int (0 : Int32)), (4, .int (0 : Int32)), (0, .ref 0), (1, .int v1), (2, .int v2), (3, .int v3)]) dX10_hoursMet_18 rfl (by decide) rfl ?_
  refine mr_sub [(0, .ref 0), (1, .int v1), (2, .int v2), (3, .int v3), (4, .int (0 : Int32)), (5, .int (0 : Int32))] ⟨rfl, rfl, rfl, rfl, rfl, rfl, trivial⟩ rfl ?_
  refine ok_lp_X10_hoursMet_20 hR  (fun u15 S16 h17 => ?_) FU _ _ _  h3
  refine mr_iload (pc' := 67) dX10_hoursMet_65 rfl rfl ?_
  obtain rfl := Option.some.inj h17
  exact mr_ireturn dX10_hoursMet_67 rfl
def lp_X10_meetings_66 (p1 : Int32) (p2 : Int32) (p3 : Int32) (p4 : Int32) (p5 : Int32) (K : Int32 → Int32 → fS → Option (Int32 × fS)) : Nat → Int32 → Int32 → Int32 → fS → Option (Int32 × fS)
  | 0, _, _, _, _ => none
  | n + 1, p6, p7, p8, S0 =>
    if p3 ≤ p8 then (K p6 p7 S0) else
    ((f_X10_hoursMet p1 p2 p4 S0).bind fun q23 =>
    if q23.1 ≤ (0 : Int32) then (lp_X10_meetings_66 p1 p2 p3 p4 p5 K n (p6 + q23.1) (p7 + (0 : Int32)) (p8 + (1 : Int32)) q23.2) else
    (lp_X10_meetings_66 p1 p2 p3 p4 p5 K n (p6 + q23.1) (p7 + (1 : Int32)) (p8 + (1 : Int32)) q23.2))
set_option maxHeartbeats 4000000 in
set_option maxRecDepth 100000 in
theorem ok_lp_X10_meetings_66 {X : mm_C} {RR : Nat → Nat → Option Nat} (hR : RRok RR) {p1 : Int32} {p2 : Int32} {p3 : Int32} {p4 : Int32} {p5 : Int32}  {K : Int32 → Int32 → fS → Option (Int32 × fS)} {r : Int32 × fS} (hK : ∀ (k6 : Int32) (k7 : Int32) (Sk : fS), K k6 k7 Sk = some r → mr X 4 mY_X10_meetings 110 [(5, .int p5), (6, .int k6), (7, .int k7)] [] (MM RR Sk) (some (.int r.1), MM RR r.2)) : ∀ (n : Nat) (p6 : Int32) (p7 : Int32) (p8 : Int32) (S0 : fS), lp_X10_meetings_66 p1 p2 p3 p4 p5 K n p6 p7 p8 S0 = some r → mr X 4 mY_X10_meetings 66 [(0, .ref 0), (1, .int p1), (2, .int p2), (3, .int p3), (4, .int p4), (5, .int p5), (6, .int p6), (7, .int p7), (8, .int p8)] [] (MM RR S0) (some (.int r.1), MM RR r.2) := by
  intro n
  induction n with
  | zero => intro p6 p7 p8 S0 h; exact mm_no h
  | succ n ih =>
    intro p6 p7 p8 S0 h
    unfold lp_X10_meetings_66 at h
    refine mr_iload (pc' := 68) dX10_meetings_66 rfl rfl ?_
    refine mr_iload_n (pc' := 69) dX10_meetings_68 rfl rfl ?_
    by_cases c22 : p3 ≤ p8
    · rw [if_pos c22] at h
      refine mr_icmp_ge_t (t := 110) dX10_meetings_69 (by decide) c22 ?_
      exact mr_sub [(5, .int p5), (6, .int p6), (7, .int p7)] ⟨rfl, rfl, rfl, trivial⟩ rfl (hK _ _ _  h)
    · rw [if_neg c22] at h
      refine mr_icmp_ge_f (t := 110) (pc' := 72) dX10_meetings_69 (by decide) rfl c22 ?_
      refine mr_aload_n (pc' := 73) dX10_meetings_72 rfl rfl ?_
      refine mr_iload_n (pc' := 74) dX10_meetings_73 rfl rfl ?_
      refine mr_iload_n (pc' := 75) dX10_meetings_74 rfl rfl ?_
      refine mr_iload (pc' := 77) dX10_meetings_75 rfl rfl ?_
      obtain ⟨q23, g24, h25⟩ := Option.bind_eq_some_iff.mp h
      refine mr_cv (pc' := 80) (a := 0) (d1 := 3) dX10_meetings_77 rfl rfl rfl rfl rfl rfl (by decide) rfl (by decide) (ok_X10_hoursMet hR  g24) ?_
      show mr X _ _ 80 _ [.int q23.1] (MM RR q23.2) _
      refine mr_istore (pc' := 82) (lv' := [(9, .int q23.1), (0, .ref 0), (1, .int p1), (2, .int p2), (3, .int p3), (4, .int p4), (5, .int p5), (6, .int p6), (7, .int p7), (8, .int p8)]) dX10_meetings_80 rfl (by decide) rfl ?_
      refine mr_iload (pc' := 84) dX10_meetings_82 rfl rfl ?_
      refine mr_iload (pc' := 86) dX10_meetings_84 rfl rfl ?_
      refine mr_iadd (pc' := 87) dX10_meetings_86 rfl ?_
      refine mr_istore (pc' := 89) (lv' := [(6, .int (p6 + q23.1)), (9, .int q23.1), (0, .ref 0), (1, .int p1), (2, .int p2), (3, .int p3), (4, .int p4), (5, .int p5), (7, .int p7), (8, .int p8)]) dX10_meetings_87 rfl (by decide) rfl ?_
      refine mr_iload (pc' := 91) dX10_meetings_89 rfl rfl ?_
      refine mr_iload (pc' := 93) dX10_meetings_91 rfl rfl ?_
      by_cases c26 : q23.1 ≤ (0 : Int32)
      · rw [if_pos c26] at h25
        refine mr_if_le_t (t := 100) dX10_meetings_93 (by decide) c26 ?_
        refine mr_iconst (pc' := 101) (v := (0 : Int32)) dX10_meetings_100 rfl (by decide) ?_
        refine mr_iadd (pc' := 102) dX10_meetings_101 rfl ?_
        refine mr_istore (pc' := 104) (lv' := [(7, .int (p7 + (0 : Int32))), (6, .int (p6 + q23.1)), (9, .int q23.1), (0, .ref 0), (1, .int p1), (2, .int p2), (3, .int p3), (4, .int p4), (5, .int p5), (8, .int p8)]) dX10_meetings_102 rfl (by decide) rfl ?_
        refine mr_iinc (pc' := 107) (x' := (p8 + (1 : Int32))) (lv' := [(8, .int (p8 + (1 : Int32))), (7, .int (p7 + (0 : Int32))), (6, .int (p6 + q23.1)), (9, .int q23.1), (0, .ref 0), (1, .int p1), (2, .int p2), (3, .int p3), (4, .int p4), (5, .int p5)]) dX10_meetings_104 rfl (by decide) rfl rfl rfl ?_
        refine mr_goto (t := 66) dX10_meetings_107 (by decide) ?_
        exact mr_sub [(0, .ref 0), (1, .int p1), (2, .int p2), (3, .int p3), (4, .int p4), (5, .int p5), (6, .int (p6 + q23.1)), (7, .int (p7 + (0 : Int32))), (8, .int (p8 + (1 : Int32)))] ⟨rfl, rfl, rfl, rfl, rfl, rfl, rfl, rfl, rfl, trivial⟩ rfl (ih _ _ _ _  h25)
      · rw [if_neg c26] at h25
        refine mr_if_le_f (t := 100) (pc' := 96) dX10_meetings_93 (by decide) rfl c26 ?_
        refine mr_iconst (pc' := 97) (v := (1 : Int32)) dX10_meetings_96 rfl (by decide) ?_
        refine mr_goto (t := 101) dX10_meetings_97 (by decide) ?_
        refine mr_iadd (pc' := 102) dX10_meetings_101 rfl ?_
        refine mr_istore (pc' := 104) (lv' := [(7, .int (p7 + (1 : Int32))), (6, .int (p6 + q23.1)), (9, .int q23.1), (0, .ref 0), (1, .int p1), (2, .int p2), (3, .int p3), (4, .int p4), (5, .int p5), (8, .int p8)]) dX10_meetings_102 rfl (by decide) rfl ?_
        refine mr_iinc (pc' := 107) (x' := (p8 + (1 : Int32))) (lv' := [(8, .int (p8 + (1 : Int32))), (7, .int (p7 + (1 : Int32))), (6, .int (p6 + q23.1)), (9, .int q23.1), (0, .ref 0), (1, .int p1), (2, .int p2), (3, .int p3), (4, .int p4), (5, .int p5)]) dX10_meetings_104 rfl (by decide) rfl rfl rfl ?_
        refine mr_goto (t := 66) dX10_meetings_107 (by decide) ?_
        exact mr_sub [(0, .ref 0), (1, .int p1), (2, .int p2), (3, .int p3), (4, .int p4), (5, .int p5), (6, .int (p6 + q23.1)), (7, .int (p7 + (1 : Int32))), (8, .int (p8 + (1 : Int32)))] ⟨rfl, rfl, rfl, rfl, rfl, rfl, rfl, rfl, rfl, trivial⟩ rfl (ih _ _ _ _  h25)
def f_X10_meetings (v1 : Int32) (v2 : Int32) (v3 : Int32) (v4 : Int32) (v5 : Int32) (S : fS) : Option (Int32 × fS) :=
  (f_X10_isThing v1 S).bind fun q1 =>
  if q1 = (0 : Int32) then (some ((-1 : Int32), S)) else
  ((f_X10_isThing v2 S).bind fun q5 =>
  if q5 = (0 : Int32) then (some ((-1 : Int32), S)) else
  (if v1 = v2 then (some ((-1 : Int32), S)) else
  ((f_X10_isFrom v5 (0 : Int32) (1 : Int32) S).bind fun q10 =>
  if q10 = (0 : Int32) then (some ((-1 : Int32), S)) else
  ((f_X10_isFrom v3 (1 : Int32) (20 : Int32) S).bind fun q14 =>
  if q14 = (0 : Int32) then (some ((-1 : Int32), S)) else
  ((f_X10_isFrom v4 (1 : Int32) (200 : Int32) S).bind fun q18 =>
  if q18 = (0 : Int32) then (some ((-1 : Int32), S)) else
  (lp_X10_meetings_66 v1 v2 v3 v4 v5 (fun u27 u28 S29 => if v5 = (0 : Int32) then (some (u27, S29)) else
  (some (u28, S29))) FU (0 : Int32) (0 : Int32) (0 : Int32) S))))))
set_option maxHeartbeats 4000000 in
set_option maxRecDepth 100000 in
theorem ok_X10_meetings {X : mm_C} {RR : Nat → Nat → Option Nat} (hR : RRok RR) {v1 : Int32} {v2 : Int32} {v3 : Int32} {v4 : Int32} {v5 : Int32}  {S : fS} {r : Int32 × fS} (h : f_X10_meetings v1 v2 v3 v4 v5 S = some r) : mr X 4 mY_X10_meetings 0 (lv_args 0 [.ref 0, .int v1, .int v2, .int v3, .int v4, .int v5]) [] (MM RR S) (some (.int r.1), MM RR r.2) := by
  unfold f_X10_meetings at h
  show mr X _ _ 0 [(0, .ref 0), (1, .int v1), (2, .int v2), (3, .int v3), (4, .int v4), (5, .int v5)] [] (MM RR S) _
  refine mr_aload_n (pc' := 1) dX10_meetings_0 rfl rfl ?_
  refine mr_iload_n (pc' := 2) dX10_meetings_1 rfl rfl ?_
  obtain ⟨q1, g2, h3⟩ := Option.bind_eq_some_iff.mp h
  refine mr_cv (pc' := 5) (a := 0) (d1 := 1) dX10_meetings_2 rfl rfl rfl rfl rfl rfl (by decide) rfl (by decide) (ok_X10_isThing hR  g2) ?_
  show mr X _ _ 5 _ [.int q1] (MM RR S) _
  by_cases c4 : q1 = (0 : Int32)
  · rw [if_pos c4] at h3
    refine mr_if_eq_t (t := 31) dX10_meetings_5 (by decide) c4 ?_
    refine mr_iconst (pc' := 32) (v := (-1 : Int32)) dX10_meetings_31 rfl (by decide) ?_
    obtain rfl := Option.some.inj h3
    exact mr_ireturn dX10_meetings_32 rfl
  · rw [if_neg c4] at h3
    refine mr_if_eq_f (t := 31) (pc' := 8) dX10_meetings_5 (by decide) rfl c4 ?_
    refine mr_aload_n (pc' := 9) dX10_meetings_8 rfl rfl ?_
    refine mr_iload_n (pc' := 10) dX10_meetings_9 rfl rfl ?_
    obtain ⟨q5, g6, h7⟩ := Option.bind_eq_some_iff.mp h3
    refine mr_cv (pc' := 13) (a := 0) (d1 := 1) dX10_meetings_10 rfl rfl rfl rfl rfl rfl (by decide) rfl (by decide) (ok_X10_isThing hR  g6) ?_
    show mr X _ _ 13 _ [.int q5] (MM RR S) _
    by_cases c8 : q5 = (0 : Int32)
    · rw [if_pos c8] at h7
      refine mr_if_eq_t (t := 31) dX10_meetings_13 (by decide) c8 ?_
      refine mr_iconst (pc' := 32) (v := (-1 : Int32)) dX10_meetings_31 rfl (by decide) ?_
      obtain rfl := Option.some.inj h7
      exact mr_ireturn dX10_meetings_32 rfl
    · rw [if_neg c8] at h7
      refine mr_if_eq_f (t := 31) (pc' := 16) dX10_meetings_13 (by decide) rfl c8 ?_
      refine mr_iload_n (pc' := 17) dX10_meetings_16 rfl rfl ?_
      refine mr_iload_n (pc' := 18) dX10_meetings_17 rfl rfl ?_
      by_cases c9 : v1 = v2
      · rw [if_pos c9] at h7
        refine mr_icmp_eq_t (t := 31) dX10_meetings_18 (by decide) c9 ?_
        refine mr_iconst (pc' := 32) (v := (-1 : Int32)) dX10_meetings_31 rfl (by decide) ?_
        obtain rfl := Option.some.inj h7
        exact mr_ireturn dX10_meetings_32 rfl
      · rw [if_neg c9] at h7
        refine mr_icmp_eq_f (t := 31) (pc' := 21) dX10_meetings_18 (by decide) rfl c9 ?_
        refine mr_iload (pc' := 23) dX10_meetings_21 rfl rfl ?_
        refine mr_iconst (pc' := 24) (v := (0 : Int32)) dX10_meetings_23 rfl (by decide) ?_
        refine mr_iconst (pc' := 25) (v := (1 : Int32)) dX10_meetings_24 rfl (by decide) ?_
        obtain ⟨q10, g11, h12⟩ := Option.bind_eq_some_iff.mp h7
        refine mr_cs (pc' := 28) (d1 := 0) dX10_meetings_25 rfl rfl rfl rfl (by decide) (Nat.le_of_ble_eq_true rfl) rfl rfl rfl (by decide) (ok_X10_isFrom hR  g11) ?_
        show mr X _ _ 28 _ [.int q10] (MM RR S) _
        by_cases c13 : q10 = (0 : Int32)
        · rw [if_pos c13] at h12
          refine mr_if_ne_f (t := 33) (pc' := 31) dX10_meetings_28 (by decide) rfl (not_not_intro c13) ?_
          refine mr_iconst (pc' := 32) (v := (-1 : Int32)) dX10_meetings_31 rfl (by decide) ?_
          obtain rfl := Option.some.inj h12
          exact mr_ireturn dX10_meetings_32 rfl
        · rw [if_neg c13] at h12
          refine mr_if_ne_t (t := 33) dX10_meetings_28 (by decide) c13 ?_
          refine mr_iload_n (pc' := 34) dX10_meetings_33 rfl rfl ?_
          refine mr_iconst (pc' := 35) (v := (1 : Int32)) dX10_meetings_34 rfl (by decide) ?_
          refine mr_bipush (pc' := 37) (v := (20 : Int32)) dX10_meetings_35 rfl (by decide) ?_
          obtain ⟨q14, g15, h16⟩ := Option.bind_eq_some_iff.mp h12
          refine mr_cs (pc' := 40) (d1 := 0) dX10_meetings_37 rfl rfl rfl rfl (by decide) (Nat.le_of_ble_eq_true rfl) rfl rfl rfl (by decide) (ok_X10_isFrom hR  g15) ?_
          show mr X _ _ 40 _ [.int q14] (MM RR S) _
          by_cases c17 : q14 = (0 : Int32)
          · rw [if_pos c17] at h16
            refine mr_if_eq_t (t := 55) dX10_meetings_40 (by decide) c17 ?_
            refine mr_iconst (pc' := 56) (v := (-1 : Int32)) dX10_meetings_55 rfl (by decide) ?_
            obtain rfl := Option.some.inj h16
            exact mr_ireturn dX10_meetings_56 rfl
          · rw [if_neg c17] at h16
            refine mr_if_eq_f (t := 55) (pc' := 43) dX10_meetings_40 (by decide) rfl c17 ?_
            refine mr_iload (pc' := 45) dX10_meetings_43 rfl rfl ?_
            refine mr_iconst (pc' := 46) (v := (1 : Int32)) dX10_meetings_45 rfl (by decide) ?_
            refine mr_sipush (pc' := 49) (v := (200 : Int32)) dX10_meetings_46 rfl (by decide) ?_
            obtain ⟨q18, g19, h20⟩ := Option.bind_eq_some_iff.mp h16
            refine mr_cs (pc' := 52) (d1 := 0) dX10_meetings_49 rfl rfl rfl rfl (by decide) (Nat.le_of_ble_eq_true rfl) rfl rfl rfl (by decide) (ok_X10_isFrom hR  g19) ?_
            show mr X _ _ 52 _ [.int q18] (MM RR S) _
            by_cases c21 : q18 = (0 : Int32)
            · rw [if_pos c21] at h20
              refine mr_if_ne_f (t := 57) (pc' := 55) dX10_meetings_52 (by decide) rfl (not_not_intro c21) ?_
              refine mr_iconst (pc' := 56) (v := (-1 : Int32)) dX10_meetings_55 rfl (by decide) ?_
              obtain rfl := Option.some.inj h20
              exact mr_ireturn dX10_meetings_56 rfl
            · rw [if_neg c21] at h20
              refine mr_if_ne_t (t := 57) dX10_meetings_52 (by decide) c21 ?_
              refine mr_iconst (pc' := 58) (v := (0 : Int32)) dX10_meetings_57 rfl (by decide) ?_
              refine mr_istore (pc' := 60) (lv' := [(6, .int (0 : Int32)), (0, .ref 0), (1, .int v1), (2, .int v2), (3, .int v3), (4, .int v4), (5, .int v5)]) dX10_meetings_58 rfl (by decide) rfl ?_
              refine mr_iconst (pc' := 61) (v := (0 : Int32)) dX10_meetings_60 rfl (by decide) ?_
              refine mr_istore (pc' := 63) (lv' := [(7, .int (0 : Int32)), (6, .int (0 : Int32)), (0, .ref 0), (1, .int v1), (2, .int v2), (3, .int v3), (4, .int v4), (5, .int v5)]) dX10_meetings_61 rfl (by decide) rfl ?_
              refine mr_iconst (pc' := 64) (v := (0 : Int32)) dX10_meetings_63 rfl (by decide) ?_
              refine mr_istore (pc' := 66) (lv' := [(8, .int (0 : Int32)), (7, .int (0 : Int32)), (6, .int (0 : Int32)), (0, .ref 0), (1, .int v1), (2, .int v2), (3, .int v3), (4, .int v4), (5, .int v5)]) dX10_meetings_64 rfl (by decide) rfl ?_
              refine mr_sub [(0, .ref 0), (1, .int v1), (2, .int v2), (3, .int v3), (4, .int v4), (5, .int v5), (6, .int (0 : Int32)), (7, .int (0 : Int32)), (8, .int (0 : Int32))] ⟨rfl, rfl, rfl, rfl, rfl, rfl, rfl, rfl, rfl, trivial⟩ rfl ?_
              refine ok_lp_X10_meetings_66 hR  (fun u27 u28 S29 h30 => ?_) FU _ _ _ _  h20
              refine mr_iload (pc' := 112) dX10_meetings_110 rfl rfl ?_
              by_cases c31 : v5 = (0 : Int32)
              · rw [if_pos c31] at h30
                refine mr_if_ne_f (t := 120) (pc' := 115) dX10_meetings_112 (by decide) rfl (not_not_intro c31) ?_
                refine mr_iload (pc' := 117) dX10_meetings_115 rfl rfl ?_
                refine mr_goto (t := 122) dX10_meetings_117 (by decide) ?_
                obtain rfl := Option.some.inj h30
                exact mr_ireturn dX10_meetings_122 rfl
              · rw [if_neg c31] at h30
                refine mr_if_ne_t (t := 120) dX10_meetings_112 (by decide) c31 ?_
                refine mr_iload (pc' := 122) dX10_meetings_120 rfl rfl ?_
                obtain rfl := Option.some.inj h30
                exact mr_ireturn dX10_meetings_122 rfl
def lp_X2_earlyOnes_4 (p0 : Nat) (p1 : Nat) (S : fS) (K : Int32 → Option (Int32)) : Nat → Int32 → Int32 → Option (Int32)
  | 0, _, _ => none
  | n + 1, p2, p3 =>
    if (S.1 p0 4) ≤ p3 then (K p2) else
    ((f_X2_isEarly p0 p1 p3 S).bind fun q2 =>
    if q2 = (0 : Int32) then (lp_X2_earlyOnes_4 p0 p1 S K n (p2 + (0 : Int32)) (p3 + (1 : Int32))) else
    (lp_X2_earlyOnes_4 p0 p1 S K n (p2 + (1 : Int32)) (p3 + (1 : Int32))))
set_option maxHeartbeats 4000000 in
set_option maxRecDepth 100000 in
theorem ok_lp_X2_earlyOnes_4 {X : mm_C} {RR : Nat → Nat → Option Nat} (hR : RRok RR) {p0 : Nat} {p1 : Nat} (t0 : tg p0 = 2) (t1 : tg p1 = 8) {S : fS} {K : Int32 → Option (Int32)} {r : Int32} (hK : ∀ (k2 : Int32), K k2 = some r → mr X 3 mY_X2_earlyOnes 35 [(2, .int k2)] [] (MM RR S) (some (.int r), MM RR S)) : ∀ (n : Nat) (p2 : Int32) (p3 : Int32), lp_X2_earlyOnes_4 p0 p1 S K n p2 p3 = some r → mr X 3 mY_X2_earlyOnes 4 [(0, .ref p0), (1, .ref p1), (2, .int p2), (3, .int p3)] [] (MM RR S) (some (.int r), MM RR S) := by
  intro n
  induction n with
  | zero => intro p2 p3 h; exact mm_no h
  | succ n ih =>
    intro p2 p3 h
    unfold lp_X2_earlyOnes_4 at h
    refine mr_iload_n (pc' := 5) dX2_earlyOnes_4 rfl rfl ?_
    refine mr_aload_n (pc' := 6) dX2_earlyOnes_5 rfl rfl ?_
    refine mr_getI (pc' := 9) (ci := 2) (j := 4) dX2_earlyOnes_6 rfl rfl t0 (by decide) (by decide) rfl ?_
    by_cases c1 : (S.1 p0 4) ≤ p3
    · rw [if_pos c1] at h
      refine mr_icmp_ge_t (t := 35) dX2_earlyOnes_9 (by decide) c1 ?_
      exact mr_sub [(2, .int p2)] ⟨rfl, trivial⟩ rfl (hK _  h)
    · rw [if_neg c1] at h
      refine mr_icmp_ge_f (t := 35) (pc' := 12) dX2_earlyOnes_9 (by decide) rfl c1 ?_
      refine mr_iload_n (pc' := 13) dX2_earlyOnes_12 rfl rfl ?_
      refine mr_aload_n (pc' := 14) dX2_earlyOnes_13 rfl rfl ?_
      refine mr_aload_n (pc' := 15) dX2_earlyOnes_14 rfl rfl ?_
      refine mr_iload_n (pc' := 16) dX2_earlyOnes_15 rfl rfl ?_
      obtain ⟨q2, g3, h4⟩ := Option.bind_eq_some_iff.mp h
      refine mr_cv (pc' := 19) (a := p0) (d1 := 2) dX2_earlyOnes_16 rfl rfl rfl rfl rfl t0 (by decide) rfl (by decide) (ok_X2_isEarly hR t0 t1 g3) ?_
      show mr X _ _ 19 _ [.int q2, .int p2] (MM RR S) _
      by_cases c5 : q2 = (0 : Int32)
      · rw [if_pos c5] at h4
        refine mr_if_eq_t (t := 26) dX2_earlyOnes_19 (by decide) c5 ?_
        refine mr_iconst (pc' := 27) (v := (0 : Int32)) dX2_earlyOnes_26 rfl (by decide) ?_
        refine mr_iadd (pc' := 28) dX2_earlyOnes_27 rfl ?_
        refine mr_istore_n (pc' := 29) (lv' := [(2, .int (p2 + (0 : Int32))), (0, .ref p0), (1, .ref p1), (3, .int p3)]) dX2_earlyOnes_28 rfl (by decide) rfl ?_
        refine mr_iinc (pc' := 32) (x' := (p3 + (1 : Int32))) (lv' := [(3, .int (p3 + (1 : Int32))), (2, .int (p2 + (0 : Int32))), (0, .ref p0), (1, .ref p1)]) dX2_earlyOnes_29 rfl (by decide) rfl rfl rfl ?_
        refine mr_goto (t := 4) dX2_earlyOnes_32 (by decide) ?_
        exact mr_sub [(0, .ref p0), (1, .ref p1), (2, .int (p2 + (0 : Int32))), (3, .int (p3 + (1 : Int32)))] ⟨rfl, rfl, rfl, rfl, trivial⟩ rfl (ih _ _  h4)
      · rw [if_neg c5] at h4
        refine mr_if_eq_f (t := 26) (pc' := 22) dX2_earlyOnes_19 (by decide) rfl c5 ?_
        refine mr_iconst (pc' := 23) (v := (1 : Int32)) dX2_earlyOnes_22 rfl (by decide) ?_
        refine mr_goto (t := 27) dX2_earlyOnes_23 (by decide) ?_
        refine mr_iadd (pc' := 28) dX2_earlyOnes_27 rfl ?_
        refine mr_istore_n (pc' := 29) (lv' := [(2, .int (p2 + (1 : Int32))), (0, .ref p0), (1, .ref p1), (3, .int p3)]) dX2_earlyOnes_28 rfl (by decide) rfl ?_
        refine mr_iinc (pc' := 32) (x' := (p3 + (1 : Int32))) (lv' := [(3, .int (p3 + (1 : Int32))), (2, .int (p2 + (1 : Int32))), (0, .ref p0), (1, .ref p1)]) dX2_earlyOnes_29 rfl (by decide) rfl rfl rfl ?_
        refine mr_goto (t := 4) dX2_earlyOnes_32 (by decide) ?_
        exact mr_sub [(0, .ref p0), (1, .ref p1), (2, .int (p2 + (1 : Int32))), (3, .int (p3 + (1 : Int32)))] ⟨rfl, rfl, rfl, rfl, trivial⟩ rfl (ih _ _  h4)
def f_X2_earlyOnes (v0 : Nat) (v1 : Nat) (S : fS) : Option (Int32) :=
  lp_X2_earlyOnes_4 v0 v1 S (fun u6 => some u6) FU (0 : Int32) (0 : Int32)
set_option maxHeartbeats 4000000 in
set_option maxRecDepth 100000 in
theorem ok_X2_earlyOnes {X : mm_C} {RR : Nat → Nat → Option Nat} (hR : RRok RR) {v0 : Nat} {v1 : Nat} (t0 : tg v0 = 2) (t1 : tg v1 = 8) {S : fS} {r : Int32} (h : f_X2_earlyOnes v0 v1 S = some r) : mr X 3 mY_X2_earlyOnes 0 (lv_args 0 [.ref v0, .ref v1]) [] (MM RR S) (some (.int r), MM RR S) := by
  unfold f_X2_earlyOnes at h
  show mr X _ _ 0 [(0, .ref v0), (1, .ref v1)] [] (MM RR S) _
  refine mr_iconst (pc' := 1) (v := (0 : Int32)) dX2_earlyOnes_0 rfl (by decide) ?_
  refine mr_istore_n (pc' := 2) (lv' := [(2, .int (0 : Int32)), (0, .ref v0), (1, .ref v1)]) dX2_earlyOnes_1 rfl (by decide) rfl ?_
  refine mr_iconst (pc' := 3) (v := (0 : Int32)) dX2_earlyOnes_2 rfl (by decide) ?_
  refine mr_istore_n (pc' := 4) (lv' := [(3, .int (0 : Int32)), (2, .int (0 : Int32)), (0, .ref v0), (1, .ref v1)]) dX2_earlyOnes_3 rfl (by decide) rfl ?_
  refine mr_sub [(0, .ref v0), (1, .ref v1), (2, .int (0 : Int32)), (3, .int (0 : Int32))] ⟨rfl, rfl, rfl, rfl, trivial⟩ rfl ?_
  refine ok_lp_X2_earlyOnes_4 hR t0 t1 (fun u6 h7 => ?_) FU _ _  h
  refine mr_iload_n (pc' := 36) dX2_earlyOnes_35 rfl rfl ?_
  obtain rfl := Option.some.inj h7
  exact mr_ireturn dX2_earlyOnes_36 rfl
def lp_X0_going_4 (p0 : Nat) (S : fS) (K : Int32 → Option (Int32)) : Nat → Int32 → Int32 → Option (Int32)
  | 0, _, _ => none
  | n + 1, p1, p2 =>
    if (S.1 p0 5) ≤ p2 then (K p1) else
    ((f_X0_isStanding p0 p2 S).bind fun q2 =>
    if q2 = (0 : Int32) then (lp_X0_going_4 p0 S K n (p1 + (1 : Int32)) (p2 + (1 : Int32))) else
    (lp_X0_going_4 p0 S K n (p1 + (0 : Int32)) (p2 + (1 : Int32))))
set_option maxHeartbeats 4000000 in
set_option maxRecDepth 100000 in
theorem ok_lp_X0_going_4 {X : mm_C} {RR : Nat → Nat → Option Nat} (hR : RRok RR) {p0 : Nat} (t0 : tg p0 = 0) {S : fS} {K : Int32 → Option (Int32)} {r : Int32} (hK : ∀ (k1 : Int32), K k1 = some r → mr X 1 mY_X0_going 34 [(1, .int k1)] [] (MM RR S) (some (.int r), MM RR S)) : ∀ (n : Nat) (p1 : Int32) (p2 : Int32), lp_X0_going_4 p0 S K n p1 p2 = some r → mr X 1 mY_X0_going 4 [(0, .ref p0), (1, .int p1), (2, .int p2)] [] (MM RR S) (some (.int r), MM RR S) := by
  intro n
  induction n with
  | zero => intro p1 p2 h; exact mm_no h
  | succ n ih =>
    intro p1 p2 h
    unfold lp_X0_going_4 at h
    refine mr_iload_n (pc' := 5) dX0_going_4 rfl rfl ?_
    refine mr_aload_n (pc' := 6) dX0_going_5 rfl rfl ?_
    refine mr_getI (pc' := 9) (ci := 0) (j := 5) dX0_going_6 rfl rfl t0 (by decide) (by decide) rfl ?_
    by_cases c1 : (S.1 p0 5) ≤ p2
    · rw [if_pos c1] at h
      refine mr_icmp_ge_t (t := 34) dX0_going_9 (by decide) c1 ?_
      exact mr_sub [(1, .int p1)] ⟨rfl, trivial⟩ rfl (hK _  h)
    · rw [if_neg c1] at h
      refine mr_icmp_ge_f (t := 34) (pc' := 12) dX0_going_9 (by decide) rfl c1 ?_
      refine mr_iload_n (pc' := 13) dX0_going_12 rfl rfl ?_
      refine mr_aload_n (pc' := 14) dX0_going_13 rfl rfl ?_
      refine mr_iload_n (pc' := 15) dX0_going_14 rfl rfl ?_
      obtain ⟨q2, g3, h4⟩ := Option.bind_eq_some_iff.mp h
      refine mr_cv (pc' := 18) (a := p0) (d1 := 0) dX0_going_15 rfl rfl rfl rfl rfl t0 (by decide) rfl (by decide) (ok_X0_isStanding hR t0 g3) ?_
      show mr X _ _ 18 _ [.int q2, .int p1] (MM RR S) _
      by_cases c5 : q2 = (0 : Int32)
      · rw [if_pos c5] at h4
        refine mr_if_eq_t (t := 25) dX0_going_18 (by decide) c5 ?_
        refine mr_iconst (pc' := 26) (v := (1 : Int32)) dX0_going_25 rfl (by decide) ?_
        refine mr_iadd (pc' := 27) dX0_going_26 rfl ?_
        refine mr_istore_n (pc' := 28) (lv' := [(1, .int (p1 + (1 : Int32))), (0, .ref p0), (2, .int p2)]) dX0_going_27 rfl (by decide) rfl ?_
        refine mr_iinc (pc' := 31) (x' := (p2 + (1 : Int32))) (lv' := [(2, .int (p2 + (1 : Int32))), (1, .int (p1 + (1 : Int32))), (0, .ref p0)]) dX0_going_28 rfl (by decide) rfl rfl rfl ?_
        refine mr_goto (t := 4) dX0_going_31 (by decide) ?_
        exact mr_sub [(0, .ref p0), (1, .int (p1 + (1 : Int32))), (2, .int (p2 + (1 : Int32)))] ⟨rfl, rfl, rfl, trivial⟩ rfl (ih _ _  h4)
      · rw [if_neg c5] at h4
        refine mr_if_eq_f (t := 25) (pc' := 21) dX0_going_18 (by decide) rfl c5 ?_
        refine mr_iconst (pc' := 22) (v := (0 : Int32)) dX0_going_21 rfl (by decide) ?_
        refine mr_goto (t := 26) dX0_going_22 (by decide) ?_
        refine mr_iadd (pc' := 27) dX0_going_26 rfl ?_
        refine mr_istore_n (pc' := 28) (lv' := [(1, .int (p1 + (0 : Int32))), (0, .ref p0), (2, .int p2)]) dX0_going_27 rfl (by decide) rfl ?_
        refine mr_iinc (pc' := 31) (x' := (p2 + (1 : Int32))) (lv' := [(2, .int (p2 + (1 : Int32))), (1, .int (p1 + (0 : Int32))), (0, .ref p0)]) dX0_going_28 rfl (by decide) rfl rfl rfl ?_
        refine mr_goto (t := 4) dX0_going_31 (by decide) ?_
        exact mr_sub [(0, .ref p0), (1, .int (p1 + (0 : Int32))), (2, .int (p2 + (1 : Int32)))] ⟨rfl, rfl, rfl, trivial⟩ rfl (ih _ _  h4)
def f_X0_going (v0 : Nat) (S : fS) : Option (Int32) :=
  lp_X0_going_4 v0 S (fun u6 => some u6) FU (0 : Int32) (0 : Int32)
set_option maxHeartbeats 4000000 in
set_option maxRecDepth 100000 in
theorem ok_X0_going {X : mm_C} {RR : Nat → Nat → Option Nat} (hR : RRok RR) {v0 : Nat} (t0 : tg v0 = 0) {S : fS} {r : Int32} (h : f_X0_going v0 S = some r) : mr X 1 mY_X0_going 0 (lv_args 0 [.ref v0]) [] (MM RR S) (some (.int r), MM RR S) := by
  unfold f_X0_going at h
  show mr X _ _ 0 [(0, .ref v0)] [] (MM RR S) _
  refine mr_iconst (pc' := 1) (v := (0 : Int32)) dX0_going_0 rfl (by decide) ?_
  refine mr_istore_n (pc' := 2) (lv' := [(1, .int (0 : Int32)), (0, .ref v0)]) dX0_going_1 rfl (by decide) rfl ?_
  refine mr_iconst (pc' := 3) (v := (0 : Int32)) dX0_going_2 rfl (by decide) ?_
  refine mr_istore_n (pc' := 4) (lv' := [(2, .int (0 : Int32)), (1, .int (0 : Int32)), (0, .ref v0)]) dX0_going_3 rfl (by decide) rfl ?_
  refine mr_sub [(0, .ref v0), (1, .int (0 : Int32)), (2, .int (0 : Int32))] ⟨rfl, rfl, rfl, trivial⟩ rfl ?_
  refine ok_lp_X0_going_4 hR t0 (fun u6 h7 => ?_) FU _ _  h
  refine mr_iload_n (pc' := 35) dX0_going_34 rfl rfl ?_
  obtain rfl := Option.some.inj h7
  exact mr_ireturn dX0_going_35 rfl
def f_X10_count (v1 : Int32) (S : fS) : Option (Int32) :=
  if v1 = (0 : Int32) then (some (S.1 4 6)) else
  if v1 = (1 : Int32) then (some (S.1 4 7)) else
  if v1 = (2 : Int32) then (some (S.1 11 5)) else
  if v1 = (3 : Int32) then (some (S.1 0 10)) else
  if v1 = (4 : Int32) then (some (S.1 11 6)) else
  if v1 = (5 : Int32) then (some (S.1 17 4)) else
  if v1 = (6 : Int32) then ((f_X2_earlyOnes 17 4 S).bind fun q8 =>
  some q8) else
  if v1 = (7 : Int32) then ((f_X0_going 11 S).bind fun q12 =>
  some q12) else
  if v1 = (8 : Int32) then (some (S.1 3 3)) else
  if v1 = (9 : Int32) then (some (S.1 1 1)) else
  (some (-1 : Int32))
set_option maxHeartbeats 4000000 in
set_option maxRecDepth 100000 in
theorem ok_X10_count {X : mm_C} {RR : Nat → Nat → Option Nat} (hR : RRok RR) {v1 : Int32}  {S : fS} {r : Int32} (h : f_X10_count v1 S = some r) : mr X 4 mY_X10_count 0 (lv_args 0 [.ref 0, .int v1]) [] (MM RR S) (some (.int r), MM RR S) := by
  unfold f_X10_count at h
  show mr X _ _ 0 [(0, .ref 0), (1, .int v1)] [] (MM RR S) _
  refine mr_iload_n (pc' := 1) dX10_count_0 rfl rfl ?_
  by_cases c1 : v1 = (0 : Int32)
  · rw [if_pos c1] at h
    refine mr_sw_in (t := 56) (v := (0 : Int32)) dX10_count_1 c1 rfl ?_
    refine mr_aload_n (pc' := 57) dX10_count_56 rfl rfl ?_
    refine mr_getR (pc' := 60) (ci := 10) (j := 1) (b := 3) hR dX10_count_57 rfl rfl rfl (by decide) (by decide) (by decide) rfl rfl ?_
    refine mr_getR (pc' := 63) (ci := 6) (j := 0) (b := 4) hR dX10_count_60 rfl rfl rfl (by decide) (by decide) (by decide) rfl rfl ?_
    refine mr_getI (pc' := 66) (ci := 8) (j := 6) dX10_count_63 rfl rfl rfl (by decide) (by decide) rfl ?_
    obtain rfl := Option.some.inj h
    exact mr_ireturn dX10_count_66 rfl
  rw [if_neg c1] at h
  by_cases c2 : v1 = (1 : Int32)
  · rw [if_pos c2] at h
    refine mr_sw_in (t := 67) (v := (1 : Int32)) dX10_count_1 c2 rfl ?_
    refine mr_aload_n (pc' := 68) dX10_count_67 rfl rfl ?_
    refine mr_getR (pc' := 71) (ci := 10) (j := 1) (b := 3) hR dX10_count_68 rfl rfl rfl (by decide) (by decide) (by decide) rfl rfl ?_
    refine mr_getR (pc' := 74) (ci := 6) (j := 0) (b := 4) hR dX10_count_71 rfl rfl rfl (by decide) (by decide) (by decide) rfl rfl ?_
    refine mr_getI (pc' := 77) (ci := 8) (j := 7) dX10_count_74 rfl rfl rfl (by decide) (by decide) rfl ?_
    obtain rfl := Option.some.inj h
    exact mr_ireturn dX10_count_77 rfl
  rw [if_neg c2] at h
  by_cases c3 : v1 = (2 : Int32)
  · rw [if_pos c3] at h
    refine mr_sw_in (t := 78) (v := (2 : Int32)) dX10_count_1 c3 rfl ?_
    refine mr_aload_n (pc' := 79) dX10_count_78 rfl rfl ?_
    refine mr_getR (pc' := 82) (ci := 10) (j := 1) (b := 3) hR dX10_count_79 rfl rfl rfl (by decide) (by decide) (by decide) rfl rfl ?_
    refine mr_getR (pc' := 85) (ci := 6) (j := 1) (b := 11) hR dX10_count_82 rfl rfl rfl (by decide) (by decide) (by decide) rfl rfl ?_
    refine mr_getI (pc' := 88) (ci := 0) (j := 5) dX10_count_85 rfl rfl rfl (by decide) (by decide) rfl ?_
    obtain rfl := Option.some.inj h
    exact mr_ireturn dX10_count_88 rfl
  rw [if_neg c3] at h
  by_cases c4 : v1 = (3 : Int32)
  · rw [if_pos c4] at h
    refine mr_sw_in (t := 89) (v := (3 : Int32)) dX10_count_1 c4 rfl ?_
    refine mr_aload_n (pc' := 90) dX10_count_89 rfl rfl ?_
    refine mr_getI (pc' := 93) (ci := 10) (j := 10) dX10_count_90 rfl rfl rfl (by decide) (by decide) rfl ?_
    obtain rfl := Option.some.inj h
    exact mr_ireturn dX10_count_93 rfl
  rw [if_neg c4] at h
  by_cases c5 : v1 = (4 : Int32)
  · rw [if_pos c5] at h
    refine mr_sw_in (t := 94) (v := (4 : Int32)) dX10_count_1 c5 rfl ?_
    refine mr_aload_n (pc' := 95) dX10_count_94 rfl rfl ?_
    refine mr_getR (pc' := 98) (ci := 10) (j := 1) (b := 3) hR dX10_count_95 rfl rfl rfl (by decide) (by decide) (by decide) rfl rfl ?_
    refine mr_getR (pc' := 101) (ci := 6) (j := 1) (b := 11) hR dX10_count_98 rfl rfl rfl (by decide) (by decide) (by decide) rfl rfl ?_
    refine mr_getI (pc' := 104) (ci := 0) (j := 6) dX10_count_101 rfl rfl rfl (by decide) (by decide) rfl ?_
    obtain rfl := Option.some.inj h
    exact mr_ireturn dX10_count_104 rfl
  rw [if_neg c5] at h
  by_cases c6 : v1 = (5 : Int32)
  · rw [if_pos c6] at h
    refine mr_sw_in (t := 105) (v := (5 : Int32)) dX10_count_1 c6 rfl ?_
    refine mr_aload_n (pc' := 106) dX10_count_105 rfl rfl ?_
    refine mr_getR (pc' := 109) (ci := 10) (j := 1) (b := 3) hR dX10_count_106 rfl rfl rfl (by decide) (by decide) (by decide) rfl rfl ?_
    refine mr_getR (pc' := 112) (ci := 6) (j := 2) (b := 17) hR dX10_count_109 rfl rfl rfl (by decide) (by decide) (by decide) rfl rfl ?_
    refine mr_getI (pc' := 115) (ci := 2) (j := 4) dX10_count_112 rfl rfl rfl (by decide) (by decide) rfl ?_
    obtain rfl := Option.some.inj h
    exact mr_ireturn dX10_count_115 rfl
  rw [if_neg c6] at h
  by_cases c7 : v1 = (6 : Int32)
  · rw [if_pos c7] at h
    refine mr_sw_in (t := 116) (v := (6 : Int32)) dX10_count_1 c7 rfl ?_
    refine mr_aload_n (pc' := 117) dX10_count_116 rfl rfl ?_
    refine mr_getR (pc' := 120) (ci := 10) (j := 1) (b := 3) hR dX10_count_117 rfl rfl rfl (by decide) (by decide) (by decide) rfl rfl ?_
    refine mr_getR (pc' := 123) (ci := 6) (j := 2) (b := 17) hR dX10_count_120 rfl rfl rfl (by decide) (by decide) (by decide) rfl rfl ?_
    refine mr_aload_n (pc' := 124) dX10_count_123 rfl rfl ?_
    refine mr_getR (pc' := 127) (ci := 10) (j := 1) (b := 3) hR dX10_count_124 rfl rfl rfl (by decide) (by decide) (by decide) rfl rfl ?_
    refine mr_getR (pc' := 130) (ci := 6) (j := 0) (b := 4) hR dX10_count_127 rfl rfl rfl (by decide) (by decide) (by decide) rfl rfl ?_
    obtain ⟨q8, g9, h10⟩ := Option.bind_eq_some_iff.mp h
    refine mr_cv (pc' := 133) (a := 17) (d1 := 3) dX10_count_130 rfl rfl rfl rfl rfl rfl (by decide) rfl (by decide) (ok_X2_earlyOnes hR rfl rfl g9) ?_
    show mr X _ _ 133 _ [.int q8] (MM RR S) _
    obtain rfl := Option.some.inj h10
    exact mr_ireturn dX10_count_133 rfl
  rw [if_neg c7] at h
  by_cases c11 : v1 = (7 : Int32)
  · rw [if_pos c11] at h
    refine mr_sw_in (t := 134) (v := (7 : Int32)) dX10_count_1 c11 rfl ?_
    refine mr_aload_n (pc' := 135) dX10_count_134 rfl rfl ?_
    refine mr_getR (pc' := 138) (ci := 10) (j := 1) (b := 3) hR dX10_count_135 rfl rfl rfl (by decide) (by decide) (by decide) rfl rfl ?_
    refine mr_getR (pc' := 141) (ci := 6) (j := 1) (b := 11) hR dX10_count_138 rfl rfl rfl (by decide) (by decide) (by decide) rfl rfl ?_
    obtain ⟨q12, g13, h14⟩ := Option.bind_eq_some_iff.mp h
    refine mr_cv (pc' := 144) (a := 11) (d1 := 1) dX10_count_141 rfl rfl rfl rfl rfl rfl (by decide) rfl (by decide) (ok_X0_going hR rfl g13) ?_
    show mr X _ _ 144 _ [.int q12] (MM RR S) _
    obtain rfl := Option.some.inj h14
    exact mr_ireturn dX10_count_144 rfl
  rw [if_neg c11] at h
  by_cases c15 : v1 = (8 : Int32)
  · rw [if_pos c15] at h
    refine mr_sw_in (t := 145) (v := (8 : Int32)) dX10_count_1 c15 rfl ?_
    refine mr_aload_n (pc' := 146) dX10_count_145 rfl rfl ?_
    refine mr_getR (pc' := 149) (ci := 10) (j := 1) (b := 3) hR dX10_count_146 rfl rfl rfl (by decide) (by decide) (by decide) rfl rfl ?_
    refine mr_getI (pc' := 152) (ci := 6) (j := 3) dX10_count_149 rfl rfl rfl (by decide) (by decide) rfl ?_
    obtain rfl := Option.some.inj h
    exact mr_ireturn dX10_count_152 rfl
  rw [if_neg c15] at h
  by_cases c16 : v1 = (9 : Int32)
  · rw [if_pos c16] at h
    refine mr_sw_in (t := 153) (v := (9 : Int32)) dX10_count_1 c16 rfl ?_
    refine mr_aload_n (pc' := 154) dX10_count_153 rfl rfl ?_
    refine mr_getR (pc' := 157) (ci := 10) (j := 0) (b := 1) hR dX10_count_154 rfl rfl rfl (by decide) (by decide) (by decide) rfl rfl ?_
    refine mr_getI (pc' := 160) (ci := 7) (j := 1) dX10_count_157 rfl rfl rfl (by decide) (by decide) rfl ?_
    obtain rfl := Option.some.inj h
    exact mr_ireturn dX10_count_160 rfl
  rw [if_neg c16] at h
  refine mr_sw_out (t := 161) dX10_count_1 (by have := i32ne c1 (k := 0) (by decide); have := i32ne c2 (k := 1) (by decide); have := i32ne c3 (k := 2) (by decide); have := i32ne c4 (k := 3) (by decide); have := i32ne c5 (k := 4) (by decide); have := i32ne c6 (k := 5) (by decide); have := i32ne c7 (k := 6) (by decide); have := i32ne c11 (k := 7) (by decide); have := i32ne c15 (k := 8) (by decide); have := i32ne c16 (k := 9) (by decide); omega) (by decide) ?_
  refine mr_iconst (pc' := 162) (v := (-1 : Int32)) dX10_count_161 rfl (by decide) ?_
  obtain rfl := Option.some.inj h
  exact mr_ireturn dX10_count_162 rfl
