def f_X3_carriedOf (v0 : Int64) (S : fS) : Option (Int32) :=
  some (Int64.toInt32 (v0 &&& (31 : Int64)))
set_option maxHeartbeats 4000000 in
set_option maxRecDepth 100000 in
theorem ok_X3_carriedOf {X : mm_C} {RR : Nat → Nat → Option Nat} (hR : RRok RR) {v0 : Int64}  {S : fS} {r : Int32} (h : f_X3_carriedOf v0 S = some r) : mr X 0 mY_X3_carriedOf 0 (lv_args 0 [.long v0]) [] (MM RR S) (some (.int r), MM RR S) := by
  unfold f_X3_carriedOf at h
  show mr X _ _ 0 [(0, .long v0)] [] (MM RR S) _
  refine mr_lload_n (pc' := 1) dX3_carriedOf_0 rfl rfl ?_
  refine mr_ldc2 (pc' := 4) (v := (31 : Int64)) dX3_carriedOf_1 rfl rfl ?_
  refine mr_land (pc' := 5) dX3_carriedOf_4 rfl ?_
  refine mr_l2i (pc' := 6) dX3_carriedOf_5 rfl ?_
  obtain rfl := Option.some.inj h
  exact mr_ireturn dX3_carriedOf_6 rfl
def lp_X3_leastCarried_23 (p4 : Int64) (p6 : Int64) (p9 : Int32) (S : fS) (K : Int32 → Option (Int32)) : Nat → Int32 → Int32 → Option (Int32)
  | 0, _, _ => none
  | n + 1, p8, p10 =>
    (gI S 47 171 (p9 + (1 : Int32))).bind fun a4 =>
    if a4 ≤ p10 then (K p8) else
    ((gL S 46 4000 p10).bind fun a8 =>
    (f_X3_ageOf a8 S).bind fun q11 =>
    if q11 < p4 then (if (0 : Int32) = (0 : Int32) then (lp_X3_leastCarried_23 p4 p6 p9 S K n p8 (p10 + (1 : Int32))) else
    (if p8 < (0 : Int32) then ((gL S 46 4000 p10).bind fun a17 =>
    (f_X3_carriedOf a17 S).bind fun q20 =>
    lp_X3_leastCarried_23 p4 p6 p9 S K n q20 (p10 + (1 : Int32))) else
    ((gL S 46 4000 p10).bind fun a23 =>
    (f_X3_carriedOf a23 S).bind fun q26 =>
    if p8 ≤ q26 then (lp_X3_leastCarried_23 p4 p6 p9 S K n p8 (p10 + (1 : Int32))) else
    ((gL S 46 4000 p10).bind fun a30 =>
    (f_X3_carriedOf a30 S).bind fun q33 =>
    lp_X3_leastCarried_23 p4 p6 p9 S K n q33 (p10 + (1 : Int32)))))) else
    ((gL S 46 4000 p10).bind fun a36 =>
    (f_X3_ageOf a36 S).bind fun q39 =>
    if p6 < q39 then (if (0 : Int32) = (0 : Int32) then (lp_X3_leastCarried_23 p4 p6 p9 S K n p8 (p10 + (1 : Int32))) else
    (if p8 < (0 : Int32) then ((gL S 46 4000 p10).bind fun a45 =>
    (f_X3_carriedOf a45 S).bind fun q48 =>
    lp_X3_leastCarried_23 p4 p6 p9 S K n q48 (p10 + (1 : Int32))) else
    ((gL S 46 4000 p10).bind fun a51 =>
    (f_X3_carriedOf a51 S).bind fun q54 =>
    if p8 ≤ q54 then (lp_X3_leastCarried_23 p4 p6 p9 S K n p8 (p10 + (1 : Int32))) else
    ((gL S 46 4000 p10).bind fun a58 =>
    (f_X3_carriedOf a58 S).bind fun q61 =>
    lp_X3_leastCarried_23 p4 p6 p9 S K n q61 (p10 + (1 : Int32)))))) else
    (if (1 : Int32) = (0 : Int32) then (lp_X3_leastCarried_23 p4 p6 p9 S K n p8 (p10 + (1 : Int32))) else
    (if p8 < (0 : Int32) then ((gL S 46 4000 p10).bind fun a66 =>
    (f_X3_carriedOf a66 S).bind fun q69 =>
    lp_X3_leastCarried_23 p4 p6 p9 S K n q69 (p10 + (1 : Int32))) else
    ((gL S 46 4000 p10).bind fun a72 =>
    (f_X3_carriedOf a72 S).bind fun q75 =>
    if p8 ≤ q75 then (lp_X3_leastCarried_23 p4 p6 p9 S K n p8 (p10 + (1 : Int32))) else
    ((gL S 46 4000 p10).bind fun a79 =>
    (f_X3_carriedOf a79 S).bind fun q82 =>
    lp_X3_leastCarried_23 p4 p6 p9 S K n q82 (p10 + (1 : Int32))))))))
set_option maxHeartbeats 4000000 in
set_option maxRecDepth 100000 in
theorem ok_lp_X3_leastCarried_23 {X : mm_C} {RR : Nat → Nat → Option Nat} (hR : RRok RR) {p4 : Int64} {p6 : Int64} {p9 : Int32}  {S : fS} {K : Int32 → Option (Int32)} {r : Int32} (hK : ∀ (k8 : Int32), K k8 = some r → mr X 1 mY_X3_leastCarried 119 [(8, .int k8)] [] (MM RR S) (some (.int r), MM RR S)) : ∀ (n : Nat) (p8 : Int32) (p10 : Int32), lp_X3_leastCarried_23 p4 p6 p9 S K n p8 p10 = some r → mr X 1 mY_X3_leastCarried 23 [(0, .ref 45), (4, .long p4), (6, .long p6), (8, .int p8), (9, .int p9), (10, .int p10)] [] (MM RR S) (some (.int r), MM RR S) := by
  intro n
  induction n with
  | zero => intro p8 p10 h; exact mm_no h
  | succ n ih =>
    intro p8 p10 h
    unfold lp_X3_leastCarried_23 at h
    refine mr_iload (pc' := 25) dX3_leastCarried_23 rfl rfl ?_
    refine mr_aload_n (pc' := 26) dX3_leastCarried_25 rfl rfl ?_
    refine mr_getR (pc' := 29) (ci := 3) (j := 1) (b := 47) hR dX3_leastCarried_26 rfl rfl rfl (by decide) (by decide) (by decide) rfl rfl ?_
    refine mr_iload (pc' := 31) dX3_leastCarried_29 rfl rfl ?_
    refine mr_iconst (pc' := 32) (v := (1 : Int32)) dX3_leastCarried_31 rfl (by decide) ?_
    refine mr_iadd (pc' := 33) dX3_leastCarried_32 rfl ?_
    obtain ⟨a4, g5, h6⟩ := Option.bind_eq_some_iff.mp h
    refine mr_iald (pc' := 34) dX3_leastCarried_33 rfl rfl rfl g5 ?_
    by_cases c7 : a4 ≤ p10
    · rw [if_pos c7] at h6
      refine mr_icmp_ge_t (t := 119) dX3_leastCarried_34 (by decide) c7 ?_
      exact mr_sub [(8, .int p8)] ⟨rfl, trivial⟩ rfl (hK _  h6)
    · rw [if_neg c7] at h6
      refine mr_icmp_ge_f (t := 119) (pc' := 37) dX3_leastCarried_34 (by decide) rfl c7 ?_
      refine mr_aload_n (pc' := 38) dX3_leastCarried_37 rfl rfl ?_
      refine mr_getR (pc' := 41) (ci := 3) (j := 0) (b := 46) hR dX3_leastCarried_38 rfl rfl rfl (by decide) (by decide) (by decide) rfl rfl ?_
      refine mr_iload (pc' := 43) dX3_leastCarried_41 rfl rfl ?_
      obtain ⟨a8, g9, h10⟩ := Option.bind_eq_some_iff.mp h6
      refine mr_lald (pc' := 44) dX3_leastCarried_43 rfl rfl rfl g9 ?_
      obtain ⟨q11, g12, h13⟩ := Option.bind_eq_some_iff.mp h10
      refine mr_cs (pc' := 47) (d1 := 0) dX3_leastCarried_44 rfl rfl rfl rfl (by decide) (Nat.le_of_ble_eq_true rfl) rfl rfl rfl (by decide) (ok_X3_ageOf hR  g12) ?_
      show mr X _ _ 47 _ [.long q11] (MM RR S) _
      refine mr_lload (pc' := 49) dX3_leastCarried_47 rfl rfl ?_
      by_cases c14 : q11 < p4
      · rw [if_pos c14] at h13
        refine mr_lcmp_lt_t (t := 73) dX3_leastCarried_49 rfl dX3_leastCarried_50 (by decide) c14 ?_
        refine mr_iconst (pc' := 74) (v := (0 : Int32)) dX3_leastCarried_73 rfl (by decide) ?_
        refine mr_istore (pc' := 76) (lv' := [(11, .int (0 : Int32)), (0, .ref 45), (4, .long p4), (6, .long p6), (8, .int p8), (9, .int p9), (10, .int p10)]) dX3_leastCarried_74 rfl (by decide) rfl ?_
        refine mr_iload (pc' := 78) dX3_leastCarried_76 rfl rfl ?_
        by_cases c15 : (0 : Int32) = (0 : Int32)
        · rw [if_pos c15] at h13
          refine mr_if_eq_t (t := 113) dX3_leastCarried_78 (by decide) c15 ?_
          refine mr_iinc (pc' := 116) (x' := (p10 + (1 : Int32))) (lv' := [(10, .int (p10 + (1 : Int32))), (11, .int (0 : Int32)), (0, .ref 45), (4, .long p4), (6, .long p6), (8, .int p8), (9, .int p9)]) dX3_leastCarried_113 rfl (by decide) rfl rfl rfl ?_
          refine mr_goto (t := 23) dX3_leastCarried_116 (by decide) ?_
          exact mr_sub [(0, .ref 45), (4, .long p4), (6, .long p6), (8, .int p8), (9, .int p9), (10, .int (p10 + (1 : Int32)))] ⟨rfl, rfl, rfl, rfl, rfl, rfl, trivial⟩ rfl (ih _ _  h13)
        · rw [if_neg c15] at h13
          refine mr_if_eq_f (t := 113) (pc' := 81) dX3_leastCarried_78 (by decide) rfl c15 ?_
          refine mr_iload (pc' := 83) dX3_leastCarried_81 rfl rfl ?_
          by_cases c16 : p8 < (0 : Int32)
          · rw [if_pos c16] at h13
            refine mr_if_lt_t (t := 101) dX3_leastCarried_83 (by decide) c16 ?_
            refine mr_aload_n (pc' := 102) dX3_leastCarried_101 rfl rfl ?_
            refine mr_getR (pc' := 105) (ci := 3) (j := 0) (b := 46) hR dX3_leastCarried_102 rfl rfl rfl (by decide) (by decide) (by decide) rfl rfl ?_
            refine mr_iload (pc' := 107) dX3_leastCarried_105 rfl rfl ?_
            obtain ⟨a17, g18, h19⟩ := Option.bind_eq_some_iff.mp h13
            refine mr_lald (pc' := 108) dX3_leastCarried_107 rfl rfl rfl g18 ?_
            obtain ⟨q20, g21, h22⟩ := Option.bind_eq_some_iff.mp h19
            refine mr_cs (pc' := 111) (d1 := 0) dX3_leastCarried_108 rfl rfl rfl rfl (by decide) (Nat.le_of_ble_eq_true rfl) rfl rfl rfl (by decide) (ok_X3_carriedOf hR  g21) ?_
            show mr X _ _ 111 _ [.int q20] (MM RR S) _
            refine mr_istore (pc' := 113) (lv' := [(8, .int q20), (11, .int (0 : Int32)), (0, .ref 45), (4, .long p4), (6, .long p6), (9, .int p9), (10, .int p10)]) dX3_leastCarried_111 rfl (by decide) rfl ?_
            refine mr_iinc (pc' := 116) (x' := (p10 + (1 : Int32))) (lv' := [(10, .int (p10 + (1 : Int32))), (8, .int q20), (11, .int (0 : Int32)), (0, .ref 45), (4, .long p4), (6, .long p6), (9, .int p9)]) dX3_leastCarried_113 rfl (by decide) rfl rfl rfl ?_
            refine mr_goto (t := 23) dX3_leastCarried_116 (by decide) ?_
            exact mr_sub [(0, .ref 45), (4, .long p4), (6, .long p6), (8, .int q20), (9, .int p9), (10, .int (p10 + (1 : Int32)))] ⟨rfl, rfl, rfl, rfl, rfl, rfl, trivial⟩ rfl (ih _ _  h22)
          · rw [if_neg c16] at h13
            refine mr_if_lt_f (t := 101) (pc' := 86) dX3_leastCarried_83 (by decide) rfl c16 ?_
            refine mr_aload_n (pc' := 87) dX3_leastCarried_86 rfl rfl ?_
            refine mr_getR (pc' := 90) (ci := 3) (j := 0) (b := 46) hR dX3_leastCarried_87 rfl rfl rfl (by decide) (by decide) (by decide) rfl rfl ?_
            refine mr_iload (pc' := 92) dX3_leastCarried_90 rfl rfl ?_
            obtain ⟨a23, g24, h25⟩ := Option.bind_eq_some_iff.mp h13
            refine mr_lald (pc' := 93) dX3_leastCarried_92 rfl rfl rfl g24 ?_
            obtain ⟨q26, g27, h28⟩ := Option.bind_eq_some_iff.mp h25
            refine mr_cs (pc' := 96) (d1 := 0) dX3_leastCarried_93 rfl rfl rfl rfl (by decide) (Nat.le_of_ble_eq_true rfl) rfl rfl rfl (by decide) (ok_X3_carriedOf hR  g27) ?_
            show mr X _ _ 96 _ [.int q26] (MM RR S) _
            refine mr_iload (pc' := 98) dX3_leastCarried_96 rfl rfl ?_
            by_cases c29 : p8 ≤ q26
            · rw [if_pos c29] at h28
              refine mr_icmp_ge_t (t := 113) dX3_leastCarried_98 (by decide) c29 ?_
              refine mr_iinc (pc' := 116) (x' := (p10 + (1 : Int32))) (lv' := [(10, .int (p10 + (1 : Int32))), (11, .int (0 : Int32)), (0, .ref 45), (4, .long p4), (6, .long p6), (8, .int p8), (9, .int p9)]) dX3_leastCarried_113 rfl (by decide) rfl rfl rfl ?_
              refine mr_goto (t := 23) dX3_leastCarried_116 (by decide) ?_
              exact mr_sub [(0, .ref 45), (4, .long p4), (6, .long p6), (8, .int p8), (9, .int p9), (10, .int (p10 + (1 : Int32)))] ⟨rfl, rfl, rfl, rfl, rfl, rfl, trivial⟩ rfl (ih _ _  h28)
            · rw [if_neg c29] at h28
              refine mr_icmp_ge_f (t := 113) (pc' := 101) dX3_leastCarried_98 (by decide) rfl c29 ?_
              refine mr_aload_n (pc' := 102) dX3_leastCarried_101 rfl rfl ?_
              refine mr_getR (pc' := 105) (ci := 3) (j := 0) (b := 46) hR dX3_leastCarried_102 rfl rfl rfl (by decide) (by decide) (by decide) rfl rfl ?_
              refine mr_iload (pc' := 107) dX3_leastCarried_105 rfl rfl ?_
              obtain ⟨a30, g31, h32⟩ := Option.bind_eq_some_iff.mp h28
              refine mr_lald (pc' := 108) dX3_leastCarried_107 rfl rfl rfl g31 ?_
              obtain ⟨q33, g34, h35⟩ := Option.bind_eq_some_iff.mp h32
              refine mr_cs (pc' := 111) (d1 := 0) dX3_leastCarried_108 rfl rfl rfl rfl (by decide) (Nat.le_of_ble_eq_true rfl) rfl rfl rfl (by decide) (ok_X3_carriedOf hR  g34) ?_
              show mr X _ _ 111 _ [.int q33] (MM RR S) _
              refine mr_istore (pc' := 113) (lv' := [(8, .int q33), (11, .int (0 : Int32)), (0, .ref 45), (4, .long p4), (6, .long p6), (9, .int p9), (10, .int p10)]) dX3_leastCarried_111 rfl (by decide) rfl ?_
              refine mr_iinc (pc' := 116) (x' := (p10 + (1 : Int32))) (lv' := [(10, .int (p10 + (1 : Int32))), (8, .int q33), (11, .int (0 : Int32)), (0, .ref 45), (4, .long p4), (6, .long p6), (9, .int p9)]) dX3_leastCarried_113 rfl (by decide) rfl rfl rfl ?_
              refine mr_goto (t := 23) dX3_leastCarried_116 (by decide) ?_
              exact mr_sub [(0, .ref 45), (4, .long p4), (6, .long p6), (8, .int q33), (9, .int p9), (10, .int (p10 + (1 : Int32)))] ⟨rfl, rfl, rfl, rfl, rfl, rfl, trivial⟩ rfl (ih _ _  h35)
      · rw [if_neg c14] at h13
        refine mr_lcmp_lt_f (t := 73) (pc' := 53) dX3_leastCarried_49 rfl dX3_leastCarried_50 (by decide) rfl c14 ?_
        refine mr_aload_n (pc' := 54) dX3_leastCarried_53 rfl rfl ?_
        refine mr_getR (pc' := 57) (ci := 3) (j := 0) (b := 46) hR dX3_leastCarried_54 rfl rfl rfl (by decide) (by decide) (by decide) rfl rfl ?_
        refine mr_iload (pc' := 59) dX3_leastCarried_57 rfl rfl ?_
        obtain ⟨a36, g37, h38⟩ := Option.bind_eq_some_iff.mp h13
        refine mr_lald (pc' := 60) dX3_leastCarried_59 rfl rfl rfl g37 ?_
        obtain ⟨q39, g40, h41⟩ := Option.bind_eq_some_iff.mp h38
        refine mr_cs (pc' := 63) (d1 := 0) dX3_leastCarried_60 rfl rfl rfl rfl (by decide) (Nat.le_of_ble_eq_true rfl) rfl rfl rfl (by decide) (ok_X3_ageOf hR  g40) ?_
        show mr X _ _ 63 _ [.long q39] (MM RR S) _
        refine mr_lload (pc' := 65) dX3_leastCarried_63 rfl rfl ?_
        by_cases c42 : p6 < q39
        · rw [if_pos c42] at h41
          refine mr_lcmp_gt_t (t := 73) dX3_leastCarried_65 rfl dX3_leastCarried_66 (by decide) c42 ?_
          refine mr_iconst (pc' := 74) (v := (0 : Int32)) dX3_leastCarried_73 rfl (by decide) ?_
          refine mr_istore (pc' := 76) (lv' := [(11, .int (0 : Int32)), (0, .ref 45), (4, .long p4), (6, .long p6), (8, .int p8), (9, .int p9), (10, .int p10)]) dX3_leastCarried_74 rfl (by decide) rfl ?_
          refine mr_iload (pc' := 78) dX3_leastCarried_76 rfl rfl ?_
          by_cases c43 : (0 : Int32) = (0 : Int32)
          · rw [if_pos c43] at h41
            refine mr_if_eq_t (t := 113) dX3_leastCarried_78 (by decide) c43 ?_
            refine mr_iinc (pc' := 116) (x' := (p10 + (1 : Int32))) (lv' := [(10, .int (p10 + (1 : Int32))), (11, .int (0 : Int32)), (0, .ref 45), (4, .long p4), (6, .long p6), (8, .int p8), (9, .int p9)]) dX3_leastCarried_113 rfl (by decide) rfl rfl rfl ?_
            refine mr_goto (t := 23) dX3_leastCarried_116 (by decide) ?_
            exact mr_sub [(0, .ref 45), (4, .long p4), (6, .long p6), (8, .int p8), (9, .int p9), (10, .int (p10 + (1 : Int32)))] ⟨rfl, rfl, rfl, rfl, rfl, rfl, trivial⟩ rfl (ih _ _  h41)
          · rw [if_neg c43] at h41
            refine mr_if_eq_f (t := 113) (pc' := 81) dX3_leastCarried_78 (by decide) rfl c43 ?_
            refine mr_iload (pc' := 83) dX3_leastCarried_81 rfl rfl ?_
            by_cases c44 : p8 < (0 : Int32)
            · rw [if_pos c44] at h41
              refine mr_if_lt_t (t := 101) dX3_leastCarried_83 (by decide) c44 ?_
              refine mr_aload_n (pc' := 102) dX3_leastCarried_101 rfl rfl ?_
              refine mr_getR (pc' := 105) (ci := 3) (j := 0) (b := 46) hR dX3_leastCarried_102 rfl rfl rfl (by decide) (by decide) (by decide) rfl rfl ?_
              refine mr_iload (pc' := 107) dX3_leastCarried_105 rfl rfl ?_
              obtain ⟨a45, g46, h47⟩ := Option.bind_eq_some_iff.mp h41
              refine mr_lald (pc' := 108) dX3_leastCarried_107 rfl rfl rfl g46 ?_
              obtain ⟨q48, g49, h50⟩ := Option.bind_eq_some_iff.mp h47
              refine mr_cs (pc' := 111) (d1 := 0) dX3_leastCarried_108 rfl rfl rfl rfl (by decide) (Nat.le_of_ble_eq_true rfl) rfl rfl rfl (by decide) (ok_X3_carriedOf hR  g49) ?_
              show mr X _ _ 111 _ [.int q48] (MM RR S) _
              refine mr_istore (pc' := 113) (lv' := [(8, .int q48), (11, .int (0 : Int32)), (0, .ref 45), (4, .long p4), (6, .long p6), (9, .int p9), (10, .int p10)]) dX3_leastCarried_111 rfl (by decide) rfl ?_
              refine mr_iinc (pc' := 116) (x' := (p10 + (1 : Int32))) (lv' := [(10, .int (p10 + (1 : Int32))), (8, .int q48), (11, .int (0 : Int32)), (0, .ref 45), (4, .long p4), (6, .long p6), (9, .int p9)]) dX3_leastCarried_113 rfl (by decide) rfl rfl rfl ?_
              refine mr_goto (t := 23) dX3_leastCarried_116 (by decide) ?_
              exact mr_sub [(0, .ref 45), (4, .long p4), (6, .long p6), (8, .int q48), (9, .int p9), (10, .int (p10 + (1 : Int32)))] ⟨rfl, rfl, rfl, rfl, rfl, rfl, trivial⟩ rfl (ih _ _  h50)
            · rw [if_neg c44] at h41
              refine mr_if_lt_f (t := 101) (pc' := 86) dX3_leastCarried_83 (by decide) rfl c44 ?_
              refine mr_aload_n (pc' := 87) dX3_leastCarried_86 rfl rfl ?_
              refine mr_getR (pc' := 90) (ci := 3) (j := 0) (b := 46) hR dX3_leastCarried_87 rfl rfl rfl (by decide) (by decide) (by decide) rfl rfl ?_
              refine mr_iload (pc' := 92) dX3_leastCarried_90 rfl rfl ?_
              obtain ⟨a51, g52, h53⟩ := Option.bind_eq_some_iff.mp h41
              refine mr_lald (pc' := 93) dX3_leastCarried_92 rfl rfl rfl g52 ?_
              obtain ⟨q54, g55, h56⟩ := Option.bind_eq_some_iff.mp h53
              refine mr_cs (pc' := 96) (d1 := 0) dX3_leastCarried_93 rfl rfl rfl rfl (by decide) (Nat.le_of_ble_eq_true rfl) rfl rfl rfl (by decide) (ok_X3_carriedOf hR  g55) ?_
              show mr X _ _ 96 _ [.int q54] (MM RR S) _
              refine mr_iload (pc' := 98) dX3_leastCarried_96 rfl rfl ?_
              by_cases c57 : p8 ≤ q54
              · rw [if_pos c57] at h56
                refine mr_icmp_ge_t (t := 113) dX3_leastCarried_98 (by decide) c57 ?_
                refine mr_iinc (pc' := 116) (x' := (p10 + (1 : Int32))) (lv' := [(10, .int (p10 + (1 : Int32))), (11, .int (0 : Int32)), (0, .ref 45), (4, .long p4), (6, .long p6), (8, .int p8), (9, .int p9)]) dX3_leastCarried_113 rfl (by decide) rfl rfl rfl ?_
                refine mr_goto (t := 23) dX3_leastCarried_116 (by decide) ?_
                exact mr_sub [(0, .ref 45), (4, .long p4), (6, .long p6), (8, .int p8), (9, .int p9), (10, .int (p10 + (1 : Int32)))] ⟨rfl, rfl, rfl, rfl, rfl, rfl, trivial⟩ rfl (ih _ _  h56)
              · rw [if_neg c57] at h56
                refine mr_icmp_ge_f (t := 113) (pc' := 101) dX3_leastCarried_98 (by decide) rfl c57 ?_
                refine mr_aload_n (pc' := 102) dX3_leastCarried_101 rfl rfl ?_
                refine mr_getR (pc' := 105) (ci := 3) (j := 0) (b := 46) hR dX3_leastCarried_102 rfl rfl rfl (by decide) (by decide) (by decide) rfl rfl ?_
                refine mr_iload (pc' := 107) dX3_leastCarried_105 rfl rfl ?_
                obtain ⟨a58, g59, h60⟩ := Option.bind_eq_some_iff.mp h56
                refine mr_lald (pc' := 108) dX3_leastCarried_107 rfl rfl rfl g59 ?_
                obtain ⟨q61, g62, h63⟩ := Option.bind_eq_some_iff.mp h60
                refine mr_cs (pc' := 111) (d1 := 0) dX3_leastCarried_108 rfl rfl rfl rfl (by decide) (Nat.le_of_ble_eq_true rfl) rfl rfl rfl (by decide) (ok_X3_carriedOf hR  g62) ?_
                show mr X _ _ 111 _ [.int q61] (MM RR S) _
                refine mr_istore (pc' := 113) (lv' := [(8, .int q61), (11, .int (0 : Int32)), (0, .ref 45), (4, .long p4), (6, .long p6), (9, .int p9), (10, .int p10)]) dX3_leastCarried_111 rfl (by decide) rfl ?_
                refine mr_iinc (pc' := 116) (x' := (p10 + (1 : Int32))) (lv' := [(10, .int (p10 + (1 : Int32))), (8, .int q61), (11, .int (0 : Int32)), (0, .ref 45), (4, .long p4), (6, .long p6), (9, .int p9)]) dX3_leastCarried_113 rfl (by decide) rfl rfl rfl ?_
                refine mr_goto (t := 23) dX3_leastCarried_116 (by decide) ?_
                exact mr_sub [(0, .ref 45), (4, .long p4), (6, .long p6), (8, .int q61), (9, .int p9), (10, .int (p10 + (1 : Int32)))] ⟨rfl, rfl, rfl, rfl, rfl, rfl, trivial⟩ rfl (ih _ _  h63)
        · rw [if_neg c42] at h41
          refine mr_lcmp_gt_f (t := 73) (pc' := 69) dX3_leastCarried_65 rfl dX3_leastCarried_66 (by decide) rfl c42 ?_
          refine mr_iconst (pc' := 70) (v := (1 : Int32)) dX3_leastCarried_69 rfl (by decide) ?_
          refine mr_goto (t := 74) dX3_leastCarried_70 (by decide) ?_
          refine mr_istore (pc' := 76) (lv' := [(11, .int (1 : Int32)), (0, .ref 45), (4, .long p4), (6, .long p6), (8, .int p8), (9, .int p9), (10, .int p10)]) dX3_leastCarried_74 rfl (by decide) rfl ?_
          refine mr_iload (pc' := 78) dX3_leastCarried_76 rfl rfl ?_
          by_cases c64 : (1 : Int32) = (0 : Int32)
          · rw [if_pos c64] at h41
            refine mr_if_eq_t (t := 113) dX3_leastCarried_78 (by decide) c64 ?_
            refine mr_iinc (pc' := 116) (x' := (p10 + (1 : Int32))) (lv' := [(10, .int (p10 + (1 : Int32))), (11, .int (1 : Int32)), (0, .ref 45), (4, .long p4), (6, .long p6), (8, .int p8), (9, .int p9)]) dX3_leastCarried_113 rfl (by decide) rfl rfl rfl ?_
            refine mr_goto (t := 23) dX3_leastCarried_116 (by decide) ?_
            exact mr_sub [(0, .ref 45), (4, .long p4), (6, .long p6), (8, .int p8), (9, .int p9), (10, .int (p10 + (1 : Int32)))] ⟨rfl, rfl, rfl, rfl, rfl, rfl, trivial⟩ rfl (ih _ _  h41)
          · rw [if_neg c64] at h41
            refine mr_if_eq_f (t := 113) (pc' := 81) dX3_leastCarried_78 (by decide) rfl c64 ?_
            refine mr_iload (pc' := 83) dX3_leastCarried_81 rfl rfl ?_
            by_cases c65 : p8 < (0 : Int32)
            · rw [if_pos c65] at h41
              refine mr_if_lt_t (t := 101) dX3_leastCarried_83 (by decide) c65 ?_
              refine mr_aload_n (pc' := 102) dX3_leastCarried_101 rfl rfl ?_
              refine mr_getR (pc' := 105) (ci := 3) (j := 0) (b := 46) hR dX3_leastCarried_102 rfl rfl rfl (by decide) (by decide) (by decide) rfl rfl ?_
              refine mr_iload (pc' := 107) dX3_leastCarried_105 rfl rfl ?_
              obtain ⟨a66, g67, h68⟩ := Option.bind_eq_some_iff.mp h41
              refine mr_lald (pc' := 108) dX3_leastCarried_107 rfl rfl rfl g67 ?_
              obtain ⟨q69, g70, h71⟩ := Option.bind_eq_some_iff.mp h68
              refine mr_cs (pc' := 111) (d1 := 0) dX3_leastCarried_108 rfl rfl rfl rfl (by decide) (Nat.le_of_ble_eq_true rfl) rfl rfl rfl (by decide) (ok_X3_carriedOf hR  g70) ?_
              show mr X _ _ 111 _ [.int q69] (MM RR S) _
              refine mr_istore (pc' := 113) (lv' := [(8, .int q69), (11, .int (1 : Int32)), (0, .ref 45), (4, .long p4), (6, .long p6), (9, .int p9), (10, .int p10)]) dX3_leastCarried_111 rfl (by decide) rfl ?_
              refine mr_iinc (pc' := 116) (x' := (p10 + (1 : Int32))) (lv' := [(10, .int (p10 + (1 : Int32))), (8, .int q69), (11, .int (1 : Int32)), (0, .ref 45), (4, .long p4), (6, .long p6), (9, .int p9)]) dX3_leastCarried_113 rfl (by decide) rfl rfl rfl ?_
              refine mr_goto (t := 23) dX3_leastCarried_116 (by decide) ?_
              exact mr_sub [(0, .ref 45), (4, .long p4), (6, .long p6), (8, .int q69), (9, .int p9), (10, .int (p10 + (1 : Int32)))] ⟨rfl, rfl, rfl, rfl, rfl, rfl, trivial⟩ rfl (ih _ _  h71)
            · rw [if_neg c65] at h41
              refine mr_if_lt_f (t := 101) (pc' := 86) dX3_leastCarried_83 (by decide) rfl c65 ?_
              refine mr_aload_n (pc' := 87) dX3_leastCarried_86 rfl rfl ?_
              refine mr_getR (pc' := 90) (ci := 3) (j := 0) (b := 46) hR dX3_leastCarried_87 rfl rfl rfl (by decide) (by decide) (by decide) rfl rfl ?_
              refine mr_iload (pc' := 92) dX3_leastCarried_90 rfl rfl ?_
              obtain ⟨a72, g73, h74⟩ := Option.bind_eq_some_iff.mp h41
              refine mr_lald (pc' := 93) dX3_leastCarried_92 rfl rfl rfl g73 ?_
              obtain ⟨q75, g76, h77⟩ := Option.bind_eq_some_iff.mp h74
              refine mr_cs (pc' := 96) (d1 := 0) dX3_leastCarried_93 rfl rfl rfl rfl (by decide) (Nat.le_of_ble_eq_true rfl) rfl rfl rfl (by decide) (ok_X3_carriedOf hR  g76) ?_
              show mr X _ _ 96 _ [.int q75] (MM RR S) _
              refine mr_iload (pc' := 98) dX3_leastCarried_96 rfl rfl ?_
              by_cases c78 : p8 ≤ q75
              · rw [if_pos c78] at h77
                refine mr_icmp_ge_t (t := 113) dX3_leastCarried_98 (by decide) c78 ?_
                refine mr_iinc (pc' := 116) (x' := (p10 + (1 : Int32))) (lv' := [(10, .int (p10 + (1 : Int32))), (11, .int (1 : Int32)), (0, .ref 45), (4, .long p4), (6, .long p6), (8, .int p8), (9, .int p9)]) dX3_leastCarried_113 rfl (by decide) rfl rfl rfl ?_
                refine mr_goto (t := 23) dX3_leastCarried_116 (by decide) ?_
                exact mr_sub [(0, .ref 45), (4, .long p4), (6, .long p6), (8, .int p8), (9, .int p9), (10, .int (p10 + (1 : Int32)))] ⟨rfl, rfl, rfl, rfl, rfl, rfl, trivial⟩ rfl (ih _ _  h77)
              · rw [if_neg c78] at h77
                refine mr_icmp_ge_f (t := 113) (pc' := 101) dX3_leastCarried_98 (by decide) rfl c78 ?_
                refine mr_aload_n (pc' := 102) dX3_leastCarried_101 rfl rfl ?_
                refine mr_getR (pc' := 105) (ci := 3) (j := 0) (b := 46) hR dX3_leastCarried_102 rfl rfl rfl (by decide) (by decide) (by decide) rfl rfl ?_
                refine mr_iload (pc' := 107) dX3_leastCarried_105 rfl rfl ?_
                obtain ⟨a79, g80, h81⟩ := Option.bind_eq_some_iff.mp h77
                refine mr_lald (pc' := 108) dX3_leastCarried_107 rfl rfl rfl g80 ?_
                obtain ⟨q82, g83, h84⟩ := Option.bind_eq_some_iff.mp h81
                refine mr_cs (pc' := 111) (d1 := 0) dX3_leastCarried_108 rfl rfl rfl rfl (by decide) (Nat.le_of_ble_eq_true rfl) rfl rfl rfl (by decide) (ok_X3_carriedOf hR  g83) ?_
                show mr X _ _ 111 _ [.int q82] (MM RR S) _
                refine mr_istore (pc' := 113) (lv' := [(8, .int q82), (11, .int (1 : Int32)), (0, .ref 45), (4, .long p4), (6, .long p6), (9, .int p9), (10, .int p10)]) dX3_leastCarried_111 rfl (by decide) rfl ?_
                refine mr_iinc (pc' := 116) (x' := (p10 + (1 : Int32))) (lv' := [(10, .int (p10 + (1 : Int32))), (8, .int q82), (11, .int (1 : Int32)), (0, .ref 45), (4, .long p4), (6, .long p6), (9, .int p9)]) dX3_leastCarried_113 rfl (by decide) rfl rfl rfl ?_
                refine mr_goto (t := 23) dX3_leastCarried_116 (by decide) ?_
                exact mr_sub [(0, .ref 45), (4, .long p4), (6, .long p6), (8, .int q82), (9, .int p9), (10, .int (p10 + (1 : Int32)))] ⟨rfl, rfl, rfl, rfl, rfl, rfl, trivial⟩ rfl (ih _ _  h84)
def f_X3_leastCarried (v1 : Nat) (v2 : Int32) (v3 : Int32) (v4 : Int64) (v6 : Int64) (S : fS) : Option (Int32) :=
  (gI S 47 171 ((v3 * (S.1 v1 6)) + v2)).bind fun a1 =>
  lp_X3_leastCarried_23 v4 v6 ((v3 * (S.1 v1 6)) + v2) S (fun u85 => some u85) FU (-2 : Int32) a1
set_option maxHeartbeats 4000000 in
set_option maxRecDepth 100000 in
theorem ok_X3_leastCarried {X : mm_C} {RR : Nat → Nat → Option Nat} (hR : RRok RR) {v1 : Nat} {v2 : Int32} {v3 : Int32} {v4 : Int64} {v6 : Int64} (t1 : tg v1 = 8) {S : fS} {r : Int32} (h : f_X3_leastCarried v1 v2 v3 v4 v6 S = some r) : mr X 1 mY_X3_leastCarried 0 (lv_args 0 [.ref 45, .ref v1, .int v2, .int v3, .long v4, .long v6]) [] (MM RR S) (some (.int r), MM RR S) := by
  unfold f_X3_leastCarried at h
  show mr X _ _ 0 [(0, .ref 45), (1, .ref v1), (2, .int v2), (3, .int v3), (4, .long v4), (6, .long v6)] [] (MM RR S) _
  refine mr_bipush (pc' := 2) (v := (-2 : Int32)) dX3_leastCarried_0 rfl (by decide) ?_
  refine mr_istore (pc' := 4) (lv' := [(8, .int (-2 : Int32)), (0, .ref 45), (1, .ref v1), (2, .int v2), (3, .int v3), (4, .long v4), (6, .long v6)]) dX3_leastCarried_2 rfl (by decide) rfl ?_
  refine mr_iload_n (pc' := 5) dX3_leastCarried_4 rfl rfl ?_
  refine mr_aload_n (pc' := 6) dX3_leastCarried_5 rfl rfl ?_
  refine mr_getI (pc' := 9) (ci := 8) (j := 6) dX3_leastCarried_6 rfl rfl t1 (by decide) (by decide) rfl ?_
  refine mr_imul (pc' := 10) dX3_leastCarried_9 rfl ?_
  refine mr_iload_n (pc' := 11) dX3_leastCarried_10 rfl rfl ?_
  refine mr_iadd (pc' := 12) dX3_leastCarried_11 rfl ?_
  refine mr_istore (pc' := 14) (lv' := [(9, .int ((v3 * (S.1 v1 6)) + v2)), (8, .int (-2 : Int32)), (0, .ref 45), (1, .ref v1), (2, .int v2), (3, .int v3), (4, .long v4), (6, .long v6)]) dX3_leastCarried_12 rfl (by decide) rfl ?_
  refine mr_aload_n (pc' := 15) dX3_leastCarried_14 rfl rfl ?_
  refine mr_getR (pc' := 18) (ci := 3) (j := 1) (b := 47) hR dX3_leastCarried_15 rfl rfl rfl (by decide) (by decide) (by decide) rfl rfl ?_
  refine mr_iload (pc' := 20) dX3_leastCarried_18 rfl rfl ?_
  obtain ⟨a1, g2, h3⟩ := Option.bind_eq_some_iff.mp h
  refine mr_iald (pc' := 21) dX3_leastCarried_20 rfl rfl rfl g2 ?_
  refine mr_istore (pc' := 23) (lv' := [(10, .int a1), (9, .int ((v3 * (S.1 v1 6)) + v2)), (8, .int (-2 : Int32)), (0, .ref 45), (1, .ref v1), (2, .int v2), (3, .int v3), (4, .long v4), (6, .long v6)]) dX3_leastCarried_21 rfl (by decide) rfl ?_
  refine mr_sub [(0, .ref 45), (4, .long v4), (6, .long v6), (8, .int (-2 : Int32)), (9, .int ((v3 * (S.1 v1 6)) + v2)), (10, .int a1)] ⟨rfl, rfl, rfl, rfl, rfl, rfl, trivial⟩ rfl ?_
  refine ok_lp_X3_leastCarried_23 hR  (fun u85 h86 => ?_) FU _ _  h3
  refine mr_iload (pc' := 121) dX3_leastCarried_119 rfl rfl ?_
  obtain rfl := Option.some.inj h86
  exact mr_ireturn dX3_leastCarried_121 rfl
def f_X10_ripe (v1 : Int32) (v2 : Int32) (v3 : Int32) (v4 : Int32) (v5 : Int32) (S : fS) : Option (Int32 × fS) :=
  (f_X10_isFloor v1 S).bind fun q1 =>
  if q1 = (0 : Int32) then (some ((-1 : Int32), S)) else
  ((f_X10_isFloor v2 S).bind fun q5 =>
  if q5 = (0 : Int32) then (some ((-1 : Int32), S)) else
  ((f_X10_isFrom v3 (0 : Int32) (16 : Int32) S).bind fun q9 =>
  if q9 = (0 : Int32) then (some ((-1 : Int32), S)) else
  ((f_X10_isFrom v4 (0 : Int32) (999 : Int32) S).bind fun q13 =>
  if q13 = (0 : Int32) then (some ((-1 : Int32), S)) else
  ((f_X10_isFrom v5 v4 (999 : Int32) S).bind fun q17 =>
  if q17 = (0 : Int32) then (some ((-1 : Int32), S)) else
  ((f_X3_spread 4 v1 v3 S).bind fun q21 =>
  if q21.1 = (0 : Int32) then (some ((-3 : Int32), q21.2)) else
  ((f_X3_leastCarried 4 v2 v3 ((Int32.toInt64 v4) * (232792560 : Int64)) ((Int32.toInt64 v5) * (232792560 : Int64)) q21.2).bind fun q25 =>
  some (q25, q21.2)))))))
set_option maxHeartbeats 4000000 in
set_option maxRecDepth 100000 in
theorem ok_X10_ripe {X : mm_C} {RR : Nat → Nat → Option Nat} (hR : RRok RR) {v1 : Int32} {v2 : Int32} {v3 : Int32} {v4 : Int32} {v5 : Int32}  {S : fS} {r : Int32 × fS} (h : f_X10_ripe v1 v2 v3 v4 v5 S = some r) : mr X 4 mY_X10_ripe 0 (lv_args 0 [.ref 0, .int v1, .int v2, .int v3, .int v4, .int v5]) [] (MM RR S) (some (.int r.1), MM RR r.2) := by
  unfold f_X10_ripe at h
  show mr X _ _ 0 [(0, .ref 0), (1, .int v1), (2, .int v2), (3, .int v3), (4, .int v4), (5, .int v5)] [] (MM RR S) _
  refine mr_aload_n (pc' := 1) dX10_ripe_0 rfl rfl ?_
  refine mr_iload_n (pc' := 2) dX10_ripe_1 rfl rfl ?_
  obtain ⟨q1, g2, h3⟩ := Option.bind_eq_some_iff.mp h
  refine mr_cv (pc' := 5) (a := 0) (d1 := 1) dX10_ripe_2 rfl rfl rfl rfl rfl rfl (by decide) rfl (by decide) (ok_X10_isFloor hR  g2) ?_
  show mr X _ _ 5 _ [.int q1] (MM RR S) _
  by_cases c4 : q1 = (0 : Int32)
  · rw [if_pos c4] at h3
    refine mr_if_eq_t (t := 26) dX10_ripe_5 (by decide) c4 ?_
    refine mr_iconst (pc' := 27) (v := (-1 : Int32)) dX10_ripe_26 rfl (by decide) ?_
    obtain rfl := Option.some.inj h3
    exact mr_ireturn dX10_ripe_27 rfl
  · rw [if_neg c4] at h3
    refine mr_if_eq_f (t := 26) (pc' := 8) dX10_ripe_5 (by decide) rfl c4 ?_
    refine mr_aload_n (pc' := 9) dX10_ripe_8 rfl rfl ?_
    refine mr_iload_n (pc' := 10) dX10_ripe_9 rfl rfl ?_
    obtain ⟨q5, g6, h7⟩ := Option.bind_eq_some_iff.mp h3
    refine mr_cv (pc' := 13) (a := 0) (d1 := 1) dX10_ripe_10 rfl rfl rfl rfl rfl rfl (by decide) rfl (by decide) (ok_X10_isFloor hR  g6) ?_
    show mr X _ _ 13 _ [.int q5] (MM RR S) _
    by_cases c8 : q5 = (0 : Int32)
    · rw [if_pos c8] at h7
      refine mr_if_eq_t (t := 26) dX10_ripe_13 (by decide) c8 ?_
      refine mr_iconst (pc' := 27) (v := (-1 : Int32)) dX10_ripe_26 rfl (by decide) ?_
      obtain rfl := Option.some.inj h7
      exact mr_ireturn dX10_ripe_27 rfl
    · rw [if_neg c8] at h7
      refine mr_if_eq_f (t := 26) (pc' := 16) dX10_ripe_13 (by decide) rfl c8 ?_
      refine mr_iload_n (pc' := 17) dX10_ripe_16 rfl rfl ?_
      refine mr_iconst (pc' := 18) (v := (0 : Int32)) dX10_ripe_17 rfl (by decide) ?_
      refine mr_bipush (pc' := 20) (v := (16 : Int32)) dX10_ripe_18 rfl (by decide) ?_
      obtain ⟨q9, g10, h11⟩ := Option.bind_eq_some_iff.mp h7
      refine mr_cs (pc' := 23) (d1 := 0) dX10_ripe_20 rfl rfl rfl rfl (by decide) (Nat.le_of_ble_eq_true rfl) rfl rfl rfl (by decide) (ok_X10_isFrom hR  g10) ?_
      show mr X _ _ 23 _ [.int q9] (MM RR S) _
      by_cases c12 : q9 = (0 : Int32)
      · rw [if_pos c12] at h11
        refine mr_if_ne_f (t := 28) (pc' := 26) dX10_ripe_23 (by decide) rfl (not_not_intro c12) ?_
        refine mr_iconst (pc' := 27) (v := (-1 : Int32)) dX10_ripe_26 rfl (by decide) ?_
        obtain rfl := Option.some.inj h11
        exact mr_ireturn dX10_ripe_27 rfl
      · rw [if_neg c12] at h11
        refine mr_if_ne_t (t := 28) dX10_ripe_23 (by decide) c12 ?_
        refine mr_iload (pc' := 30) dX10_ripe_28 rfl rfl ?_
        refine mr_iconst (pc' := 31) (v := (0 : Int32)) dX10_ripe_30 rfl (by decide) ?_
        refine mr_sipush (pc' := 34) (v := (999 : Int32)) dX10_ripe_31 rfl (by decide) ?_
        obtain ⟨q13, g14, h15⟩ := Option.bind_eq_some_iff.mp h11
        refine mr_cs (pc' := 37) (d1 := 0) dX10_ripe_34 rfl rfl rfl rfl (by decide) (Nat.le_of_ble_eq_true rfl) rfl rfl rfl (by decide) (ok_X10_isFrom hR  g14) ?_
        show mr X _ _ 37 _ [.int q13] (MM RR S) _
        by_cases c16 : q13 = (0 : Int32)
        · rw [if_pos c16] at h15
          refine mr_if_eq_t (t := 53) dX10_ripe_37 (by decide) c16 ?_
          refine mr_iconst (pc' := 54) (v := (-1 : Int32)) dX10_ripe_53 rfl (by decide) ?_
          obtain rfl := Option.some.inj h15
          exact mr_ireturn dX10_ripe_54 rfl
        · rw [if_neg c16] at h15
          refine mr_if_eq_f (t := 53) (pc' := 40) dX10_ripe_37 (by decide) rfl c16 ?_
          refine mr_iload (pc' := 42) dX10_ripe_40 rfl rfl ?_
          refine mr_iload (pc' := 44) dX10_ripe_42 rfl rfl ?_
          refine mr_sipush (pc' := 47) (v := (999 : Int32)) dX10_ripe_44 rfl (by decide) ?_
          obtain ⟨q17, g18, h19⟩ := Option.bind_eq_some_iff.mp h15
          refine mr_cs (pc' := 50) (d1 := 0) dX10_ripe_47 rfl rfl rfl rfl (by decide) (Nat.le_of_ble_eq_true rfl) rfl rfl rfl (by decide) (ok_X10_isFrom hR  g18) ?_
          show mr X _ _ 50 _ [.int q17] (MM RR S) _
          by_cases c20 : q17 = (0 : Int32)
          · rw [if_pos c20] at h19
            refine mr_if_ne_f (t := 55) (pc' := 53) dX10_ripe_50 (by decide) rfl (not_not_intro c20) ?_
            refine mr_iconst (pc' := 54) (v := (-1 : Int32)) dX10_ripe_53 rfl (by decide) ?_
            obtain rfl := Option.some.inj h19
            exact mr_ireturn dX10_ripe_54 rfl
          · rw [if_neg c20] at h19
            refine mr_if_ne_t (t := 55) dX10_ripe_50 (by decide) c20 ?_
            refine mr_aload_n (pc' := 56) dX10_ripe_55 rfl rfl ?_
            refine mr_getR (pc' := 59) (ci := 10) (j := 9) (b := 45) hR dX10_ripe_56 rfl rfl rfl (by decide) (by decide) (by decide) rfl rfl ?_
            refine mr_aload_n (pc' := 60) dX10_ripe_59 rfl rfl ?_
            refine mr_getR (pc' := 63) (ci := 10) (j := 1) (b := 3) hR dX10_ripe_60 rfl rfl rfl (by decide) (by decide) (by decide) rfl rfl ?_
            refine mr_getR (pc' := 66) (ci := 6) (j := 0) (b := 4) hR dX10_ripe_63 rfl rfl rfl (by decide) (by decide) (by decide) rfl rfl ?_
            refine mr_iload_n (pc' := 67) dX10_ripe_66 rfl rfl ?_
            refine mr_iload_n (pc' := 68) dX10_ripe_67 rfl rfl ?_
            obtain ⟨q21, g22, h23⟩ := Option.bind_eq_some_iff.mp h19
            refine mr_cv (pc' := 71) (a := 45) (d1 := 3) dX10_ripe_68 rfl rfl rfl rfl rfl rfl (by decide) rfl (by decide) (ok_X3_spread hR rfl g22) ?_
            show mr X _ _ 71 _ [.int q21.1] (MM RR q21.2) _
            by_cases c24 : q21.1 = (0 : Int32)
            · rw [if_pos c24] at h23
              refine mr_if_ne_f (t := 77) (pc' := 74) dX10_ripe_71 (by decide) rfl (not_not_intro c24) ?_
              refine mr_bipush (pc' := 76) (v := (-3 : Int32)) dX10_ripe_74 rfl (by decide) ?_
              obtain rfl := Option.some.inj h23
              exact mr_ireturn dX10_ripe_76 rfl
            · rw [if_neg c24] at h23
              refine mr_if_ne_t (t := 77) dX10_ripe_71 (by decide) c24 ?_
              refine mr_aload_n (pc' := 78) dX10_ripe_77 rfl rfl ?_
              refine mr_getR (pc' := 81) (ci := 10) (j := 9) (b := 45) hR dX10_ripe_78 rfl rfl rfl (by decide) (by decide) (by decide) rfl rfl ?_
              refine mr_aload_n (pc' := 82) dX10_ripe_81 rfl rfl ?_
              refine mr_getR (pc' := 85) (ci := 10) (j := 1) (b := 3) hR dX10_ripe_82 rfl rfl rfl (by decide) (by decide) (by decide) rfl rfl ?_
              refine mr_getR (pc' := 88) (ci := 6) (j := 0) (b := 4) hR dX10_ripe_85 rfl rfl rfl (by decide) (by decide) (by decide) rfl rfl ?_
              refine mr_iload_n (pc' := 89) dX10_ripe_88 rfl rfl ?_
              refine mr_iload_n (pc' := 90) dX10_ripe_89 rfl rfl ?_
              refine mr_iload (pc' := 92) dX10_ripe_90 rfl rfl ?_
              refine mr_i2l (pc' := 93) dX10_ripe_92 rfl ?_
              refine mr_ldc2 (pc' := 96) (v := (232792560 : Int64)) dX10_ripe_93 rfl rfl ?_
              refine mr_lmul (pc' := 97) dX10_ripe_96 rfl ?_
              refine mr_iload (pc' := 99) dX10_ripe_97 rfl rfl ?_
              refine mr_i2l (pc' := 100) dX10_ripe_99 rfl ?_
              refine mr_ldc2 (pc' := 103) (v := (232792560 : Int64)) dX10_ripe_100 rfl rfl ?_
              refine mr_lmul (pc' := 104) dX10_ripe_103 rfl ?_
              obtain ⟨q25, g26, h27⟩ := Option.bind_eq_some_iff.mp h23
              refine mr_cv (pc' := 107) (a := 45) (d1 := 1) dX10_ripe_104 rfl rfl rfl rfl rfl rfl (by decide) rfl (by decide) (ok_X3_leastCarried hR rfl g26) ?_
              show mr X _ _ 107 _ [.int q25] (MM RR q21.2) _
              obtain rfl := Option.some.inj h27
              exact mr_ireturn dX10_ripe_107 rfl
def f_X10_owed (v1 : Int32) (v2 : Int32) (v3 : Int32) (v4 : Int32) (v5 : Int32) (S : fS) : Option (Int64) :=
  (f_X10_isFloor v1 S).bind fun q1 =>
  if q1 = (0 : Int32) then (some (-1 : Int64)) else
  ((f_X10_isFrom v2 (1 : Int32) (9999 : Int32) S).bind fun q5 =>
  if q5 = (0 : Int32) then (some (-1 : Int64)) else
  ((f_X10_isFrom v3 (0 : Int32) (999 : Int32) S).bind fun q9 =>
  if q9 = (0 : Int32) then (some (-1 : Int64)) else
  ((f_X10_isHour v4 S).bind fun q13 =>
  if q13 = (0 : Int32) then (some (-1 : Int64)) else
  ((f_X10_isPart v5 S).bind fun q17 =>
  if q17 = (0 : Int32) then (some (-1 : Int64)) else
  ((gL S 5 10 v1).bind fun a21 =>
  (f_X10_lowest a21 (232792560 : Int64) (0 : Int32) S).bind fun q24 =>
  (gL S 5 10 v1).bind fun a27 =>
  (f_X10_lowest a27 (232792560 : Int64) (1 : Int32) S).bind fun q30 =>
  (f_X10_lowest ((Int32.toInt64 v2) * (((24000 : Int64) * q30) + (((Int32.toInt64 v3) * q24) * (Int32.toInt64 v4)))) ((24000 : Int64) * q30) v5 S).bind fun q33 =>
  some q33)))))
set_option maxHeartbeats 4000000 in
set_option maxRecDepth 100000 in
theorem ok_X10_owed {X : mm_C} {RR : Nat → Nat → Option Nat} (hR : RRok RR) {v1 : Int32} {v2 : Int32} {v3 : Int32} {v4 : Int32} {v5 : Int32}  {S : fS} {r : Int64} (h : f_X10_owed v1 v2 v3 v4 v5 S = some r) : mr X 3 mY_X10_owed 0 (lv_args 0 [.ref 0, .int v1, .int v2, .int v3, .int v4, .int v5]) [] (MM RR S) (some (.long r), MM RR S) := by
  unfold f_X10_owed at h
  show mr X _ _ 0 [(0, .ref 0), (1, .int v1), (2, .int v2), (3, .int v3), (4, .int v4), (5, .int v5)] [] (MM RR S) _
  refine mr_aload_n (pc' := 1) dX10_owed_0 rfl rfl ?_
  refine mr_iload_n (pc' := 2) dX10_owed_1 rfl rfl ?_
  obtain ⟨q1, g2, h3⟩ := Option.bind_eq_some_iff.mp h
  refine mr_cv (pc' := 5) (a := 0) (d1 := 1) dX10_owed_2 rfl rfl rfl rfl rfl rfl (by decide) rfl (by decide) (ok_X10_isFloor hR  g2) ?_
  show mr X _ _ 5 _ [.int q1] (MM RR S) _
  by_cases c4 : q1 = (0 : Int32)
  · rw [if_pos c4] at h3
    refine mr_if_eq_t (t := 30) dX10_owed_5 (by decide) c4 ?_
    refine mr_ldc2 (pc' := 33) (v := (-1 : Int64)) dX10_owed_30 rfl rfl ?_
    obtain rfl := Option.some.inj h3
    exact mr_lreturn dX10_owed_33 rfl
  · rw [if_neg c4] at h3
    refine mr_if_eq_f (t := 30) (pc' := 8) dX10_owed_5 (by decide) rfl c4 ?_
    refine mr_iload_n (pc' := 9) dX10_owed_8 rfl rfl ?_
    refine mr_iconst (pc' := 10) (v := (1 : Int32)) dX10_owed_9 rfl (by decide) ?_
    refine mr_sipush (pc' := 13) (v := (9999 : Int32)) dX10_owed_10 rfl (by decide) ?_
    obtain ⟨q5, g6, h7⟩ := Option.bind_eq_some_iff.mp h3
    refine mr_cs (pc' := 16) (d1 := 0) dX10_owed_13 rfl rfl rfl rfl (by decide) (Nat.le_of_ble_eq_true rfl) rfl rfl rfl (by decide) (ok_X10_isFrom hR  g6) ?_
    show mr X _ _ 16 _ [.int q5] (MM RR S) _
    by_cases c8 : q5 = (0 : Int32)
    · rw [if_pos c8] at h7
      refine mr_if_eq_t (t := 30) dX10_owed_16 (by decide) c8 ?_
      refine mr_ldc2 (pc' := 33) (v := (-1 : Int64)) dX10_owed_30 rfl rfl ?_
      obtain rfl := Option.some.inj h7
      exact mr_lreturn dX10_owed_33 rfl
    · rw [if_neg c8] at h7
      refine mr_if_eq_f (t := 30) (pc' := 19) dX10_owed_16 (by decide) rfl c8 ?_
      refine mr_iload_n (pc' := 20) dX10_owed_19 rfl rfl ?_
      refine mr_iconst (pc' := 21) (v := (0 : Int32)) dX10_owed_20 rfl (by decide) ?_
      refine mr_sipush (pc' := 24) (v := (999 : Int32)) dX10_owed_21 rfl (by decide) ?_
      obtain ⟨q9, g10, h11⟩ := Option.bind_eq_some_iff.mp h7
      refine mr_cs (pc' := 27) (d1 := 0) dX10_owed_24 rfl rfl rfl rfl (by decide) (Nat.le_of_ble_eq_true rfl) rfl rfl rfl (by decide) (ok_X10_isFrom hR  g10) ?_
      show mr X _ _ 27 _ [.int q9] (MM RR S) _
      by_cases c12 : q9 = (0 : Int32)
      · rw [if_pos c12] at h11
        refine mr_if_ne_f (t := 34) (pc' := 30) dX10_owed_27 (by decide) rfl (not_not_intro c12) ?_
        refine mr_ldc2 (pc' := 33) (v := (-1 : Int64)) dX10_owed_30 rfl rfl ?_
        obtain rfl := Option.some.inj h11
        exact mr_lreturn dX10_owed_33 rfl
      · rw [if_neg c12] at h11
        refine mr_if_ne_t (t := 34) dX10_owed_27 (by decide) c12 ?_
        refine mr_iload (pc' := 36) dX10_owed_34 rfl rfl ?_
        obtain ⟨q13, g14, h15⟩ := Option.bind_eq_some_iff.mp h11
        refine mr_cs (pc' := 39) (d1 := 1) dX10_owed_36 rfl rfl rfl rfl (by decide) (Nat.le_of_ble_eq_true rfl) rfl rfl rfl (by decide) (ok_X10_isHour hR  g14) ?_
        show mr X _ _ 39 _ [.int q13] (MM RR S) _
        by_cases c16 : q13 = (0 : Int32)
        · rw [if_pos c16] at h15
          refine mr_if_eq_t (t := 50) dX10_owed_39 (by decide) c16 ?_
          refine mr_ldc2 (pc' := 53) (v := (-1 : Int64)) dX10_owed_50 rfl rfl ?_
          obtain rfl := Option.some.inj h15
          exact mr_lreturn dX10_owed_53 rfl
        · rw [if_neg c16] at h15
          refine mr_if_eq_f (t := 50) (pc' := 42) dX10_owed_39 (by decide) rfl c16 ?_
          refine mr_iload (pc' := 44) dX10_owed_42 rfl rfl ?_
          obtain ⟨q17, g18, h19⟩ := Option.bind_eq_some_iff.mp h15
          refine mr_cs (pc' := 47) (d1 := 1) dX10_owed_44 rfl rfl rfl rfl (by decide) (Nat.le_of_ble_eq_true rfl) rfl rfl rfl (by decide) (ok_X10_isPart hR  g18) ?_
          show mr X _ _ 47 _ [.int q17] (MM RR S) _
          by_cases c20 : q17 = (0 : Int32)
          · rw [if_pos c20] at h19
            refine mr_if_ne_f (t := 54) (pc' := 50) dX10_owed_47 (by decide) rfl (not_not_intro c20) ?_
            refine mr_ldc2 (pc' := 53) (v := (-1 : Int64)) dX10_owed_50 rfl rfl ?_
            obtain rfl := Option.some.inj h19
            exact mr_lreturn dX10_owed_53 rfl
          · rw [if_neg c20] at h19
            refine mr_if_ne_t (t := 54) dX10_owed_47 (by decide) c20 ?_
            refine mr_aload_n (pc' := 55) dX10_owed_54 rfl rfl ?_
            refine mr_getR (pc' := 58) (ci := 10) (j := 1) (b := 3) hR dX10_owed_55 rfl rfl rfl (by decide) (by decide) (by decide) rfl rfl ?_
            refine mr_getR (pc' := 61) (ci := 6) (j := 0) (b := 4) hR dX10_owed_58 rfl rfl rfl (by decide) (by decide) (by decide) rfl rfl ?_
            refine mr_getR (pc' := 64) (ci := 8) (j := 0) (b := 5) hR dX10_owed_61 rfl rfl rfl (by decide) (by decide) (by decide) rfl rfl ?_
            refine mr_iload_n (pc' := 65) dX10_owed_64 rfl rfl ?_
            obtain ⟨a21, g22, h23⟩ := Option.bind_eq_some_iff.mp h19
            refine mr_lald (pc' := 66) dX10_owed_65 rfl rfl rfl g22 ?_
            refine mr_ldc2 (pc' := 69) (v := (232792560 : Int64)) dX10_owed_66 rfl rfl ?_
            refine mr_iconst (pc' := 70) (v := (0 : Int32)) dX10_owed_69 rfl (by decide) ?_
            obtain ⟨q24, g25, h26⟩ := Option.bind_eq_some_iff.mp h23
            refine mr_cs (pc' := 73) (d1 := 2) dX10_owed_70 rfl rfl rfl rfl (by decide) (Nat.le_of_ble_eq_true rfl) rfl rfl rfl (by decide) (ok_X10_lowest hR  g25) ?_
            show mr X _ _ 73 _ [.long q24] (MM RR S) _
            refine mr_lstore (pc' := 75) (lv' := [(6, .long q24), (0, .ref 0), (1, .int v1), (2, .int v2), (3, .int v3), (4, .int v4), (5, .int v5)]) dX10_owed_73 rfl (by decide) rfl ?_
            refine mr_ldc2 (pc' := 78) (v := (24000 : Int64)) dX10_owed_75 rfl rfl ?_
            refine mr_aload_n (pc' := 79) dX10_owed_78 rfl rfl ?_
            refine mr_getR (pc' := 82) (ci := 10) (j := 1) (b := 3) hR dX10_owed_79 rfl rfl rfl (by decide) (by decide) (by decide) rfl rfl ?_
            refine mr_getR (pc' := 85) (ci := 6) (j := 0) (b := 4) hR dX10_owed_82 rfl rfl rfl (by decide) (by decide) (by decide) rfl rfl ?_
            refine mr_getR (pc' := 88) (ci := 8) (j := 0) (b := 5) hR dX10_owed_85 rfl rfl rfl (by decide) (by decide) (by decide) rfl rfl ?_
            refine mr_iload_n (pc' := 89) dX10_owed_88 rfl rfl ?_
            obtain ⟨a27, g28, h29⟩ := Option.bind_eq_some_iff.mp h26
            refine mr_lald (pc' := 90) dX10_owed_89 rfl rfl rfl g28 ?_
            refine mr_ldc2 (pc' := 93) (v := (232792560 : Int64)) dX10_owed_90 rfl rfl ?_
            refine mr_iconst (pc' := 94) (v := (1 : Int32)) dX10_owed_93 rfl (by decide) ?_
            obtain ⟨q30, g31, h32⟩ := Option.bind_eq_some_iff.mp h29
            refine mr_cs (pc' := 97) (d1 := 2) dX10_owed_94 rfl rfl rfl rfl (by decide) (Nat.le_of_ble_eq_true rfl) rfl rfl rfl (by decide) (ok_X10_lowest hR  g31) ?_
            show mr X _ _ 97 _ [.long q30, .long (24000 : Int64)] (MM RR S) _
            refine mr_lmul (pc' := 98) dX10_owed_97 rfl ?_
            refine mr_lstore (pc' := 100) (lv' := [(8, .long ((24000 : Int64) * q30)), (6, .long q24), (0, .ref 0), (1, .int v1), (2, .int v2), (3, .int v3), (4, .int v4), (5, .int v5)]) dX10_owed_98 rfl (by decide) rfl ?_
            refine mr_iload_n (pc' := 101) dX10_owed_100 rfl rfl ?_
            refine mr_i2l (pc' := 102) dX10_owed_101 rfl ?_
            refine mr_lload (pc' := 104) dX10_owed_102 rfl rfl ?_
            refine mr_iload_n (pc' := 105) dX10_owed_104 rfl rfl ?_
            refine mr_i2l (pc' := 106) dX10_owed_105 rfl ?_
            refine mr_lload (pc' := 108) dX10_owed_106 rfl rfl ?_
            refine mr_lmul (pc' := 109) dX10_owed_108 rfl ?_
            refine mr_iload (pc' := 111) dX10_owed_109 rfl rfl ?_
            refine mr_i2l (pc' := 112) dX10_owed_111 rfl ?_
            refine mr_lmul (pc' := 113) dX10_owed_112 rfl ?_
            refine mr_ladd (pc' := 114) dX10_owed_113 rfl ?_
            refine mr_lmul (pc' := 115) dX10_owed_114 rfl ?_
            refine mr_lload (pc' := 117) dX10_owed_115 rfl rfl ?_
            refine mr_iload (pc' := 119) dX10_owed_117 rfl rfl ?_
            obtain ⟨q33, g34, h35⟩ := Option.bind_eq_some_iff.mp h32
            refine mr_cs (pc' := 122) (d1 := 2) dX10_owed_119 rfl rfl rfl rfl (by decide) (Nat.le_of_ble_eq_true rfl) rfl rfl rfl (by decide) (ok_X10_lowest hR  g34) ?_
            show mr X _ _ 122 _ [.long q33] (MM RR S) _
            obtain rfl := Option.some.inj h35
            exact mr_lreturn dX10_owed_122 rfl
def f_X10_upwards (v0 : Int64) (v2 : Int64) (S : fS) : Option (Int64) :=
  if (0 : Int64) < v2 then ((dL ((v0 + v2) - (1 : Int64)) v2).bind fun a2 =>
  some a2) else
  (some (-1 : Int64))
set_option maxHeartbeats 4000000 in
set_option maxRecDepth 100000 in
theorem ok_X10_upwards {X : mm_C} {RR : Nat → Nat → Option Nat} (hR : RRok RR) {v0 : Int64} {v2 : Int64}  {S : fS} {r : Int64} (h : f_X10_upwards v0 v2 S = some r) : mr X 0 mY_X10_upwards 0 (lv_args 0 [.long v0, .long v2]) [] (MM RR S) (some (.long r), MM RR S) := by
  unfold f_X10_upwards at h
  show mr X _ _ 0 [(0, .long v0), (2, .long v2)] [] (MM RR S) _
  refine mr_lload_n (pc' := 1) dX10_upwards_0 rfl rfl ?_
  refine mr_lconst (pc' := 2) (v := (0 : Int64)) dX10_upwards_1 rfl (by decide) ?_
  by_cases c1 : (0 : Int64) < v2
  · rw [if_pos c1] at h
    refine mr_lcmp_gt_t (t := 12) dX10_upwards_2 rfl dX10_upwards_3 (by decide) c1 ?_
    refine mr_lload_n (pc' := 13) dX10_upwards_12 rfl rfl ?_
    refine mr_lload_n (pc' := 14) dX10_upwards_13 rfl rfl ?_
    refine mr_ladd (pc' := 15) dX10_upwards_14 rfl ?_
    refine mr_lconst (pc' := 16) (v := (1 : Int64)) dX10_upwards_15 rfl (by decide) ?_
    refine mr_lsub (pc' := 17) dX10_upwards_16 rfl ?_
    refine mr_lload_n (pc' := 18) dX10_upwards_17 rfl rfl ?_
    obtain ⟨a2, g3, h4⟩ := Option.bind_eq_some_iff.mp h
    refine mr_ldiv (pc' := 19) dX10_upwards_18 rfl g3 ?_
    obtain rfl := Option.some.inj h4
    exact mr_lreturn dX10_upwards_19 rfl
  · rw [if_neg c1] at h
    refine mr_lcmp_gt_f (t := 12) (pc' := 6) dX10_upwards_2 rfl dX10_upwards_3 (by decide) rfl c1 ?_
    refine mr_ldc2 (pc' := 9) (v := (-1 : Int64)) dX10_upwards_6 rfl rfl ?_
    refine mr_goto (t := 19) dX10_upwards_9 (by decide) ?_
    obtain rfl := Option.some.inj h
    exact mr_lreturn dX10_upwards_19 rfl
def f_X10_hands (v1 : Int32) (v2 : Int32) (v3 : Int32) (v4 : Int32) (S : fS) : Option (Int32) :=
  (f_X10_isFloor v1 S).bind fun q1 =>
  if q1 = (0 : Int32) then (some (-1 : Int32)) else
  ((f_X10_isFloor v2 S).bind fun q5 =>
  if q5 = (0 : Int32) then (some (-1 : Int32)) else
  ((f_X10_isFrom v3 (1 : Int32) (9999 : Int32) S).bind fun q9 =>
  if q9 = (0 : Int32) then (some (-1 : Int32)) else
  ((f_X10_isFrom v4 (1 : Int32) (9999 : Int32) S).bind fun q13 =>
  if q13 = (0 : Int32) then (some (-1 : Int32)) else
  ((gL S 5 10 v2).bind fun a17 =>
  (gL S 5 10 v1).bind fun a20 =>
  (f_X10_upwards ((Int32.toInt64 v3) * a17) ((Int32.toInt64 v4) * a20) S).bind fun q23 =>
  some (Int64.toInt32 q23)))))
set_option maxHeartbeats 4000000 in
set_option maxRecDepth 100000 in
theorem ok_X10_hands {X : mm_C} {RR : Nat → Nat → Option Nat} (hR : RRok RR) {v1 : Int32} {v2 : Int32} {v3 : Int32} {v4 : Int32}  {S : fS} {r : Int32} (h : f_X10_hands v1 v2 v3 v4 S = some r) : mr X 2 mY_X10_hands 0 (lv_args 0 [.ref 0, .int v1, .int v2, .int v3, .int v4]) [] (MM RR S) (some (.int r), MM RR S) := by
  unfold f_X10_hands at h
  show mr X _ _ 0 [(0, .ref 0), (1, .int v1), (2, .int v2), (3, .int v3), (4, .int v4)] [] (MM RR S) _
  refine mr_aload_n (pc' := 1) dX10_hands_0 rfl rfl ?_
  refine mr_iload_n (pc' := 2) dX10_hands_1 rfl rfl ?_
  obtain ⟨q1, g2, h3⟩ := Option.bind_eq_some_iff.mp h
  refine mr_cv (pc' := 5) (a := 0) (d1 := 1) dX10_hands_2 rfl rfl rfl rfl rfl rfl (by decide) rfl (by decide) (ok_X10_isFloor hR  g2) ?_
  show mr X _ _ 5 _ [.int q1] (MM RR S) _
  by_cases c4 : q1 = (0 : Int32)
  · rw [if_pos c4] at h3
    refine mr_if_eq_t (t := 39) dX10_hands_5 (by decide) c4 ?_
    refine mr_iconst (pc' := 40) (v := (-1 : Int32)) dX10_hands_39 rfl (by decide) ?_
    obtain rfl := Option.some.inj h3
    exact mr_ireturn dX10_hands_40 rfl
  · rw [if_neg c4] at h3
    refine mr_if_eq_f (t := 39) (pc' := 8) dX10_hands_5 (by decide) rfl c4 ?_
    refine mr_aload_n (pc' := 9) dX10_hands_8 rfl rfl ?_
    refine mr_iload_n (pc' := 10) dX10_hands_9 rfl rfl ?_
    obtain ⟨q5, g6, h7⟩ := Option.bind_eq_some_iff.mp h3
    refine mr_cv (pc' := 13) (a := 0) (d1 := 1) dX10_hands_10 rfl rfl rfl rfl rfl rfl (by decide) rfl (by decide) (ok_X10_isFloor hR  g6) ?_
    show mr X _ _ 13 _ [.int q5] (MM RR S) _
    by_cases c8 : q5 = (0 : Int32)
    · rw [if_pos c8] at h7
      refine mr_if_eq_t (t := 39) dX10_hands_13 (by decide) c8 ?_
      refine mr_iconst (pc' := 40) (v := (-1 : Int32)) dX10_hands_39 rfl (by decide) ?_
      obtain rfl := Option.some.inj h7
      exact mr_ireturn dX10_hands_40 rfl
    · rw [if_neg c8] at h7
      refine mr_if_eq_f (t := 39) (pc' := 16) dX10_hands_13 (by decide) rfl c8 ?_
      refine mr_iload_n (pc' := 17) dX10_hands_16 rfl rfl ?_
      refine mr_iconst (pc' := 18) (v := (1 : Int32)) dX10_hands_17 rfl (by decide) ?_
      refine mr_sipush (pc' := 21) (v := (9999 : Int32)) dX10_hands_18 rfl (by decide) ?_
      obtain ⟨q9, g10, h11⟩ := Option.bind_eq_some_iff.mp h7
      refine mr_cs (pc' := 24) (d1 := 0) dX10_hands_21 rfl rfl rfl rfl (by decide) (Nat.le_of_ble_eq_true rfl) rfl rfl rfl (by decide) (ok_X10_isFrom hR  g10) ?_
      show mr X _ _ 24 _ [.int q9] (MM RR S) _
      by_cases c12 : q9 = (0 : Int32)
      · rw [if_pos c12] at h11
        refine mr_if_eq_t (t := 39) dX10_hands_24 (by decide) c12 ?_
        refine mr_iconst (pc' := 40) (v := (-1 : Int32)) dX10_hands_39 rfl (by decide) ?_
        obtain rfl := Option.some.inj h11
        exact mr_ireturn dX10_hands_40 rfl
      · rw [if_neg c12] at h11
        refine mr_if_eq_f (t := 39) (pc' := 27) dX10_hands_24 (by decide) rfl c12 ?_
        refine mr_iload (pc' := 29) dX10_hands_27 rfl rfl ?_
        refine mr_iconst (pc' := 30) (v := (1 : Int32)) dX10_hands_29 rfl (by decide) ?_
        refine mr_sipush (pc' := 33) (v := (9999 : Int32)) dX10_hands_30 rfl (by decide) ?_
        obtain ⟨q13, g14, h15⟩ := Option.bind_eq_some_iff.mp h11
        refine mr_cs (pc' := 36) (d1 := 0) dX10_hands_33 rfl rfl rfl rfl (by decide) (Nat.le_of_ble_eq_true rfl) rfl rfl rfl (by decide) (ok_X10_isFrom hR  g14) ?_
        show mr X _ _ 36 _ [.int q13] (MM RR S) _
        by_cases c16 : q13 = (0 : Int32)
        · rw [if_pos c16] at h15
          refine mr_if_ne_f (t := 41) (pc' := 39) dX10_hands_36 (by decide) rfl (not_not_intro c16) ?_
          refine mr_iconst (pc' := 40) (v := (-1 : Int32)) dX10_hands_39 rfl (by decide) ?_
          obtain rfl := Option.some.inj h15
          exact mr_ireturn dX10_hands_40 rfl
        · rw [if_neg c16] at h15
          refine mr_if_ne_t (t := 41) dX10_hands_36 (by decide) c16 ?_
          refine mr_iload_n (pc' := 42) dX10_hands_41 rfl rfl ?_
          refine mr_i2l (pc' := 43) dX10_hands_42 rfl ?_
          refine mr_aload_n (pc' := 44) dX10_hands_43 rfl rfl ?_
          refine mr_getR (pc' := 47) (ci := 10) (j := 1) (b := 3) hR dX10_hands_44 rfl rfl rfl (by decide) (by decide) (by decide) rfl rfl ?_
          refine mr_getR (pc' := 50) (ci := 6) (j := 0) (b := 4) hR dX10_hands_47 rfl rfl rfl (by decide) (by decide) (by decide) rfl rfl ?_
          refine mr_getR (pc' := 53) (ci := 8) (j := 0) (b := 5) hR dX10_hands_50 rfl rfl rfl (by decide) (by decide) (by decide) rfl rfl ?_
          refine mr_iload_n (pc' := 54) dX10_hands_53 rfl rfl ?_
          obtain ⟨a17, g18, h19⟩ := Option.bind_eq_some_iff.mp h15
          refine mr_lald (pc' := 55) dX10_hands_54 rfl rfl rfl g18 ?_
          refine mr_lmul (pc' := 56) dX10_hands_55 rfl ?_
          refine mr_iload (pc' := 58) dX10_hands_56 rfl rfl ?_
          refine mr_i2l (pc' := 59) dX10_hands_58 rfl ?_
          refine mr_aload_n (pc' := 60) dX10_hands_59 rfl rfl ?_
          refine mr_getR (pc' := 63) (ci := 10) (j := 1) (b := 3) hR dX10_hands_60 rfl rfl rfl (by decide) (by decide) (by decide) rfl rfl ?_
          refine mr_getR (pc' := 66) (ci := 6) (j := 0) (b := 4) hR dX10_hands_63 rfl rfl rfl (by decide) (by decide) (by decide) rfl rfl ?_
          refine mr_getR (pc' := 69) (ci := 8) (j := 0) (b := 5) hR dX10_hands_66 rfl rfl rfl (by decide) (by decide) (by decide) rfl rfl ?_
          refine mr_iload_n (pc' := 70) dX10_hands_69 rfl rfl ?_
          obtain ⟨a20, g21, h22⟩ := Option.bind_eq_some_iff.mp h19
          refine mr_lald (pc' := 71) dX10_hands_70 rfl rfl rfl g21 ?_
          refine mr_lmul (pc' := 72) dX10_hands_71 rfl ?_
          obtain ⟨q23, g24, h25⟩ := Option.bind_eq_some_iff.mp h22
          refine mr_cs (pc' := 75) (d1 := 0) dX10_hands_72 rfl rfl rfl rfl (by decide) (Nat.le_of_ble_eq_true rfl) rfl rfl rfl (by decide) (ok_X10_upwards hR  g24) ?_
          show mr X _ _ 75 _ [.long q23] (MM RR S) _
          refine mr_l2i (pc' := 76) dX10_hands_75 rfl ?_
          obtain rfl := Option.some.inj h25
          exact mr_ireturn dX10_hands_76 rfl
def lp_X1_bestFloor_6 (p1 : Nat) (p2 : Int32) (p3 : Int32) (S : fS) (K : Int32 → Option (Int32)) : Nat → Int32 → Int32 → Option (Int32)
  | 0, _, _ => none
  | n + 1, p4, p5 =>
    if (S.1 p1 6) ≤ p5 then (K p4) else
    ((f_X1_gainOf p2 p5 S).bind fun q2 =>
    (f_X1_gainOf p2 p4 S).bind fun q5 =>
    (f_X1_isBetter q2 q5 p3 S).bind fun q8 =>
    if q8 = (0 : Int32) then (lp_X1_bestFloor_6 p1 p2 p3 S K n p4 (p5 + (1 : Int32))) else
    (lp_X1_bestFloor_6 p1 p2 p3 S K n p5 (p5 + (1 : Int32))))
set_option maxHeartbeats 4000000 in
set_option maxRecDepth 100000 in
theorem ok_lp_X1_bestFloor_6 {X : mm_C} {RR : Nat → Nat → Option Nat} (hR : RRok RR) {p1 : Nat} {p2 : Int32} {p3 : Int32} (t1 : tg p1 = 8) {S : fS} {K : Int32 → Option (Int32)} {r : Int32} (hK : ∀ (k4 : Int32), K k4 = some r → mr X 1 mY_X1_bestFloor 51 [(4, .int k4)] [] (MM RR S) (some (.int r), MM RR S)) : ∀ (n : Nat) (p4 : Int32) (p5 : Int32), lp_X1_bestFloor_6 p1 p2 p3 S K n p4 p5 = some r → mr X 1 mY_X1_bestFloor 6 [(0, .ref 43), (1, .ref p1), (2, .int p2), (3, .int p3), (4, .int p4), (5, .int p5)] [] (MM RR S) (some (.int r), MM RR S) := by
  intro n
  induction n with
  | zero => intro p4 p5 h; exact mm_no h
  | succ n ih =>
    intro p4 p5 h
    unfold lp_X1_bestFloor_6 at h
    refine mr_iload (pc' := 8) dX1_bestFloor_6 rfl rfl ?_
    refine mr_aload_n (pc' := 9) dX1_bestFloor_8 rfl rfl ?_
    refine mr_getI (pc' := 12) (ci := 8) (j := 6) dX1_bestFloor_9 rfl rfl t1 (by decide) (by decide) rfl ?_
    by_cases c1 : (S.1 p1 6) ≤ p5
    · rw [if_pos c1] at h
      refine mr_icmp_ge_t (t := 51) dX1_bestFloor_12 (by decide) c1 ?_
      exact mr_sub [(4, .int p4)] ⟨rfl, trivial⟩ rfl (hK _  h)
    · rw [if_neg c1] at h
      refine mr_icmp_ge_f (t := 51) (pc' := 15) dX1_bestFloor_12 (by decide) rfl c1 ?_
      refine mr_aload_n (pc' := 16) dX1_bestFloor_15 rfl rfl ?_
      refine mr_iload_n (pc' := 17) dX1_bestFloor_16 rfl rfl ?_
      refine mr_iload (pc' := 19) dX1_bestFloor_17 rfl rfl ?_
      obtain ⟨q2, g3, h4⟩ := Option.bind_eq_some_iff.mp h
      refine mr_cv (pc' := 22) (a := 43) (d1 := 0) dX1_bestFloor_19 rfl rfl rfl rfl rfl rfl (by decide) rfl (by decide) (ok_X1_gainOf hR  g3) ?_
      show mr X _ _ 22 _ [.long q2] (MM RR S) _
      refine mr_aload_n (pc' := 23) dX1_bestFloor_22 rfl rfl ?_
      refine mr_iload_n (pc' := 24) dX1_bestFloor_23 rfl rfl ?_
      refine mr_iload (pc' := 26) dX1_bestFloor_24 rfl rfl ?_
      obtain ⟨q5, g6, h7⟩ := Option.bind_eq_some_iff.mp h4
      refine mr_cv (pc' := 29) (a := 43) (d1 := 0) dX1_bestFloor_26 rfl rfl rfl rfl rfl rfl (by decide) rfl (by decide) (ok_X1_gainOf hR  g6) ?_
      show mr X _ _ 29 _ [.long q5, .long q2] (MM RR S) _
      refine mr_iload_n (pc' := 30) dX1_bestFloor_29 rfl rfl ?_
      obtain ⟨q8, g9, h10⟩ := Option.bind_eq_some_iff.mp h7
      refine mr_cs (pc' := 33) (d1 := 0) dX1_bestFloor_30 rfl rfl rfl rfl (by decide) (Nat.le_of_ble_eq_true rfl) rfl rfl rfl (by decide) (ok_X1_isBetter hR  g9) ?_
      show mr X _ _ 33 _ [.int q8] (MM RR S) _
      by_cases c11 : q8 = (0 : Int32)
      · rw [if_pos c11] at h10
        refine mr_if_eq_t (t := 41) dX1_bestFloor_33 (by decide) c11 ?_
        refine mr_iload (pc' := 43) dX1_bestFloor_41 rfl rfl ?_
        refine mr_istore (pc' := 45) (lv' := [(4, .int p4), (0, .ref 43), (1, .ref p1), (2, .int p2), (3, .int p3), (5, .int p5)]) dX1_bestFloor_43 rfl (by decide) rfl ?_
        refine mr_iinc (pc' := 48) (x' := (p5 + (1 : Int32))) (lv' := [(5, .int (p5 + (1 : Int32))), (4, .int p4), (0, .ref 43), (1, .ref p1), (2, .int p2), (3, .int p3)]) dX1_bestFloor_45 rfl (by decide) rfl rfl rfl ?_
        refine mr_goto (t := 6) dX1_bestFloor_48 (by decide) ?_
        exact mr_sub [(0, .ref 43), (1, .ref p1), (2, .int p2), (3, .int p3), (4, .int p4), (5, .int (p5 + (1 : Int32)))] ⟨rfl, rfl, rfl, rfl, rfl, rfl, trivial⟩ rfl (ih _ _  h10)
      · rw [if_neg c11] at h10
        refine mr_if_eq_f (t := 41) (pc' := 36) dX1_bestFloor_33 (by decide) rfl c11 ?_
        refine mr_iload (pc' := 38) dX1_bestFloor_36 rfl rfl ?_
        refine mr_goto (t := 43) dX1_bestFloor_38 (by decide) ?_
        refine mr_istore (pc' := 45) (lv' := [(4, .int p5), (0, .ref 43), (1, .ref p1), (2, .int p2), (3, .int p3), (5, .int p5)]) dX1_bestFloor_43 rfl (by decide) rfl ?_
        refine mr_iinc (pc' := 48) (x' := (p5 + (1 : Int32))) (lv' := [(5, .int (p5 + (1 : Int32))), (4, .int p5), (0, .ref 43), (1, .ref p1), (2, .int p2), (3, .int p3)]) dX1_bestFloor_45 rfl (by decide) rfl rfl rfl ?_
        refine mr_goto (t := 6) dX1_bestFloor_48 (by decide) ?_
        exact mr_sub [(0, .ref 43), (1, .ref p1), (2, .int p2), (3, .int p3), (4, .int p5), (5, .int (p5 + (1 : Int32)))] ⟨rfl, rfl, rfl, rfl, rfl, rfl, trivial⟩ rfl (ih _ _  h10)
def f_X1_bestFloor (v1 : Nat) (v2 : Int32) (v3 : Int32) (S : fS) : Option (Int32) :=
  lp_X1_bestFloor_6 v1 v2 v3 S (fun u12 => some u12) FU (0 : Int32) (1 : Int32)
set_option maxHeartbeats 4000000 in
set_option maxRecDepth 100000 in
theorem ok_X1_bestFloor {X : mm_C} {RR : Nat → Nat → Option Nat} (hR : RRok RR) {v1 : Nat} {v2 : Int32} {v3 : Int32} (t1 : tg v1 = 8) {S : fS} {r : Int32} (h : f_X1_bestFloor v1 v2 v3 S = some r) : mr X 1 mY_X1_bestFloor 0 (lv_args 0 [.ref 43, .ref v1, .int v2, .int v3]) [] (MM RR S) (some (.int r), MM RR S) := by
  unfold f_X1_bestFloor at h
  show mr X _ _ 0 [(0, .ref 43), (1, .ref v1), (2, .int v2), (3, .int v3)] [] (MM RR S) _
  refine mr_iconst (pc' := 1) (v := (0 : Int32)) dX1_bestFloor_0 rfl (by decide) ?_
  refine mr_istore (pc' := 3) (lv' := [(4, .int (0 : Int32)), (0, .ref 43), (1, .ref v1), (2, .int v2), (3, .int v3)]) dX1_bestFloor_1 rfl (by decide) rfl ?_
  refine mr_iconst (pc' := 4) (v := (1 : Int32)) dX1_bestFloor_3 rfl (by decide) ?_
  refine mr_istore (pc' := 6) (lv' := [(5, .int (1 : Int32)), (4, .int (0 : Int32)), (0, .ref 43), (1, .ref v1), (2, .int v2), (3, .int v3)]) dX1_bestFloor_4 rfl (by decide) rfl ?_
  refine mr_sub [(0, .ref 43), (1, .ref v1), (2, .int v2), (3, .int v3), (4, .int (0 : Int32)), (5, .int (1 : Int32))] ⟨rfl, rfl, rfl, rfl, rfl, rfl, trivial⟩ rfl ?_
  refine ok_lp_X1_bestFloor_6 hR t1 (fun u12 h13 => ?_) FU _ _  h
  refine mr_iload (pc' := 53) dX1_bestFloor_51 rfl rfl ?_
  obtain rfl := Option.some.inj h13
  exact mr_ireturn dX1_bestFloor_53 rfl
