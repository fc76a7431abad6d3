def f_X5_readClause (v1 : Int32) (S : fS) : Option (Int32 × fS) :=
  (f_X7_takeWord 3 S).bind fun q1 =>
  if q1.1 = (0 : Int32) then ((f_X7_fail (q1.2.1 1 2) (0 : Int32) q1.2).bind fun q40 =>
  (bZ q40.1).bind fun z43 => some (z43, q40.2)) else
  (if v1 < (12 : Int32) then ((f_X7_takeNumber (0 : Int32) (9 : Int32) q1.2).bind fun q6 =>
  if (0 : Int32) ≤ q6.1 then ((f_X7_takeWord 4 q6.2).bind fun q10 =>
  if q10.1 = (0 : Int32) then (if q10.1 = (0 : Int32) then ((f_X4_write 40 (0 : Int32) q6.1 q10.2).bind fun q15 =>
  some ((1 : Int32), q15)) else
  ((f_X4_write 40 (1 : Int32) q6.1 q10.2).bind fun q18 =>
  some ((1 : Int32), q18))) else
  ((f_X5_readTest  q10.2).bind fun q21 =>
  if q21.1 = (0 : Int32) then (some ((0 : Int32), q21.2)) else
  (if q10.1 = (0 : Int32) then ((f_X4_write 40 (0 : Int32) q6.1 q21.2).bind fun q26 =>
  some ((1 : Int32), q26)) else
  ((f_X4_write 40 (1 : Int32) q6.1 q21.2).bind fun q29 =>
  some ((1 : Int32), q29))))) else
  (some ((0 : Int32), q6.2))) else
  ((f_X7_fail (q1.2.1 1 3) (4 : Int32) q1.2).bind fun q32 =>
  (bZ q32.1).bind fun z35 => some (z35, q32.2)))
set_option maxHeartbeats 4000000 in
set_option maxRecDepth 100000 in
theorem ok_X5_readClause {X : mm_C} {RR : Nat → Nat → Option Nat} (hR : RRok RR) {v1 : Int32}  {S : fS} {r : Int32 × fS} (h : f_X5_readClause v1 S = some r) : mr X 8 mY_X5_readClause 0 (lv_args 0 [.ref 38, .int v1]) [] (MM RR S) (some (.int r.1), MM RR r.2) := by
  unfold f_X5_readClause at h
  show mr X _ _ 0 [(0, .ref 38), (1, .int v1)] [] (MM RR S) _
  refine mr_aload_n (pc' := 1) dX5_readClause_0 rfl rfl ?_
  refine mr_getR (pc' := 4) (ci := 5) (j := 0) (b := 1) hR dX5_readClause_1 rfl rfl rfl (by decide) (by decide) (by decide) rfl rfl ?_
  refine mr_ldcS (pc' := 6) (i := 3) dX5_readClause_4 rfl rfl rfl ?_
  obtain ⟨q1, g2, h3⟩ := Option.bind_eq_some_iff.mp h
  refine mr_cv (pc' := 9) (a := 1) (d1 := 4) dX5_readClause_6 rfl rfl rfl rfl rfl rfl (by decide) rfl (by decide) (ok_X7_takeWord hR (by decide) g2) ?_
  show mr X _ _ 9 _ [.int q1.1] (MM RR q1.2) _
  by_cases c4 : q1.1 = (0 : Int32)
  · rw [if_pos c4] at h3
    refine mr_if_ne_f (t := 28) (pc' := 12) dX5_readClause_9 (by decide) rfl (not_not_intro c4) ?_
    refine mr_aload_n (pc' := 13) dX5_readClause_12 rfl rfl ?_
    refine mr_getR (pc' := 16) (ci := 5) (j := 0) (b := 1) hR dX5_readClause_13 rfl rfl rfl (by decide) (by decide) (by decide) rfl rfl ?_
    refine mr_aload_n (pc' := 17) dX5_readClause_16 rfl rfl ?_
    refine mr_getR (pc' := 20) (ci := 5) (j := 0) (b := 1) hR dX5_readClause_17 rfl rfl rfl (by decide) (by decide) (by decide) rfl rfl ?_
    refine mr_getI (pc' := 23) (ci := 7) (j := 2) dX5_readClause_20 rfl rfl rfl (by decide) (by decide) rfl ?_
    refine mr_iconst (pc' := 24) (v := (0 : Int32)) dX5_readClause_23 rfl (by decide) ?_
    obtain ⟨q40, g41, h42⟩ := Option.bind_eq_some_iff.mp h3
    refine mr_cv (pc' := 27) (a := 1) (d1 := 0) dX5_readClause_24 rfl rfl rfl rfl rfl rfl (by decide) rfl (by decide) (ok_X7_fail hR  g41) ?_
    show mr X _ _ 27 _ [.int q40.1] (MM RR q40.2) _
    obtain ⟨z43, g44, h45⟩ := Option.bind_eq_some_iff.mp h42
    obtain ⟨g46, e47⟩ := mm_ifs g44
    cases e47
    cases h45
    exact mr_zreturn dX5_readClause_27 rfl g46
  · rw [if_neg c4] at h3
    refine mr_if_ne_t (t := 28) dX5_readClause_9 (by decide) c4 ?_
    refine mr_iload_n (pc' := 29) dX5_readClause_28 rfl rfl ?_
    refine mr_bipush (pc' := 31) (v := (12 : Int32)) dX5_readClause_29 rfl (by decide) ?_
    by_cases c5 : v1 < (12 : Int32)
    · rw [if_pos c5] at h3
      refine mr_icmp_lt_t (t := 50) dX5_readClause_31 (by decide) c5 ?_
      refine mr_aload_n (pc' := 51) dX5_readClause_50 rfl rfl ?_
      refine mr_getR (pc' := 54) (ci := 5) (j := 0) (b := 1) hR dX5_readClause_51 rfl rfl rfl (by decide) (by decide) (by decide) rfl rfl ?_
      refine mr_iconst (pc' := 55) (v := (0 : Int32)) dX5_readClause_54 rfl (by decide) ?_
      refine mr_bipush (pc' := 57) (v := (9 : Int32)) dX5_readClause_55 rfl (by decide) ?_
      obtain ⟨q6, g7, h8⟩ := Option.bind_eq_some_iff.mp h3
      refine mr_cv (pc' := 60) (a := 1) (d1 := 2) dX5_readClause_57 rfl rfl rfl rfl rfl rfl (by decide) rfl (by decide) (ok_X7_takeNumber hR  g7) ?_
      show mr X _ _ 60 _ [.int q6.1] (MM RR q6.2) _
      refine mr_istore_n (pc' := 61) (lv' := [(2, .int q6.1), (0, .ref 38), (1, .int v1)]) dX5_readClause_60 rfl (by decide) rfl ?_
      refine mr_iload_n (pc' := 62) dX5_readClause_61 rfl rfl ?_
      by_cases c9 : (0 : Int32) ≤ q6.1
      · rw [if_pos c9] at h8
        refine mr_if_ge_t (t := 67) dX5_readClause_62 (by decide) c9 ?_
        refine mr_aload_n (pc' := 68) dX5_readClause_67 rfl rfl ?_
        refine mr_getR (pc' := 71) (ci := 5) (j := 0) (b := 1) hR dX5_readClause_68 rfl rfl rfl (by decide) (by decide) (by decide) rfl rfl ?_
        refine mr_ldcS (pc' := 73) (i := 4) dX5_readClause_71 rfl rfl rfl ?_
        obtain ⟨q10, g11, h12⟩ := Option.bind_eq_some_iff.mp h8
        refine mr_cv (pc' := 76) (a := 1) (d1 := 4) dX5_readClause_73 rfl rfl rfl rfl rfl rfl (by decide) rfl (by decide) (ok_X7_takeWord hR (by decide) g11) ?_
        show mr X _ _ 76 _ [.int q10.1] (MM RR q10.2) _
        refine mr_istore_n (pc' := 77) (lv' := [(3, .int q10.1), (2, .int q6.1), (0, .ref 38), (1, .int v1)]) dX5_readClause_76 rfl (by decide) rfl ?_
        refine mr_iload_n (pc' := 78) dX5_readClause_77 rfl rfl ?_
        by_cases c13 : q10.1 = (0 : Int32)
        · rw [if_pos c13] at h12
          refine mr_if_eq_t (t := 90) dX5_readClause_78 (by decide) c13 ?_
          refine mr_aload_n (pc' := 91) dX5_readClause_90 rfl rfl ?_
          refine mr_getR (pc' := 94) (ci := 5) (j := 2) (b := 40) hR dX5_readClause_91 rfl rfl rfl (by decide) (by decide) (by decide) rfl rfl ?_
          refine mr_iload_n (pc' := 95) dX5_readClause_94 rfl rfl ?_
          by_cases c14 : q10.1 = (0 : Int32)
          · rw [if_pos c14] at h12
            refine mr_if_eq_t (t := 102) dX5_readClause_95 (by decide) c14 ?_
            refine mr_iconst (pc' := 103) (v := (0 : Int32)) dX5_readClause_102 rfl (by decide) ?_
            refine mr_iload_n (pc' := 104) dX5_readClause_103 rfl rfl ?_
            obtain ⟨q15, g16, h17⟩ := Option.bind_eq_some_iff.mp h12
            refine mr_cv (pc' := 107) (a := 40) (d1 := 0) dX5_readClause_104 rfl rfl rfl rfl rfl rfl (by decide) rfl (by decide) (ok_X4_write hR rfl g16) ?_
            show mr X _ _ 107 _ [] (MM RR q15) _
            refine mr_iconst (pc' := 108) (v := (1 : Int32)) dX5_readClause_107 rfl (by decide) ?_
            obtain rfl := Option.some.inj h17
            exact mr_zreturn dX5_readClause_108 rfl (by decide)
          · rw [if_neg c14] at h12
            refine mr_if_eq_f (t := 102) (pc' := 98) dX5_readClause_95 (by decide) rfl c14 ?_
            refine mr_iconst (pc' := 99) (v := (1 : Int32)) dX5_readClause_98 rfl (by decide) ?_
            refine mr_goto (t := 103) dX5_readClause_99 (by decide) ?_
            refine mr_iload_n (pc' := 104) dX5_readClause_103 rfl rfl ?_
            obtain ⟨q18, g19, h20⟩ := Option.bind_eq_some_iff.mp h12
            refine mr_cv (pc' := 107) (a := 40) (d1 := 0) dX5_readClause_104 rfl rfl rfl rfl rfl rfl (by decide) rfl (by decide) (ok_X4_write hR rfl g19) ?_
            show mr X _ _ 107 _ [] (MM RR q18) _
            refine mr_iconst (pc' := 108) (v := (1 : Int32)) dX5_readClause_107 rfl (by decide) ?_
            obtain rfl := Option.some.inj h20
            exact mr_zreturn dX5_readClause_108 rfl (by decide)
        · rw [if_neg c13] at h12
          refine mr_if_eq_f (t := 90) (pc' := 81) dX5_readClause_78 (by decide) rfl c13 ?_
          refine mr_aload_n (pc' := 82) dX5_readClause_81 rfl rfl ?_
          obtain ⟨q21, g22, h23⟩ := Option.bind_eq_some_iff.mp h12
          refine mr_cv (pc' := 85) (a := 38) (d1 := 7) dX5_readClause_82 rfl rfl rfl rfl rfl rfl (by decide) rfl (by decide) (ok_X5_readTest hR  g22) ?_
          show mr X _ _ 85 _ [.int q21.1] (MM RR q21.2) _
          by_cases c24 : q21.1 = (0 : Int32)
          · rw [if_pos c24] at h23
            refine mr_if_ne_f (t := 90) (pc' := 88) dX5_readClause_85 (by decide) rfl (not_not_intro c24) ?_
            refine mr_iconst (pc' := 89) (v := (0 : Int32)) dX5_readClause_88 rfl (by decide) ?_
            obtain rfl := Option.some.inj h23
            exact mr_zreturn dX5_readClause_89 rfl (by decide)
          · rw [if_neg c24] at h23
            refine mr_if_ne_t (t := 90) dX5_readClause_85 (by decide) c24 ?_
            refine mr_aload_n (pc' := 91) dX5_readClause_90 rfl rfl ?_
            refine mr_getR (pc' := 94) (ci := 5) (j := 2) (b := 40) hR dX5_readClause_91 rfl rfl rfl (by decide) (by decide) (by decide) rfl rfl ?_
            refine mr_iload_n (pc' := 95) dX5_readClause_94 rfl rfl ?_
            by_cases c25 : q10.1 = (0 : Int32)
            · rw [if_pos c25] at h23
              refine mr_if_eq_t (t := 102) dX5_readClause_95 (by decide) c25 ?_
              refine mr_iconst (pc' := 103) (v := (0 : Int32)) dX5_readClause_102 rfl (by decide) ?_
              refine mr_iload_n (pc' := 104) dX5_readClause_103 rfl rfl ?_
              obtain ⟨q26, g27, h28⟩ := Option.bind_eq_some_iff.mp h23
              refine mr_cv (pc' := 107) (a := 40) (d1 := 0) dX5_readClause_104 rfl rfl rfl rfl rfl rfl (by decide) rfl (by decide) (ok_X4_write hR rfl g27) ?_
              show mr X _ _ 107 _ [] (MM RR q26) _
              refine mr_iconst (pc' := 108) (v := (1 : Int32)) dX5_readClause_107 rfl (by decide) ?_
              obtain rfl := Option.some.inj h28
              exact mr_zreturn dX5_readClause_108 rfl (by decide)
            · rw [if_neg c25] at h23
              refine mr_if_eq_f (t := 102) (pc' := 98) dX5_readClause_95 (by decide) rfl c25 ?_
              refine mr_iconst (pc' := 99) (v := (1 : Int32)) dX5_readClause_98 rfl (by decide) ?_
              refine mr_goto (t := 103) dX5_readClause_99 (by decide) ?_
              refine mr_iload_n (pc' := 104) dX5_readClause_103 rfl rfl ?_
              obtain ⟨q29, g30, h31⟩ := Option.bind_eq_some_iff.mp h23
              refine mr_cv (pc' := 107) (a := 40) (d1 := 0) dX5_readClause_104 rfl rfl rfl rfl rfl rfl (by decide) rfl (by decide) (ok_X4_write hR rfl g30) ?_
              show mr X _ _ 107 _ [] (MM RR q29) _
              refine mr_iconst (pc' := 108) (v := (1 : Int32)) dX5_readClause_107 rfl (by decide) ?_
              obtain rfl := Option.some.inj h31
              exact mr_zreturn dX5_readClause_108 rfl (by decide)
      · rw [if_neg c9] at h8
        refine mr_if_ge_f (t := 67) (pc' := 65) dX5_readClause_62 (by decide) rfl c9 ?_
        refine mr_iconst (pc' := 66) (v := (0 : Int32)) dX5_readClause_65 rfl (by decide) ?_
        obtain rfl := Option.some.inj h8
        exact mr_zreturn dX5_readClause_66 rfl (by decide)
    · rw [if_neg c5] at h3
      refine mr_icmp_lt_f (t := 50) (pc' := 34) dX5_readClause_31 (by decide) rfl c5 ?_
      refine mr_aload_n (pc' := 35) dX5_readClause_34 rfl rfl ?_
      refine mr_getR (pc' := 38) (ci := 5) (j := 0) (b := 1) hR dX5_readClause_35 rfl rfl rfl (by decide) (by decide) (by decide) rfl rfl ?_
      refine mr_aload_n (pc' := 39) dX5_readClause_38 rfl rfl ?_
      refine mr_getR (pc' := 42) (ci := 5) (j := 0) (b := 1) hR dX5_readClause_39 rfl rfl rfl (by decide) (by decide) (by decide) rfl rfl ?_
      refine mr_getI (pc' := 45) (ci := 7) (j := 3) dX5_readClause_42 rfl rfl rfl (by decide) (by decide) rfl ?_
      refine mr_iconst (pc' := 46) (v := (4 : Int32)) dX5_readClause_45 rfl (by decide) ?_
      obtain ⟨q32, g33, h34⟩ := Option.bind_eq_some_iff.mp h3
      refine mr_cv (pc' := 49) (a := 1) (d1 := 0) dX5_readClause_46 rfl rfl rfl rfl rfl rfl (by decide) rfl (by decide) (ok_X7_fail hR  g33) ?_
      show mr X _ _ 49 _ [.int q32.1] (MM RR q32.2) _
      obtain ⟨z35, g36, h37⟩ := Option.bind_eq_some_iff.mp h34
      obtain ⟨g38, e39⟩ := mm_ifs g36
      cases e39
      cases h37
      exact mr_zreturn dX5_readClause_49 rfl g38
def lp_X5_read_22  (K : fS → Option (Int32 × fS)) : Nat → Int32 → fS → Option (Int32 × fS)
  | 0, _, _ => none
  | n + 1, p1, S0 =>
    if (12 : Int32) < p1 then (K S0) else
    ((f_X5_readClause p1 S0).bind fun q11 =>
    if q11.1 = (0 : Int32) then (some ((0 : Int32), q11.2)) else
    ((f_X7_isAtEnd  q11.2).bind fun q15 =>
    if q15.1 = (0 : Int32) then ((f_X7_takeSign (59 : Int32) q15.2).bind fun q19 =>
    if q19.1 = (0 : Int32) then ((f_X7_fail (q19.2.1 1 2) (0 : Int32) q19.2).bind fun q23 =>
    (bZ q23.1).bind fun z26 => some (z26, q23.2)) else
    (lp_X5_read_22  K n (p1 + (1 : Int32)) q19.2)) else
    (some ((1 : Int32), q15.2))))
set_option maxHeartbeats 4000000 in
set_option maxRecDepth 100000 in
theorem ok_lp_X5_read_22 {X : mm_C} {RR : Nat → Nat → Option Nat} (hR : RRok RR)   {K : fS → Option (Int32 × fS)} {r : Int32 × fS} (hK : ∀ (Sk : fS), K Sk = some r → mr X 9 mY_X5_read 84 [] [] (MM RR Sk) (some (.int r.1), MM RR r.2)) : ∀ (n : Nat) (p1 : Int32) (S0 : fS), lp_X5_read_22  K n p1 S0 = some r → mr X 9 mY_X5_read 22 [(0, .ref 38), (1, .int p1)] [] (MM RR S0) (some (.int r.1), MM RR r.2) := by
  intro n
  induction n with
  | zero => intro p1 S0 h; exact mm_no h
  | succ n ih =>
    intro p1 S0 h
    unfold lp_X5_read_22 at h
    refine mr_iload_n (pc' := 23) dX5_read_22 rfl rfl ?_
    refine mr_bipush (pc' := 25) (v := (12 : Int32)) dX5_read_23 rfl (by decide) ?_
    by_cases c10 : (12 : Int32) < p1
    · rw [if_pos c10] at h
      refine mr_icmp_gt_t (t := 84) dX5_read_25 (by decide) c10 ?_
      exact mr_sub [] trivial rfl (hK _  h)
    · rw [if_neg c10] at h
      refine mr_icmp_gt_f (t := 84) (pc' := 28) dX5_read_25 (by decide) rfl c10 ?_
      refine mr_aload_n (pc' := 29) dX5_read_28 rfl rfl ?_
      refine mr_iload_n (pc' := 30) dX5_read_29 rfl rfl ?_
      obtain ⟨q11, g12, h13⟩ := Option.bind_eq_some_iff.mp h
      refine mr_cv (pc' := 33) (a := 38) (d1 := 8) dX5_read_30 rfl rfl rfl rfl rfl rfl (by decide) rfl (by decide) (ok_X5_readClause hR  g12) ?_
      show mr X _ _ 33 _ [.int q11.1] (MM RR q11.2) _
      by_cases c14 : q11.1 = (0 : Int32)
      · rw [if_pos c14] at h13
        refine mr_if_ne_f (t := 38) (pc' := 36) dX5_read_33 (by decide) rfl (not_not_intro c14) ?_
        refine mr_iconst (pc' := 37) (v := (0 : Int32)) dX5_read_36 rfl (by decide) ?_
        obtain rfl := Option.some.inj h13
        exact mr_zreturn dX5_read_37 rfl (by decide)
      · rw [if_neg c14] at h13
        refine mr_if_ne_t (t := 38) dX5_read_33 (by decide) c14 ?_
        refine mr_aload_n (pc' := 39) dX5_read_38 rfl rfl ?_
        refine mr_getR (pc' := 42) (ci := 5) (j := 0) (b := 1) hR dX5_read_39 rfl rfl rfl (by decide) (by decide) (by decide) rfl rfl ?_
        obtain ⟨q15, g16, h17⟩ := Option.bind_eq_some_iff.mp h13
        refine mr_cv (pc' := 45) (a := 1) (d1 := 1) dX5_read_42 rfl rfl rfl rfl rfl rfl (by decide) rfl (by decide) (ok_X7_isAtEnd hR  g16) ?_
        show mr X _ _ 45 _ [.int q15.1] (MM RR q15.2) _
        by_cases c18 : q15.1 = (0 : Int32)
        · rw [if_pos c18] at h17
          refine mr_if_eq_t (t := 50) dX5_read_45 (by decide) c18 ?_
          refine mr_aload_n (pc' := 51) dX5_read_50 rfl rfl ?_
          refine mr_getR (pc' := 54) (ci := 5) (j := 0) (b := 1) hR dX5_read_51 rfl rfl rfl (by decide) (by decide) (by decide) rfl rfl ?_
          refine mr_bipush (pc' := 56) (v := (59 : Int32)) dX5_read_54 rfl (by decide) ?_
          obtain ⟨q19, g20, h21⟩ := Option.bind_eq_some_iff.mp h17
          refine mr_cv (pc' := 59) (a := 1) (d1 := 1) dX5_read_56 rfl rfl rfl rfl rfl rfl (by decide) rfl (by decide) (ok_X7_takeSign hR  g20) ?_
          show mr X _ _ 59 _ [.int q19.1] (MM RR q19.2) _
          by_cases c22 : q19.1 = (0 : Int32)
          · rw [if_pos c22] at h21
            refine mr_if_ne_f (t := 78) (pc' := 62) dX5_read_59 (by decide) rfl (not_not_intro c22) ?_
            refine mr_aload_n (pc' := 63) dX5_read_62 rfl rfl ?_
            refine mr_getR (pc' := 66) (ci := 5) (j := 0) (b := 1) hR dX5_read_63 rfl rfl rfl (by decide) (by decide) (by decide) rfl rfl ?_
            refine mr_aload_n (pc' := 67) dX5_read_66 rfl rfl ?_
            refine mr_getR (pc' := 70) (ci := 5) (j := 0) (b := 1) hR dX5_read_67 rfl rfl rfl (by decide) (by decide) (by decide) rfl rfl ?_
            refine mr_getI (pc' := 73) (ci := 7) (j := 2) dX5_read_70 rfl rfl rfl (by decide) (by decide) rfl ?_
            refine mr_iconst (pc' := 74) (v := (0 : Int32)) dX5_read_73 rfl (by decide) ?_
            obtain ⟨q23, g24, h25⟩ := Option.bind_eq_some_iff.mp h21
            refine mr_cv (pc' := 77) (a := 1) (d1 := 0) dX5_read_74 rfl rfl rfl rfl rfl rfl (by decide) rfl (by decide) (ok_X7_fail hR  g24) ?_
            show mr X _ _ 77 _ [.int q23.1] (MM RR q23.2) _
            obtain ⟨z26, g27, h28⟩ := Option.bind_eq_some_iff.mp h25
            obtain ⟨g29, e30⟩ := mm_ifs g27
            cases e30
            cases h28
            exact mr_zreturn dX5_read_77 rfl g29
          · rw [if_neg c22] at h21
            refine mr_if_ne_t (t := 78) dX5_read_59 (by decide) c22 ?_
            refine mr_iinc (pc' := 81) (x' := (p1 + (1 : Int32))) (lv' := [(1, .int (p1 + (1 : Int32))), (0, .ref 38)]) dX5_read_78 rfl (by decide) rfl rfl rfl ?_
            refine mr_goto (t := 22) dX5_read_81 (by decide) ?_
            exact mr_sub [(0, .ref 38), (1, .int (p1 + (1 : Int32)))] ⟨rfl, rfl, trivial⟩ rfl (ih _ _  h21)
        · rw [if_neg c18] at h17
          refine mr_if_eq_f (t := 50) (pc' := 48) dX5_read_45 (by decide) rfl c18 ?_
          refine mr_iconst (pc' := 49) (v := (1 : Int32)) dX5_read_48 rfl (by decide) ?_
          obtain rfl := Option.some.inj h17
          exact mr_zreturn dX5_read_49 rfl (by decide)
def f_X5_read  (S : fS) : Option (Int32 × fS) :=
  (some (pI S 40 2 (0 : Int32))).bind fun S1 =>
  (some (pI S1 38 3 (0 : Int32))).bind fun S4 =>
  (f_X7_rewind  S4).bind fun q7 =>
  lp_X5_read_22  (fun S31 => some ((0 : Int32), S31)) FU (0 : Int32) q7
set_option maxHeartbeats 4000000 in
set_option maxRecDepth 100000 in
theorem ok_X5_read {X : mm_C} {RR : Nat → Nat → Option Nat} (hR : RRok RR)   {S : fS} {r : Int32 × fS} (h : f_X5_read  S = some r) : mr X 9 mY_X5_read 0 (lv_args 0 [.ref 38]) [] (MM RR S) (some (.int r.1), MM RR r.2) := by
  unfold f_X5_read at h
  show mr X _ _ 0 [(0, .ref 38)] [] (MM RR S) _
  refine mr_aload_n (pc' := 1) dX5_read_0 rfl rfl ?_
  refine mr_getR (pc' := 4) (ci := 5) (j := 2) (b := 40) hR dX5_read_1 rfl rfl rfl (by decide) (by decide) (by decide) rfl rfl ?_
  refine mr_iconst (pc' := 5) (v := (0 : Int32)) dX5_read_4 rfl (by decide) ?_
  obtain ⟨S1, g2, h3⟩ := Option.bind_eq_some_iff.mp h
  refine mr_putI (pc' := 8) (ci := 4) (j := 2) dX5_read_5 rfl rfl rfl (by decide) (by decide) rfl rfl ?_
  rw [Option.some.inj g2]
  refine mr_aload_n (pc' := 9) dX5_read_8 rfl rfl ?_
  refine mr_iconst (pc' := 10) (v := (0 : Int32)) dX5_read_9 rfl (by decide) ?_
  obtain ⟨S4, g5, h6⟩ := Option.bind_eq_some_iff.mp h3
  refine mr_putI (pc' := 13) (ci := 5) (j := 3) dX5_read_10 rfl rfl rfl (by decide) (by decide) rfl rfl ?_
  rw [Option.some.inj g5]
  refine mr_aload_n (pc' := 14) dX5_read_13 rfl rfl ?_
  refine mr_getR (pc' := 17) (ci := 5) (j := 0) (b := 1) hR dX5_read_14 rfl rfl rfl (by decide) (by decide) (by decide) rfl rfl ?_
  obtain ⟨q7, g8, h9⟩ := Option.bind_eq_some_iff.mp h6
  refine mr_cv (pc' := 20) (a := 1) (d1 := 0) dX5_read_17 rfl rfl rfl rfl rfl rfl (by decide) rfl (by decide) (ok_X7_rewind hR  g8) ?_
  show mr X _ _ 20 _ [] (MM RR q7) _
  refine mr_iconst (pc' := 21) (v := (0 : Int32)) dX5_read_20 rfl (by decide) ?_
  refine mr_istore_n (pc' := 22) (lv' := [(1, .int (0 : Int32)), (0, .ref 38)]) dX5_read_21 rfl (by decide) rfl ?_
  refine mr_sub [(0, .ref 38), (1, .int (0 : Int32))] ⟨rfl, rfl, trivial⟩ rfl ?_
  refine ok_lp_X5_read_22 hR  (fun S31 h32 => ?_) FU _ _  h9
  refine mr_iconst (pc' := 85) (v := (0 : Int32)) dX5_read_84 rfl (by decide) ?_
  obtain rfl := Option.some.inj h32
  exact mr_zreturn dX5_read_85 rfl (by decide)
def f_X4_copyFrom (v0 : Nat) (v1 : Nat) (S : fS) : Option (fS) :=
  (some (cI S (v1 + 1) (v0 + 1) 400)).bind fun S1 =>
  (some (pI S1 v0 2 (S1.1 v1 2))).bind fun S4 =>
  some S4
set_option maxHeartbeats 4000000 in
set_option maxRecDepth 100000 in
theorem ok_X4_copyFrom {X : mm_C} {RR : Nat → Nat → Option Nat} (hR : RRok RR) {v0 : Nat} {v1 : Nat} (t0 : tg v0 = 4) (t1 : tg v1 = 4) {S : fS} {r : fS} (h : f_X4_copyFrom v0 v1 S = some r) : mr X 0 mY_X4_copyFrom 0 (lv_args 0 [.ref v0, .ref v1]) [] (MM RR S) (none, MM RR r) := by
  unfold f_X4_copyFrom at h
  show mr X _ _ 0 [(0, .ref v0), (1, .ref v1)] [] (MM RR S) _
  refine mr_aload_n (pc' := 1) dX4_copyFrom_0 rfl rfl ?_
  refine mr_getR (pc' := 4) (ci := 4) (j := 0) (b := (v1 + 1)) hR dX4_copyFrom_1 rfl rfl t1 (by decide) (by decide) (by decide) rfl (ly4_0 t1).1 ?_
  refine mr_iconst (pc' := 5) (v := (0 : Int32)) dX4_copyFrom_4 rfl (by decide) ?_
  refine mr_aload_n (pc' := 6) dX4_copyFrom_5 rfl rfl ?_
  refine mr_getR (pc' := 9) (ci := 4) (j := 0) (b := (v0 + 1)) hR dX4_copyFrom_6 rfl rfl t0 (by decide) (by decide) (by decide) rfl (ly4_0 t0).1 ?_
  refine mr_iconst (pc' := 10) (v := (0 : Int32)) dX4_copyFrom_9 rfl (by decide) ?_
  refine mr_sipush (pc' := 13) (v := (400 : Int32)) dX4_copyFrom_10 rfl (by decide) ?_
  obtain ⟨S1, g2, h3⟩ := Option.bind_eq_some_iff.mp h
  refine mr_cpyI (pc' := 16) (n := 400) dX4_copyFrom_13 rfl rfl (by decide) ⟨(ly4_0 t1).2.1, Nat.le_of_eq (ly4_0 t1).2.2.symm⟩ ⟨(ly4_0 t0).2.1, Nat.le_of_eq (ly4_0 t0).2.2.symm⟩ (by decide) (by decide) ?_
  rw [Option.some.inj g2]
  refine mr_aload_n (pc' := 17) dX4_copyFrom_16 rfl rfl ?_
  refine mr_aload_n (pc' := 18) dX4_copyFrom_17 rfl rfl ?_
  refine mr_getI (pc' := 21) (ci := 4) (j := 2) dX4_copyFrom_18 rfl rfl t1 (by decide) (by decide) rfl ?_
  obtain ⟨S4, g5, h6⟩ := Option.bind_eq_some_iff.mp h3
  refine mr_putI (pc' := 24) (ci := 4) (j := 2) dX4_copyFrom_21 rfl rfl t0 (by decide) (by decide) rfl rfl ?_
  rw [Option.some.inj g5]
  obtain rfl := Option.some.inj h6
  exact mr_return dX4_copyFrom_24 rfl
def f_X10_rule  (S : fS) : Option (Int32 × fS) :=
  if (S.1 0 10) < (6 : Int32) then ((f_X5_read  S).bind fun q2 =>
  (some (pI q2.2 1 1 (0 : Int32))).bind fun S5 =>
  if q2.1 = (0 : Int32) then (some (((-2 : Int32) - (S5.1 1 4)), S5)) else
  ((gA23 (S5.1 0 10)).bind fun a9 =>
  (f_X4_copyFrom a9 40 S5).bind fun q12 =>
  (some (pI q12 0 10 ((q12.1 0 10) + (1 : Int32)))).bind fun S15 =>
  some (((S15.1 0 10) - (1 : Int32)), S15))) else
  (some ((-1 : Int32), S))
set_option maxHeartbeats 4000000 in
set_option maxRecDepth 100000 in
theorem ok_X10_rule {X : mm_C} {RR : Nat → Nat → Option Nat} (hR : RRok RR)   {S : fS} {r : Int32 × fS} (h : f_X10_rule  S = some r) : mr X 10 mY_X10_rule 0 (lv_args 0 [.ref 0]) [] (MM RR S) (some (.int r.1), MM RR r.2) := by
  unfold f_X10_rule at h
  show mr X _ _ 0 [(0, .ref 0)] [] (MM RR S) _
  refine mr_aload_n (pc' := 1) dX10_rule_0 rfl rfl ?_
  refine mr_getI (pc' := 4) (ci := 10) (j := 10) dX10_rule_1 rfl rfl rfl (by decide) (by decide) rfl ?_
  refine mr_bipush (pc' := 6) (v := (6 : Int32)) dX10_rule_4 rfl (by decide) ?_
  by_cases c1 : (S.1 0 10) < (6 : Int32)
  · rw [if_pos c1] at h
    refine mr_icmp_lt_t (t := 11) dX10_rule_6 (by decide) c1 ?_
    refine mr_aload_n (pc' := 12) dX10_rule_11 rfl rfl ?_
    refine mr_getR (pc' := 15) (ci := 10) (j := 7) (b := 38) hR dX10_rule_12 rfl rfl rfl (by decide) (by decide) (by decide) rfl rfl ?_
    obtain ⟨q2, g3, h4⟩ := Option.bind_eq_some_iff.mp h
    refine mr_cv (pc' := 18) (a := 38) (d1 := 9) dX10_rule_15 rfl rfl rfl rfl rfl rfl (by decide) rfl (by decide) (ok_X5_read hR  g3) ?_
    show mr X _ _ 18 _ [.int q2.1] (MM RR q2.2) _
    refine mr_istore_n (pc' := 19) (lv' := [(1, .int q2.1), (0, .ref 0)]) dX10_rule_18 rfl (by decide) rfl ?_
    refine mr_aload_n (pc' := 20) dX10_rule_19 rfl rfl ?_
    refine mr_getR (pc' := 23) (ci := 10) (j := 0) (b := 1) hR dX10_rule_20 rfl rfl rfl (by decide) (by decide) (by decide) rfl rfl ?_
    refine mr_iconst (pc' := 24) (v := (0 : Int32)) dX10_rule_23 rfl (by decide) ?_
    obtain ⟨S5, g6, h7⟩ := Option.bind_eq_some_iff.mp h4
    refine mr_putI (pc' := 27) (ci := 7) (j := 1) dX10_rule_24 rfl rfl rfl (by decide) (by decide) rfl rfl ?_
    rw [Option.some.inj g6]
    refine mr_iload_n (pc' := 28) dX10_rule_27 rfl rfl ?_
    by_cases c8 : q2.1 = (0 : Int32)
    · rw [if_pos c8] at h7
      refine mr_if_ne_f (t := 42) (pc' := 31) dX10_rule_28 (by decide) rfl (not_not_intro c8) ?_
      refine mr_bipush (pc' := 33) (v := (-2 : Int32)) dX10_rule_31 rfl (by decide) ?_
      refine mr_aload_n (pc' := 34) dX10_rule_33 rfl rfl ?_
      refine mr_getR (pc' := 37) (ci := 10) (j := 0) (b := 1) hR dX10_rule_34 rfl rfl rfl (by decide) (by decide) (by decide) rfl rfl ?_
      refine mr_getI (pc' := 40) (ci := 7) (j := 4) dX10_rule_37 rfl rfl rfl (by decide) (by decide) rfl ?_
      refine mr_isub (pc' := 41) dX10_rule_40 rfl ?_
      obtain rfl := Option.some.inj h7
      exact mr_ireturn dX10_rule_41 rfl
    · rw [if_neg c8] at h7
      refine mr_if_ne_t (t := 42) dX10_rule_28 (by decide) c8 ?_
      refine mr_aload_n (pc' := 43) dX10_rule_42 rfl rfl ?_
      refine mr_getR (pc' := 46) (ci := 10) (j := 3) (b := 23) hR dX10_rule_43 rfl rfl rfl (by decide) (by decide) (by decide) rfl rfl ?_
      refine mr_aload_n (pc' := 47) dX10_rule_46 rfl rfl ?_
      refine mr_getI (pc' := 50) (ci := 10) (j := 10) dX10_rule_47 rfl rfl rfl (by decide) (by decide) rfl ?_
      obtain ⟨a9, g10, h11⟩ := Option.bind_eq_some_iff.mp h7
      refine mr_aald23 (pc' := 51) hR dX10_rule_50 rfl g10 ?_
      refine mr_aload_n (pc' := 52) dX10_rule_51 rfl rfl ?_
      refine mr_getR (pc' := 55) (ci := 10) (j := 7) (b := 38) hR dX10_rule_52 rfl rfl rfl (by decide) (by decide) (by decide) rfl rfl ?_
      refine mr_getR (pc' := 58) (ci := 5) (j := 2) (b := 40) hR dX10_rule_55 rfl rfl rfl (by decide) (by decide) (by decide) rfl rfl ?_
      obtain ⟨q12, g13, h14⟩ := Option.bind_eq_some_iff.mp h11
      refine mr_cv (pc' := 61) (a := a9) (d1 := 0) dX10_rule_58 rfl rfl rfl rfl rfl (gA23_tg g10) (by decide) rfl (by decide) (ok_X4_copyFrom hR (gA23_tg g10) rfl g13) ?_
      show mr X _ _ 61 _ [] (MM RR q12) _
      refine mr_aload_n (pc' := 62) dX10_rule_61 rfl rfl ?_
      refine mr_dup_ref (pc' := 63) dX10_rule_62 rfl ?_
      refine mr_getI (pc' := 66) (ci := 10) (j := 10) dX10_rule_63 rfl rfl rfl (by decide) (by decide) rfl ?_
      refine mr_iconst (pc' := 67) (v := (1 : Int32)) dX10_rule_66 rfl (by decide) ?_
      refine mr_iadd (pc' := 68) dX10_rule_67 rfl ?_
      obtain ⟨S15, g16, h17⟩ := Option.bind_eq_some_iff.mp h14
      refine mr_putI (pc' := 71) (ci := 10) (j := 10) dX10_rule_68 rfl rfl rfl (by decide) (by decide) rfl rfl ?_
      rw [Option.some.inj g16]
      refine mr_aload_n (pc' := 72) dX10_rule_71 rfl rfl ?_
      refine mr_getI (pc' := 75) (ci := 10) (j := 10) dX10_rule_72 rfl rfl rfl (by decide) (by decide) rfl ?_
      refine mr_iconst (pc' := 76) (v := (1 : Int32)) dX10_rule_75 rfl (by decide) ?_
      refine mr_isub (pc' := 77) dX10_rule_76 rfl ?_
      obtain rfl := Option.some.inj h17
      exact mr_ireturn dX10_rule_77 rfl
  · rw [if_neg c1] at h
    refine mr_icmp_lt_f (t := 11) (pc' := 9) dX10_rule_6 (by decide) rfl c1 ?_
    refine mr_iconst (pc' := 10) (v := (-1 : Int32)) dX10_rule_9 rfl (by decide) ?_
    obtain rfl := Option.some.inj h
    exact mr_ireturn dX10_rule_10 rfl
def f_X10_isFloor (v1 : Int32) (S : fS) : Option (Int32) :=
  (f_X10_isFrom v1 (0 : Int32) ((S.1 4 6) - (1 : Int32)) S).bind fun q1 =>
  (bZ q1).bind fun z4 => some z4
set_option maxHeartbeats 4000000 in
set_option maxRecDepth 100000 in
theorem ok_X10_isFloor {X : mm_C} {RR : Nat → Nat → Option Nat} (hR : RRok RR) {v1 : Int32}  {S : fS} {r : Int32} (h : f_X10_isFloor v1 S = some r) : mr X 1 mY_X10_isFloor 0 (lv_args 0 [.ref 0, .int v1]) [] (MM RR S) (some (.int r), MM RR S) := by
  unfold f_X10_isFloor at h
  show mr X _ _ 0 [(0, .ref 0), (1, .int v1)] [] (MM RR S) _
  refine mr_iload_n (pc' := 1) dX10_isFloor_0 rfl rfl ?_
  refine mr_iconst (pc' := 2) (v := (0 : Int32)) dX10_isFloor_1 rfl (by decide) ?_
  refine mr_aload_n (pc' := 3) dX10_isFloor_2 rfl rfl ?_
  refine mr_getR (pc' := 6) (ci := 10) (j := 1) (b := 3) hR dX10_isFloor_3 rfl rfl rfl (by decide) (by decide) (by decide) rfl rfl ?_
  refine mr_getR (pc' := 9) (ci := 6) (j := 0) (b := 4) hR dX10_isFloor_6 rfl rfl rfl (by decide) (by decide) (by decide) rfl rfl ?_
  refine mr_getI (pc' := 12) (ci := 8) (j := 6) dX10_isFloor_9 rfl rfl rfl (by decide) (by decide) rfl ?_
  refine mr_iconst (pc' := 13) (v := (1 : Int32)) dX10_isFloor_12 rfl (by decide) ?_
  refine mr_isub (pc' := 14) dX10_isFloor_13 rfl ?_
  obtain ⟨q1, g2, h3⟩ := Option.bind_eq_some_iff.mp h
  refine mr_cs (pc' := 17) (d1 := 0) dX10_isFloor_14 rfl rfl rfl rfl (by decide) (Nat.le_of_ble_eq_true rfl) rfl rfl rfl (by decide) (ok_X10_isFrom hR  g2) ?_
  show mr X _ _ 17 _ [.int q1] (MM RR S) _
  obtain ⟨z4, g5, h6⟩ := Option.bind_eq_some_iff.mp h3
  obtain ⟨g7, e8⟩ := mm_ifs g5
  cases e8
  cases h6
  exact mr_zreturn dX10_isFloor_17 rfl g7
def lp_X0_standingOn_4 (p0 : Nat) (p1 : Int32) (S : fS) (K : Int32 → Option (Int32)) : Nat → Int32 → Int32 → Option (Int32)
  | 0, _, _ => none
  | n + 1, p2, p3 =>
    if (S.1 p0 5) ≤ p3 then (K p2) else
    ((gI S (p0 + 1) 8 p3).bind fun a2 =>
    if a2 = p1 then (lp_X0_standingOn_4 p0 p1 S K n (p2 + (1 : Int32)) (p3 + (1 : Int32))) else
    (lp_X0_standingOn_4 p0 p1 S K n (p2 + (0 : Int32)) (p3 + (1 : Int32))))
set_option maxHeartbeats 4000000 in
set_option maxRecDepth 100000 in
theorem ok_lp_X0_standingOn_4 {X : mm_C} {RR : Nat → Nat → Option Nat} (hR : RRok RR) {p0 : Nat} {p1 : Int32} (t0 : tg p0 = 0) {S : fS} {K : Int32 → Option (Int32)} {r : Int32} (hK : ∀ (k2 : Int32), K k2 = some r → mr X 0 mY_X0_standingOn 36 [(2, .int k2)] [] (MM RR S) (some (.int r), MM RR S)) : ∀ (n : Nat) (p2 : Int32) (p3 : Int32), lp_X0_standingOn_4 p0 p1 S K n p2 p3 = some r → mr X 0 mY_X0_standingOn 4 [(0, .ref p0), (1, .int p1), (2, .int p2), (3, .int p3)] [] (MM RR S) (some (.int r), MM RR S) := by
  intro n
  induction n with
  | zero => intro p2 p3 h; exact mm_no h
  | succ n ih =>
    intro p2 p3 h
    unfold lp_X0_standingOn_4 at h
    refine mr_iload_n (pc' := 5) dX0_standingOn_4 rfl rfl ?_
    refine mr_aload_n (pc' := 6) dX0_standingOn_5 rfl rfl ?_
    refine mr_getI (pc' := 9) (ci := 0) (j := 5) dX0_standingOn_6 rfl rfl t0 (by decide) (by decide) rfl ?_
    by_cases c1 : (S.1 p0 5) ≤ p3
    · rw [if_pos c1] at h
      refine mr_icmp_ge_t (t := 36) dX0_standingOn_9 (by decide) c1 ?_
      exact mr_sub [(2, .int p2)] ⟨rfl, trivial⟩ rfl (hK _  h)
    · rw [if_neg c1] at h
      refine mr_icmp_ge_f (t := 36) (pc' := 12) dX0_standingOn_9 (by decide) rfl c1 ?_
      refine mr_iload_n (pc' := 13) dX0_standingOn_12 rfl rfl ?_
      refine mr_aload_n (pc' := 14) dX0_standingOn_13 rfl rfl ?_
      refine mr_getR (pc' := 17) (ci := 0) (j := 0) (b := (p0 + 1)) hR dX0_standingOn_14 rfl rfl t0 (by decide) (by decide) (by decide) rfl (ly0_0 t0).1 ?_
      refine mr_iload_n (pc' := 18) dX0_standingOn_17 rfl rfl ?_
      obtain ⟨a2, g3, h4⟩ := Option.bind_eq_some_iff.mp h
      refine mr_iald (pc' := 19) dX0_standingOn_18 rfl (ly0_0 t0).2.1 (ly0_0 t0).2.2 g3 ?_
      refine mr_iload_n (pc' := 20) dX0_standingOn_19 rfl rfl ?_
      by_cases c5 : a2 = p1
      · rw [if_pos c5] at h4
        refine mr_icmp_ne_f (t := 27) (pc' := 23) dX0_standingOn_20 (by decide) rfl (not_not_intro c5) ?_
        refine mr_iconst (pc' := 24) (v := (1 : Int32)) dX0_standingOn_23 rfl (by decide) ?_
        refine mr_goto (t := 28) dX0_standingOn_24 (by decide) ?_
        refine mr_iadd (pc' := 29) dX0_standingOn_28 rfl ?_
        refine mr_istore_n (pc' := 30) (lv' := [(2, .int (p2 + (1 : Int32))), (0, .ref p0), (1, .int p1), (3, .int p3)]) dX0_standingOn_29 rfl (by decide) rfl ?_
        refine mr_iinc (pc' := 33) (x' := (p3 + (1 : Int32))) (lv' := [(3, .int (p3 + (1 : Int32))), (2, .int (p2 + (1 : Int32))), (0, .ref p0), (1, .int p1)]) dX0_standingOn_30 rfl (by decide) rfl rfl rfl ?_
        refine mr_goto (t := 4) dX0_standingOn_33 (by decide) ?_
        exact mr_sub [(0, .ref p0), (1, .int p1), (2, .int (p2 + (1 : Int32))), (3, .int (p3 + (1 : Int32)))] ⟨rfl, rfl, rfl, rfl, trivial⟩ rfl (ih _ _  h4)
      · rw [if_neg c5] at h4
        refine mr_icmp_ne_t (t := 27) dX0_standingOn_20 (by decide) c5 ?_
        refine mr_iconst (pc' := 28) (v := (0 : Int32)) dX0_standingOn_27 rfl (by decide) ?_
        refine mr_iadd (pc' := 29) dX0_standingOn_28 rfl ?_
        refine mr_istore_n (pc' := 30) (lv' := [(2, .int (p2 + (0 : Int32))), (0, .ref p0), (1, .int p1), (3, .int p3)]) dX0_standingOn_29 rfl (by decide) rfl ?_
        refine mr_iinc (pc' := 33) (x' := (p3 + (1 : Int32))) (lv' := [(3, .int (p3 + (1 : Int32))), (2, .int (p2 + (0 : Int32))), (0, .ref p0), (1, .int p1)]) dX0_standingOn_30 rfl (by decide) rfl rfl rfl ?_
        refine mr_goto (t := 4) dX0_standingOn_33 (by decide) ?_
        exact mr_sub [(0, .ref p0), (1, .int p1), (2, .int (p2 + (0 : Int32))), (3, .int (p3 + (1 : Int32)))] ⟨rfl, rfl, rfl, rfl, trivial⟩ rfl (ih _ _  h4)
def f_X0_standingOn (v0 : Nat) (v1 : Int32) (S : fS) : Option (Int32) :=
  lp_X0_standingOn_4 v0 v1 S (fun u6 => some u6) FU (0 : Int32) (0 : Int32)
set_option maxHeartbeats 4000000 in
set_option maxRecDepth 100000 in
theorem ok_X0_standingOn {X : mm_C} {RR : Nat → Nat → Option Nat} (hR : RRok RR) {v0 : Nat} {v1 : Int32} (t0 : tg v0 = 0) {S : fS} {r : Int32} (h : f_X0_standingOn v0 v1 S = some r) : mr X 0 mY_X0_standingOn 0 (lv_args 0 [.ref v0, .int v1]) [] (MM RR S) (some (.int r), MM RR S) := by
  unfold f_X0_standingOn at h
  show mr X _ _ 0 [(0, .ref v0), (1, .int v1)] [] (MM RR S) _
  refine mr_iconst (pc' := 1) (v := (0 : Int32)) dX0_standingOn_0 rfl (by decide) ?_
  refine mr_istore_n (pc' := 2) (lv' := [(2, .int (0 : Int32)), (0, .ref v0), (1, .int v1)]) dX0_standingOn_1 rfl (by decide) rfl ?_
  refine mr_iconst (pc' := 3) (v := (0 : Int32)) dX0_standingOn_2 rfl (by decide) ?_
  refine mr_istore_n (pc' := 4) (lv' := [(3, .int (0 : Int32)), (2, .int (0 : Int32)), (0, .ref v0), (1, .int v1)]) dX0_standingOn_3 rfl (by decide) rfl ?_
  refine mr_sub [(0, .ref v0), (1, .int v1), (2, .int (0 : Int32)), (3, .int (0 : Int32))] ⟨rfl, rfl, rfl, rfl, trivial⟩ rfl ?_
  refine ok_lp_X0_standingOn_4 hR t0 (fun u6 h7 => ?_) FU _ _  h
  refine mr_iload_n (pc' := 37) dX0_standingOn_36 rfl rfl ?_
  obtain rfl := Option.some.inj h7
  exact mr_ireturn dX0_standingOn_37 rfl
def f_J9_abs_067f4 (v0 : Int64) (S : fS) : Option (Int64) :=
  if (0 : Int64) ≤ v0 then (some v0) else
  (some (-v0))
set_option maxHeartbeats 4000000 in
set_option maxRecDepth 100000 in
theorem ok_J9_abs_067f4 {X : mm_C} {RR : Nat → Nat → Option Nat} (hR : RRok RR) {v0 : Int64}  {S : fS} {r : Int64} (h : f_J9_abs_067f4 v0 S = some r) : mr X 0 mY_J9_abs_067f4 0 (lv_args 0 [.long v0]) [] (MM RR S) (some (.long r), MM RR S) := by
  unfold f_J9_abs_067f4 at h
  show mr X _ _ 0 [(0, .long v0)] [] (MM RR S) _
  refine mr_lload_n (pc' := 1) dJ9_abs_067f4_0 rfl rfl ?_
  refine mr_lconst (pc' := 2) (v := (0 : Int64)) dJ9_abs_067f4_1 rfl (by decide) ?_
  by_cases c1 : (0 : Int64) ≤ v0
  · rw [if_pos c1] at h
    refine mr_lcmp_ge_t (t := 11) dJ9_abs_067f4_2 rfl dJ9_abs_067f4_3 (by decide) c1 ?_
    refine mr_lload_n (pc' := 12) dJ9_abs_067f4_11 rfl rfl ?_
    obtain rfl := Option.some.inj h
    exact mr_lreturn dJ9_abs_067f4_12 rfl
  · rw [if_neg c1] at h
    refine mr_lcmp_ge_f (t := 11) (pc' := 6) dJ9_abs_067f4_2 rfl dJ9_abs_067f4_3 (by decide) rfl c1 ?_
    refine mr_lload_n (pc' := 7) dJ9_abs_067f4_6 rfl rfl ?_
    refine mr_lneg (pc' := 8) dJ9_abs_067f4_7 rfl ?_
    refine mr_goto (t := 12) dJ9_abs_067f4_8 (by decide) ?_
    obtain rfl := Option.some.inj h
    exact mr_lreturn dJ9_abs_067f4_12 rfl
def lp_X10_commonDivisor_15  (S : fS) (K : Int64 → Option (Int64)) : Nat → Int64 → Int64 → Int32 → Option (Int64)
  | 0, _, _, _ => none
  | n + 1, p4, p6, p8 =>
    if (128 : Int32) ≤ p8 then (K p4) else
    (if p6 = (0 : Int64) then (K p4) else
    ((rL p4 p6).bind fun a9 =>
    lp_X10_commonDivisor_15  S K n p6 a9 (p8 + (1 : Int32))))
set_option maxHeartbeats 4000000 in
set_option maxRecDepth 100000 in
theorem ok_lp_X10_commonDivisor_15 {X : mm_C} {RR : Nat → Nat → Option Nat} (hR : RRok RR)   {S : fS} {K : Int64 → Option (Int64)} {r : Int64} (hK : ∀ (k4 : Int64), K k4 = some r → mr X 1 mY_X10_commonDivisor 51 [(4, .long k4)] [] (MM RR S) (some (.long r), MM RR S)) : ∀ (n : Nat) (p4 : Int64) (p6 : Int64) (p8 : Int32), lp_X10_commonDivisor_15  S K n p4 p6 p8 = some r → mr X 1 mY_X10_commonDivisor 15 [(4, .long p4), (6, .long p6), (8, .int p8)] [] (MM RR S) (some (.long r), MM RR S) := by
  intro n
  induction n with
  | zero => intro p4 p6 p8 h; exact mm_no h
  | succ n ih =>
    intro p4 p6 p8 h
    unfold lp_X10_commonDivisor_15 at h
    refine mr_iload (pc' := 17) dX10_commonDivisor_15 rfl rfl ?_
    refine mr_sipush (pc' := 20) (v := (128 : Int32)) dX10_commonDivisor_17 rfl (by decide) ?_
    by_cases c7 : (128 : Int32) ≤ p8
    · rw [if_pos c7] at h
      refine mr_icmp_ge_t (t := 51) dX10_commonDivisor_20 (by decide) c7 ?_
      exact mr_sub [(4, .long p4)] ⟨rfl, trivial⟩ rfl (hK _  h)
    · rw [if_neg c7] at h
      refine mr_icmp_ge_f (t := 51) (pc' := 23) dX10_commonDivisor_20 (by decide) rfl c7 ?_
      refine mr_lload (pc' := 25) dX10_commonDivisor_23 rfl rfl ?_
      refine mr_lconst (pc' := 26) (v := (0 : Int64)) dX10_commonDivisor_25 rfl (by decide) ?_
      by_cases c8 : p6 = (0 : Int64)
      · rw [if_pos c8] at h
        refine mr_lcmp_eq_t (t := 51) dX10_commonDivisor_26 rfl dX10_commonDivisor_27 (by decide) c8 ?_
        exact mr_sub [(4, .long p4)] ⟨rfl, trivial⟩ rfl (hK _  h)
      · rw [if_neg c8] at h
        refine mr_lcmp_eq_f (t := 51) (pc' := 30) dX10_commonDivisor_26 rfl dX10_commonDivisor_27 (by decide) rfl c8 ?_
        refine mr_lload (pc' := 32) dX10_commonDivisor_30 rfl rfl ?_
        refine mr_lload (pc' := 34) dX10_commonDivisor_32 rfl rfl ?_
        obtain ⟨a9, g10, h11⟩ := Option.bind_eq_some_iff.mp h
        refine mr_lrem (pc' := 35) dX10_commonDivisor_34 rfl g10 ?_
        refine mr_lstore (pc' := 37) (lv' := [(9, .long a9), (4, .long p4), (6, .long p6), (8, .int p8)]) dX10_commonDivisor_35 rfl (by decide) rfl ?_
        refine mr_lload (pc' := 39) dX10_commonDivisor_37 rfl rfl ?_
        refine mr_lstore (pc' := 41) (lv' := [(4, .long p6), (9, .long a9), (6, .long p6), (8, .int p8)]) dX10_commonDivisor_39 rfl (by decide) rfl ?_
        refine mr_lload (pc' := 43) dX10_commonDivisor_41 rfl rfl ?_
        refine mr_lstore (pc' := 45) (lv' := [(6, .long a9), (4, .long p6), (9, .long a9), (8, .int p8)]) dX10_commonDivisor_43 rfl (by decide) rfl ?_
        refine mr_iinc (pc' := 48) (x' := (p8 + (1 : Int32))) (lv' := [(8, .int (p8 + (1 : Int32))), (6, .long a9), (4, .long p6), (9, .long a9)]) dX10_commonDivisor_45 rfl (by decide) rfl rfl rfl ?_
        refine mr_goto (t := 15) dX10_commonDivisor_48 (by decide) ?_
        exact mr_sub [(4, .long p6), (6, .long a9), (8, .int (p8 + (1 : Int32)))] ⟨rfl, rfl, rfl, trivial⟩ rfl (ih _ _ _  h11)
def f_X10_commonDivisor (v0 : Int64) (v2 : Int64) (S : fS) : Option (Int64) :=
  (f_J9_abs_067f4 v0 S).bind fun q1 =>
  (f_J9_abs_067f4 v2 S).bind fun q4 =>
  lp_X10_commonDivisor_15  S (fun u12 => some u12) FU q1 q4 (0 : Int32)
set_option maxHeartbeats 4000000 in
set_option maxRecDepth 100000 in
theorem ok_X10_commonDivisor {X : mm_C} {RR : Nat → Nat → Option Nat} (hR : RRok RR) {v0 : Int64} {v2 : Int64}  {S : fS} {r : Int64} (h : f_X10_commonDivisor v0 v2 S = some r) : mr X 1 mY_X10_commonDivisor 0 (lv_args 0 [.long v0, .long v2]) [] (MM RR S) (some (.long r), MM RR S) := by
  unfold f_X10_commonDivisor at h
  show mr X _ _ 0 [(0, .long v0), (2, .long v2)] [] (MM RR S) _
  refine mr_lload_n (pc' := 1) dX10_commonDivisor_0 rfl rfl ?_
  obtain ⟨q1, g2, h3⟩ := Option.bind_eq_some_iff.mp h
  refine mr_cs (pc' := 4) (d1 := 0) dX10_commonDivisor_1 rfl rfl rfl rfl (by decide) (Nat.le_of_ble_eq_true rfl) rfl rfl rfl (by decide) (ok_J9_abs_067f4 hR  g2) ?_
  show mr X _ _ 4 _ [.long q1] (MM RR S) _
  refine mr_lstore (pc' := 6) (lv' := [(4, .long q1), (0, .long v0), (2, .long v2)]) dX10_commonDivisor_4 rfl (by decide) rfl ?_
  refine mr_lload_n (pc' := 7) dX10_commonDivisor_6 rfl rfl ?_
  obtain ⟨q4, g5, h6⟩ := Option.bind_eq_some_iff.mp h3
  refine mr_cs (pc' := 10) (d1 := 0) dX10_commonDivisor_7 rfl rfl rfl rfl (by decide) (Nat.le_of_ble_eq_true rfl) rfl rfl rfl (by decide) (ok_J9_abs_067f4 hR  g5) ?_
  show mr X _ _ 10 _ [.long q4] (MM RR S) _
  refine mr_lstore (pc' := 12) (lv' := [(6, .long q4), (4, .long q1), (0, .long v0), (2, .long v2)]) dX10_commonDivisor_10 rfl (by decide) rfl ?_
  refine mr_iconst (pc' := 13) (v := (0 : Int32)) dX10_commonDivisor_12 rfl (by decide) ?_
  refine mr_istore (pc' := 15) (lv' := [(8, .int (0 : Int32)), (6, .long q4), (4, .long q1), (0, .long v0), (2, .long v2)]) dX10_commonDivisor_13 rfl (by decide) rfl ?_
  refine mr_sub [(4, .long q1), (6, .long q4), (8, .int (0 : Int32))] ⟨rfl, rfl, rfl, trivial⟩ rfl ?_
  refine ok_lp_X10_commonDivisor_15 hR  (fun u12 h13 => ?_) FU _ _ _  h6
  refine mr_lload (pc' := 53) dX10_commonDivisor_51 rfl rfl ?_
  obtain rfl := Option.some.inj h13
  exact mr_lreturn dX10_commonDivisor_53 rfl
def f_X10_lowest (v0 : Int64) (v2 : Int64) (v4 : Int32) (S : fS) : Option (Int64) :=
  (f_X10_commonDivisor v0 v2 S).bind fun q1 =>
  if q1 = (0 : Int64) then (some (-1 : Int64)) else
  (if v4 = (0 : Int32) then ((dL v0 q1).bind fun a9 =>
  some a9) else
  ((dL v2 q1).bind fun a6 =>
  some a6))
set_option maxHeartbeats 4000000 in
set_option maxRecDepth 100000 in
theorem ok_X10_lowest {X : mm_C} {RR : Nat → Nat → Option Nat} (hR : RRok RR) {v0 : Int64} {v2 : Int64} {v4 : Int32}  {S : fS} {r : Int64} (h : f_X10_lowest v0 v2 v4 S = some r) : mr X 2 mY_X10_lowest 0 (lv_args 0 [.long v0, .long v2, .int v4]) [] (MM RR S) (some (.long r), MM RR S) := by
  unfold f_X10_lowest at h
  show mr X _ _ 0 [(0, .long v0), (2, .long v2), (4, .int v4)] [] (MM RR S) _
  refine mr_lload_n (pc' := 1) dX10_lowest_0 rfl rfl ?_
  refine mr_lload_n (pc' := 2) dX10_lowest_1 rfl rfl ?_
  obtain ⟨q1, g2, h3⟩ := Option.bind_eq_some_iff.mp h
  refine mr_cs (pc' := 5) (d1 := 1) dX10_lowest_2 rfl rfl rfl rfl (by decide) (Nat.le_of_ble_eq_true rfl) rfl rfl rfl (by decide) (ok_X10_commonDivisor hR  g2) ?_
  show mr X _ _ 5 _ [.long q1] (MM RR S) _
  refine mr_lstore (pc' := 7) (lv' := [(5, .long q1), (0, .long v0), (2, .long v2), (4, .int v4)]) dX10_lowest_5 rfl (by decide) rfl ?_
  refine mr_lload (pc' := 9) dX10_lowest_7 rfl rfl ?_
  refine mr_lconst (pc' := 10) (v := (0 : Int64)) dX10_lowest_9 rfl (by decide) ?_
  by_cases c4 : q1 = (0 : Int64)
  · rw [if_pos c4] at h3
    refine mr_lcmp_ne_f (t := 18) (pc' := 14) dX10_lowest_10 rfl dX10_lowest_11 (by decide) rfl (not_not_intro c4) ?_
    refine mr_ldc2 (pc' := 17) (v := (-1 : Int64)) dX10_lowest_14 rfl rfl ?_
    obtain rfl := Option.some.inj h3
    exact mr_lreturn dX10_lowest_17 rfl
  · rw [if_neg c4] at h3
    refine mr_lcmp_ne_t (t := 18) dX10_lowest_10 rfl dX10_lowest_11 (by decide) c4 ?_
    refine mr_iload (pc' := 20) dX10_lowest_18 rfl rfl ?_
    by_cases c5 : v4 = (0 : Int32)
    · rw [if_pos c5] at h3
      refine mr_if_ne_f (t := 27) (pc' := 23) dX10_lowest_20 (by decide) rfl (not_not_intro c5) ?_
      refine mr_lload_n (pc' := 24) dX10_lowest_23 rfl rfl ?_
      refine mr_goto (t := 28) dX10_lowest_24 (by decide) ?_
      refine mr_lload (pc' := 30) dX10_lowest_28 rfl rfl ?_
      obtain ⟨a9, g10, h11⟩ := Option.bind_eq_some_iff.mp h3
      refine mr_ldiv (pc' := 31) dX10_lowest_30 rfl g10 ?_
      obtain rfl := Option.some.inj h11
      exact mr_lreturn dX10_lowest_31 rfl
    · rw [if_neg c5] at h3
      refine mr_if_ne_t (t := 27) dX10_lowest_20 (by decide) c5 ?_
      refine mr_lload_n (pc' := 28) dX10_lowest_27 rfl rfl ?_
      refine mr_lload (pc' := 30) dX10_lowest_28 rfl rfl ?_
      obtain ⟨a6, g7, h8⟩ := Option.bind_eq_some_iff.mp h3
      refine mr_ldiv (pc' := 31) dX10_lowest_30 rfl g7 ?_
      obtain rfl := Option.some.inj h8
      exact mr_lreturn dX10_lowest_31 rfl
def f_X10_floor (v1 : Int32) (v2 : Int32) (S : fS) : Option (Int32) :=
  (f_X10_isFloor v1 S).bind fun q1 =>
  if q1 = (0 : Int32) then (some (-1 : Int32)) else
  ((f_X10_isFrom v2 (0 : Int32) (2 : Int32) S).bind fun q5 =>
  if q5 = (0 : Int32) then (some (-1 : Int32)) else
  (if v2 = (2 : Int32) then ((f_X0_standingOn 11 v1 S).bind fun q16 =>
  some q16) else
  ((gL S 5 10 v1).bind fun a10 =>
  (f_X10_lowest a10 (232792560 : Int64) v2 S).bind fun q13 =>
  some (Int64.toInt32 q13))))
set_option maxHeartbeats 4000000 in
set_option maxRecDepth 100000 in
theorem ok_X10_floor {X : mm_C} {RR : Nat → Nat → Option Nat} (hR : RRok RR) {v1 : Int32} {v2 : Int32}  {S : fS} {r : Int32} (h : f_X10_floor v1 v2 S = some r) : mr X 3 mY_X10_floor 0 (lv_args 0 [.ref 0, .int v1, .int v2]) [] (MM RR S) (some (.int r), MM RR S) := by
  unfold f_X10_floor at h
  show mr X _ _ 0 [(0, .ref 0), (1, .int v1), (2, .int v2)] [] (MM RR S) _
  refine mr_aload_n (pc' := 1) dX10_floor_0 rfl rfl ?_
  refine mr_iload_n (pc' := 2) dX10_floor_1 rfl rfl ?_
  obtain ⟨q1, g2, h3⟩ := Option.bind_eq_some_iff.mp h
  refine mr_cv (pc' := 5) (a := 0) (d1 := 1) dX10_floor_2 rfl rfl rfl rfl rfl rfl (by decide) rfl (by decide) (ok_X10_isFloor hR  g2) ?_
  show mr X _ _ 5 _ [.int q1] (MM RR S) _
  by_cases c4 : q1 = (0 : Int32)
  · rw [if_pos c4] at h3
    refine mr_if_eq_t (t := 17) dX10_floor_5 (by decide) c4 ?_
    refine mr_iconst (pc' := 18) (v := (-1 : Int32)) dX10_floor_17 rfl (by decide) ?_
    obtain rfl := Option.some.inj h3
    exact mr_ireturn dX10_floor_18 rfl
  · rw [if_neg c4] at h3
    refine mr_if_eq_f (t := 17) (pc' := 8) dX10_floor_5 (by decide) rfl c4 ?_
    refine mr_iload_n (pc' := 9) dX10_floor_8 rfl rfl ?_
    refine mr_iconst (pc' := 10) (v := (0 : Int32)) dX10_floor_9 rfl (by decide) ?_
    refine mr_iconst (pc' := 11) (v := (2 : Int32)) dX10_floor_10 rfl (by decide) ?_
    obtain ⟨q5, g6, h7⟩ := Option.bind_eq_some_iff.mp h3
    refine mr_cs (pc' := 14) (d1 := 0) dX10_floor_11 rfl rfl rfl rfl (by decide) (Nat.le_of_ble_eq_true rfl) rfl rfl rfl (by decide) (ok_X10_isFrom hR  g6) ?_
    show mr X _ _ 14 _ [.int q5] (MM RR S) _
    by_cases c8 : q5 = (0 : Int32)
    · rw [if_pos c8] at h7
      refine mr_if_ne_f (t := 19) (pc' := 17) dX10_floor_14 (by decide) rfl (not_not_intro c8) ?_
      refine mr_iconst (pc' := 18) (v := (-1 : Int32)) dX10_floor_17 rfl (by decide) ?_
      obtain rfl := Option.some.inj h7
      exact mr_ireturn dX10_floor_18 rfl
    · rw [if_neg c8] at h7
      refine mr_if_ne_t (t := 19) dX10_floor_14 (by decide) c8 ?_
      refine mr_iload_n (pc' := 20) dX10_floor_19 rfl rfl ?_
      refine mr_iconst (pc' := 21) (v := (2 : Int32)) dX10_floor_20 rfl (by decide) ?_
      by_cases c9 : v2 = (2 : Int32)
      · rw [if_pos c9] at h7
        refine mr_icmp_ne_f (t := 36) (pc' := 24) dX10_floor_21 (by decide) rfl (not_not_intro c9) ?_
        refine mr_aload_n (pc' := 25) dX10_floor_24 rfl rfl ?_
        refine mr_getR (pc' := 28) (ci := 10) (j := 1) (b := 3) hR dX10_floor_25 rfl rfl rfl (by decide) (by decide) (by decide) rfl rfl ?_
        refine mr_getR (pc' := 31) (ci := 6) (j := 1) (b := 11) hR dX10_floor_28 rfl rfl rfl (by decide) (by decide) (by decide) rfl rfl ?_
        refine mr_iload_n (pc' := 32) dX10_floor_31 rfl rfl ?_
        obtain ⟨q16, g17, h18⟩ := Option.bind_eq_some_iff.mp h7
        refine mr_cv (pc' := 35) (a := 11) (d1 := 0) dX10_floor_32 rfl rfl rfl rfl rfl rfl (by decide) rfl (by decide) (ok_X0_standingOn hR rfl g17) ?_
        show mr X _ _ 35 _ [.int q16] (MM RR S) _
        obtain rfl := Option.some.inj h18
        exact mr_ireturn dX10_floor_35 rfl
      · rw [if_neg c9] at h7
        refine mr_icmp_ne_t (t := 36) dX10_floor_21 (by decide) c9 ?_
        refine mr_aload_n (pc' := 37) dX10_floor_36 rfl rfl ?_
        refine mr_getR (pc' := 40) (ci := 10) (j := 1) (b := 3) hR dX10_floor_37 rfl rfl rfl (by decide) (by decide) (by decide) rfl rfl ?_
        refine mr_getR (pc' := 43) (ci := 6) (j := 0) (b := 4) hR dX10_floor_40 rfl rfl rfl (by decide) (by decide) (by decide) rfl rfl ?_
        refine mr_getR (pc' := 46) (ci := 8) (j := 0) (b := 5) hR dX10_floor_43 rfl rfl rfl (by decide) (by decide) (by decide) rfl rfl ?_
        refine mr_iload_n (pc' := 47) dX10_floor_46 rfl rfl ?_
        obtain ⟨a10, g11, h12⟩ := Option.bind_eq_some_iff.mp h7
        refine mr_lald (pc' := 48) dX10_floor_47 rfl rfl rfl g11 ?_
        refine mr_ldc2 (pc' := 51) (v := (232792560 : Int64)) dX10_floor_48 rfl rfl ?_
        refine mr_iload_n (pc' := 52) dX10_floor_51 rfl rfl ?_
        obtain ⟨q13, g14, h15⟩ := Option.bind_eq_some_iff.mp h12
        refine mr_cs (pc' := 55) (d1 := 2) dX10_floor_52 rfl rfl rfl rfl (by decide) (Nat.le_of_ble_eq_true rfl) rfl rfl rfl (by decide) (ok_X10_lowest hR  g14) ?_
        show mr X _ _ 55 _ [.long q13] (MM RR S) _
        refine mr_l2i (pc' := 56) dX10_floor_55 rfl ?_
        obtain rfl := Option.some.inj h15
        exact mr_ireturn dX10_floor_56 rfl
def f_X10_stair (v1 : Int32) (v2 : Int32) (S : fS) : Option (Int32) :=
  (f_X10_isFrom v1 (0 : Int32) ((S.1 4 7) - (1 : Int32)) S).bind fun q1 =>
  if q1 = (0 : Int32) then (some (-1 : Int32)) else
  ((f_X10_isFrom v2 (0 : Int32) (4 : Int32) S).bind fun q5 =>
  if q5 = (0 : Int32) then (some (-1 : Int32)) else
  (if v2 = (0 : Int32) then ((gI S 6 12 v1).bind fun a10 =>
  some a10) else
  if v2 = (1 : Int32) then ((gI S 7 12 v1).bind fun a14 =>
  some a14) else
  if v2 = (2 : Int32) then ((gI S 8 12 v1).bind fun a18 =>
  some a18) else
  ((gL S 9 12 v1).bind fun a21 =>
  (f_X10_lowest a21 (232792560 : Int64) (v2 - (3 : Int32)) S).bind fun q24 =>
  some (Int64.toInt32 q24))))
set_option maxHeartbeats 4000000 in
set_option maxRecDepth 100000 in
theorem ok_X10_stair {X : mm_C} {RR : Nat → Nat → Option Nat} (hR : RRok RR) {v1 : Int32} {v2 : Int32}  {S : fS} {r : Int32} (h : f_X10_stair v1 v2 S = some r) : mr X 3 mY_X10_stair 0 (lv_args 0 [.ref 0, .int v1, .int v2]) [] (MM RR S) (some (.int r), MM RR S) := by
  unfold f_X10_stair at h
  show mr X _ _ 0 [(0, .ref 0), (1, .int v1), (2, .int v2)] [] (MM RR S) _
  refine mr_aload_n (pc' := 1) dX10_stair_0 rfl rfl ?_
  refine mr_getR (pc' := 4) (ci := 10) (j := 1) (b := 3) hR dX10_stair_1 rfl rfl rfl (by decide) (by decide) (by decide) rfl rfl ?_
  refine mr_getR (pc' := 7) (ci := 6) (j := 0) (b := 4) hR dX10_stair_4 rfl rfl rfl (by decide) (by decide) (by decide) rfl rfl ?_
  refine mr_astore_n (pc' := 8) (lv' := [(3, .ref 4), (0, .ref 0), (1, .int v1), (2, .int v2)]) dX10_stair_7 rfl (by decide) rfl ?_
  refine mr_iload_n (pc' := 9) dX10_stair_8 rfl rfl ?_
  refine mr_iconst (pc' := 10) (v := (0 : Int32)) dX10_stair_9 rfl (by decide) ?_
  refine mr_aload_n (pc' := 11) dX10_stair_10 rfl rfl ?_
  refine mr_getI (pc' := 14) (ci := 8) (j := 7) dX10_stair_11 rfl rfl rfl (by decide) (by decide) rfl ?_
  refine mr_iconst (pc' := 15) (v := (1 : Int32)) dX10_stair_14 rfl (by decide) ?_
  refine mr_isub (pc' := 16) dX10_stair_15 rfl ?_
  obtain ⟨q1, g2, h3⟩ := Option.bind_eq_some_iff.mp h
  refine mr_cs (pc' := 19) (d1 := 0) dX10_stair_16 rfl rfl rfl rfl (by decide) (Nat.le_of_ble_eq_true rfl) rfl rfl rfl (by decide) (ok_X10_isFrom hR  g2) ?_
  show mr X _ _ 19 _ [.int q1] (MM RR S) _
  by_cases c4 : q1 = (0 : Int32)
  · rw [if_pos c4] at h3
    refine mr_if_eq_t (t := 31) dX10_stair_19 (by decide) c4 ?_
    refine mr_iconst (pc' := 32) (v := (-1 : Int32)) dX10_stair_31 rfl (by decide) ?_
    obtain rfl := Option.some.inj h3
    exact mr_ireturn dX10_stair_32 rfl
  · rw [if_neg c4] at h3
    refine mr_if_eq_f (t := 31) (pc' := 22) dX10_stair_19 (by decide) rfl c4 ?_
    refine mr_iload_n (pc' := 23) dX10_stair_22 rfl rfl ?_
    refine mr_iconst (pc' := 24) (v := (0 : Int32)) dX10_stair_23 rfl (by decide) ?_
    refine mr_iconst (pc' := 25) (v := (4 : Int32)) dX10_stair_24 rfl (by decide) ?_
    obtain ⟨q5, g6, h7⟩ := Option.bind_eq_some_iff.mp h3
    refine mr_cs (pc' := 28) (d1 := 0) dX10_stair_25 rfl rfl rfl rfl (by decide) (Nat.le_of_ble_eq_true rfl) rfl rfl rfl (by decide) (ok_X10_isFrom hR  g6) ?_
    show mr X _ _ 28 _ [.int q5] (MM RR S) _
    by_cases c8 : q5 = (0 : Int32)
    · rw [if_pos c8] at h7
      refine mr_if_ne_f (t := 33) (pc' := 31) dX10_stair_28 (by decide) rfl (not_not_intro c8) ?_
      refine mr_iconst (pc' := 32) (v := (-1 : Int32)) dX10_stair_31 rfl (by decide) ?_
      obtain rfl := Option.some.inj h7
      exact mr_ireturn dX10_stair_32 rfl
    · rw [if_neg c8] at h7
      refine mr_if_ne_t (t := 33) dX10_stair_28 (by decide) c8 ?_
      refine mr_iload_n (pc' := 34) dX10_stair_33 rfl rfl ?_
      by_cases c9 : v2 = (0 : Int32)
      · rw [if_pos c9] at h7
        refine mr_sw_in (t := 60) (v := (0 : Int32)) dX10_stair_34 c9 rfl ?_
        refine mr_aload_n (pc' := 61) dX10_stair_60 rfl rfl ?_
        refine mr_getR (pc' := 64) (ci := 8) (j := 1) (b := 6) hR dX10_stair_61 rfl rfl rfl (by decide) (by decide) (by decide) rfl rfl ?_
        refine mr_iload_n (pc' := 65) dX10_stair_64 rfl rfl ?_
        obtain ⟨a10, g11, h12⟩ := Option.bind_eq_some_iff.mp h7
        refine mr_iald (pc' := 66) dX10_stair_65 rfl rfl rfl g11 ?_
        obtain rfl := Option.some.inj h12
        exact mr_ireturn dX10_stair_66 rfl
      rw [if_neg c9] at h7
      by_cases c13 : v2 = (1 : Int32)
      · rw [if_pos c13] at h7
        refine mr_sw_in (t := 67) (v := (1 : Int32)) dX10_stair_34 c13 rfl ?_
        refine mr_aload_n (pc' := 68) dX10_stair_67 rfl rfl ?_
        refine mr_getR (pc' := 71) (ci := 8) (j := 2) (b := 7) hR dX10_stair_68 rfl rfl rfl (by decide) (by decide) (by decide) rfl rfl ?_
        refine mr_iload_n (pc' := 72) dX10_stair_71 rfl rfl ?_
        obtain ⟨a14, g15, h16⟩ := Option.bind_eq_some_iff.mp h7
        refine mr_iald (pc' := 73) dX10_stair_72 rfl rfl rfl g15 ?_
        obtain rfl := Option.some.inj h16
        exact mr_ireturn dX10_stair_73 rfl
      rw [if_neg c13] at h7
      by_cases c17 : v2 = (2 : Int32)
      · rw [if_pos c17] at h7
        refine mr_sw_in (t := 74) (v := (2 : Int32)) dX10_stair_34 c17 rfl ?_
        refine mr_aload_n (pc' := 75) dX10_stair_74 rfl rfl ?_
        refine mr_getR (pc' := 78) (ci := 8) (j := 3) (b := 8) hR dX10_stair_75 rfl rfl rfl (by decide) (by decide) (by decide) rfl rfl ?_
        refine mr_iload_n (pc' := 79) dX10_stair_78 rfl rfl ?_
        obtain ⟨a18, g19, h20⟩ := Option.bind_eq_some_iff.mp h7
        refine mr_iald (pc' := 80) dX10_stair_79 rfl rfl rfl g19 ?_
        obtain rfl := Option.some.inj h20
        exact mr_ireturn dX10_stair_80 rfl
      rw [if_neg c17] at h7
      refine mr_sw_out (t := 81) dX10_stair_34 (by have := i32ne c9 (k := 0) (by decide); have := i32ne c13 (k := 1) (by decide); have := i32ne c17 (k := 2) (by decide); omega) (by decide) ?_
      refine mr_aload_n (pc' := 82) dX10_stair_81 rfl rfl ?_
      refine mr_getR (pc' := 85) (ci := 8) (j := 4) (b := 9) hR dX10_stair_82 rfl rfl rfl (by decide) (by decide) (by decide) rfl rfl ?_
      refine mr_iload_n (pc' := 86) dX10_stair_85 rfl rfl ?_
      obtain ⟨a21, g22, h23⟩ := Option.bind_eq_some_iff.mp h7
      refine mr_lald (pc' := 87) dX10_stair_86 rfl rfl rfl g22 ?_
      refine mr_ldc2 (pc' := 90) (v := (232792560 : Int64)) dX10_stair_87 rfl rfl ?_
      refine mr_iload_n (pc' := 91) dX10_stair_90 rfl rfl ?_
      refine mr_iconst (pc' := 92) (v := (3 : Int32)) dX10_stair_91 rfl (by decide) ?_
      refine mr_isub (pc' := 93) dX10_stair_92 rfl ?_
      obtain ⟨q24, g25, h26⟩ := Option.bind_eq_some_iff.mp h23
      refine mr_cs (pc' := 96) (d1 := 2) dX10_stair_93 rfl rfl rfl rfl (by decide) (Nat.le_of_ble_eq_true rfl) rfl rfl rfl (by decide) (ok_X10_lowest hR  g25) ?_
      show mr X _ _ 96 _ [.long q24] (MM RR S) _
      refine mr_l2i (pc' := 97) dX10_stair_96 rfl ?_
      obtain rfl := Option.some.inj h26
      exact mr_ireturn dX10_stair_97 rfl
def f_X10_isThing (v1 : Int32) (S : fS) : Option (Int32) :=
  (f_X10_isFrom v1 (0 : Int32) ((S.1 11 5) - (1 : Int32)) S).bind fun q1 =>
  (bZ q1).bind fun z4 => some z4
set_option maxHeartbeats 4000000 in
set_option maxRecDepth 100000 in
theorem ok_X10_isThing {X : mm_C} {RR : Nat → Nat → Option Nat} (hR : RRok RR) {v1 : Int32}  {S : fS} {r : Int32} (h : f_X10_isThing v1 S = some r) : mr X 1 mY_X10_isThing 0 (lv_args 0 [.ref 0, .int v1]) [] (MM RR S) (some (.int r), MM RR S) := by
  unfold f_X10_isThing at h
  show mr X _ _ 0 [(0, .ref 0), (1, .int v1)] [] (MM RR S) _
  refine mr_iload_n (pc' := 1) dX10_isThing_0 rfl rfl ?_
  refine mr_iconst (pc' := 2) (v := (0 : Int32)) dX10_isThing_1 rfl (by decide) ?_
  refine mr_aload_n (pc' := 3) dX10_isThing_2 rfl rfl ?_
  refine mr_getR (pc' := 6) (ci := 10) (j := 1) (b := 3) hR dX10_isThing_3 rfl rfl rfl (by decide) (by decide) (by decide) rfl rfl ?_
  refine mr_getR (pc' := 9) (ci := 6) (j := 1) (b := 11) hR dX10_isThing_6 rfl rfl rfl (by decide) (by decide) (by decide) rfl rfl ?_
  refine mr_getI (pc' := 12) (ci := 0) (j := 5) dX10_isThing_9 rfl rfl rfl (by decide) (by decide) rfl ?_
  refine mr_iconst (pc' := 13) (v := (1 : Int32)) dX10_isThing_12 rfl (by decide) ?_
  refine mr_isub (pc' := 14) dX10_isThing_13 rfl ?_
  obtain ⟨q1, g2, h3⟩ := Option.bind_eq_some_iff.mp h
  refine mr_cs (pc' := 17) (d1 := 0) dX10_isThing_14 rfl rfl rfl rfl (by decide) (Nat.le_of_ble_eq_true rfl) rfl rfl rfl (by decide) (ok_X10_isFrom hR  g2) ?_
  show mr X _ _ 17 _ [.int q1] (MM RR S) _
  obtain ⟨z4, g5, h6⟩ := Option.bind_eq_some_iff.mp h3
  obtain ⟨g7, e8⟩ := mm_ifs g5
  cases e8
  cases h6
  exact mr_zreturn dX10_isThing_17 rfl g7
def f_X10_thing (v1 : Int32) (v2 : Int32) (S : fS) : Option (Int32) :=
  (f_X10_isThing v1 S).bind fun q1 =>
  if q1 = (0 : Int32) then (some (-2 : Int32)) else
  ((f_X10_isFrom v2 (0 : Int32) (3 : Int32) S).bind fun q5 =>
  if q5 = (0 : Int32) then (some (-2 : Int32)) else
  (if v2 = (0 : Int32) then ((gI S 12 8 v1).bind fun a10 =>
  some a10) else
  if v2 = (1 : Int32) then ((gI S 13 8 v1).bind fun a14 =>
  some a14) else
  if v2 = (2 : Int32) then ((gI S 14 8 v1).bind fun a18 =>
  some a18) else
  ((gI S 15 8 v1).bind fun a21 =>
  some a21)))
set_option maxHeartbeats 4000000 in
set_option maxRecDepth 100000 in
theorem ok_X10_thing {X : mm_C} {RR : Nat → Nat → Option Nat} (hR : RRok RR) {v1 : Int32} {v2 : Int32}  {S : fS} {r : Int32} (h : f_X10_thing v1 v2 S = some r) : mr X 2 mY_X10_thing 0 (lv_args 0 [.ref 0, .int v1, .int v2]) [] (MM RR S) (some (.int r), MM RR S) := by
  unfold f_X10_thing at h
  show mr X _ _ 0 [(0, .ref 0), (1, .int v1), (2, .int v2)] [] (MM RR S) _
  refine mr_aload_n (pc' := 1) dX10_thing_0 rfl rfl ?_
  refine mr_iload_n (pc' := 2) dX10_thing_1 rfl rfl ?_
  obtain ⟨q1, g2, h3⟩ := Option.bind_eq_some_iff.mp h
  refine mr_cv (pc' := 5) (a := 0) (d1 := 1) dX10_thing_2 rfl rfl rfl rfl rfl rfl (by decide) rfl (by decide) (ok_X10_isThing hR  g2) ?_
  show mr X _ _ 5 _ [.int q1] (MM RR S) _
  by_cases c4 : q1 = (0 : Int32)
  · rw [if_pos c4] at h3
    refine mr_if_eq_t (t := 17) dX10_thing_5 (by decide) c4 ?_
    refine mr_bipush (pc' := 19) (v := (-2 : Int32)) dX10_thing_17 rfl (by decide) ?_
    obtain rfl := Option.some.inj h3
    exact mr_ireturn dX10_thing_19 rfl
  · rw [if_neg c4] at h3
    refine mr_if_eq_f (t := 17) (pc' := 8) dX10_thing_5 (by decide) rfl c4 ?_
    refine mr_iload_n (pc' := 9) dX10_thing_8 rfl rfl ?_
    refine mr_iconst (pc' := 10) (v := (0 : Int32)) dX10_thing_9 rfl (by decide) ?_
    refine mr_iconst (pc' := 11) (v := (3 : Int32)) dX10_thing_10 rfl (by decide) ?_
    obtain ⟨q5, g6, h7⟩ := Option.bind_eq_some_iff.mp h3
    refine mr_cs (pc' := 14) (d1 := 0) dX10_thing_11 rfl rfl rfl rfl (by decide) (Nat.le_of_ble_eq_true rfl) rfl rfl rfl (by decide) (ok_X10_isFrom hR  g6) ?_
    show mr X _ _ 14 _ [.int q5] (MM RR S) _
    by_cases c8 : q5 = (0 : Int32)
    · rw [if_pos c8] at h7
      refine mr_if_ne_f (t := 20) (pc' := 17) dX10_thing_14 (by decide) rfl (not_not_intro c8) ?_
      refine mr_bipush (pc' := 19) (v := (-2 : Int32)) dX10_thing_17 rfl (by decide) ?_
      obtain rfl := Option.some.inj h7
      exact mr_ireturn dX10_thing_19 rfl
    · rw [if_neg c8] at h7
      refine mr_if_ne_t (t := 20) dX10_thing_14 (by decide) c8 ?_
      refine mr_aload_n (pc' := 21) dX10_thing_20 rfl rfl ?_
      refine mr_getR (pc' := 24) (ci := 10) (j := 1) (b := 3) hR dX10_thing_21 rfl rfl rfl (by decide) (by decide) (by decide) rfl rfl ?_
      refine mr_getR (pc' := 27) (ci := 6) (j := 1) (b := 11) hR dX10_thing_24 rfl rfl rfl (by decide) (by decide) (by decide) rfl rfl ?_
      refine mr_astore_n (pc' := 28) (lv' := [(3, .ref 11), (0, .ref 0), (1, .int v1), (2, .int v2)]) dX10_thing_27 rfl (by decide) rfl ?_
      refine mr_iload_n (pc' := 29) dX10_thing_28 rfl rfl ?_
      by_cases c9 : v2 = (0 : Int32)
      · rw [if_pos c9] at h7
        refine mr_sw_in (t := 56) (v := (0 : Int32)) dX10_thing_29 c9 rfl ?_
        refine mr_aload_n (pc' := 57) dX10_thing_56 rfl rfl ?_
        refine mr_getR (pc' := 60) (ci := 0) (j := 0) (b := 12) hR dX10_thing_57 rfl rfl rfl (by decide) (by decide) (by decide) rfl rfl ?_
        refine mr_iload_n (pc' := 61) dX10_thing_60 rfl rfl ?_
        obtain ⟨a10, g11, h12⟩ := Option.bind_eq_some_iff.mp h7
        refine mr_iald (pc' := 62) dX10_thing_61 rfl rfl rfl g11 ?_
        obtain rfl := Option.some.inj h12
        exact mr_ireturn dX10_thing_62 rfl
      rw [if_neg c9] at h7
      by_cases c13 : v2 = (1 : Int32)
      · rw [if_pos c13] at h7
        refine mr_sw_in (t := 63) (v := (1 : Int32)) dX10_thing_29 c13 rfl ?_
        refine mr_aload_n (pc' := 64) dX10_thing_63 rfl rfl ?_
        refine mr_getR (pc' := 67) (ci := 0) (j := 1) (b := 13) hR dX10_thing_64 rfl rfl rfl (by decide) (by decide) (by decide) rfl rfl ?_
        refine mr_iload_n (pc' := 68) dX10_thing_67 rfl rfl ?_
        obtain ⟨a14, g15, h16⟩ := Option.bind_eq_some_iff.mp h7
        refine mr_iald (pc' := 69) dX10_thing_68 rfl rfl rfl g15 ?_
        obtain rfl := Option.some.inj h16
        exact mr_ireturn dX10_thing_69 rfl
      rw [if_neg c13] at h7
      by_cases c17 : v2 = (2 : Int32)
      · rw [if_pos c17] at h7
        refine mr_sw_in (t := 70) (v := (2 : Int32)) dX10_thing_29 c17 rfl ?_
        refine mr_aload_n (pc' := 71) dX10_thing_70 rfl rfl ?_
        refine mr_getR (pc' := 74) (ci := 0) (j := 2) (b := 14) hR dX10_thing_71 rfl rfl rfl (by decide) (by decide) (by decide) rfl rfl ?_
        refine mr_iload_n (pc' := 75) dX10_thing_74 rfl rfl ?_
        obtain ⟨a18, g19, h20⟩ := Option.bind_eq_some_iff.mp h7
        refine mr_iald (pc' := 76) dX10_thing_75 rfl rfl rfl g19 ?_
        obtain rfl := Option.some.inj h20
        exact mr_ireturn dX10_thing_76 rfl
      rw [if_neg c17] at h7
      refine mr_sw_out (t := 77) dX10_thing_29 (by have := i32ne c9 (k := 0) (by decide); have := i32ne c13 (k := 1) (by decide); have := i32ne c17 (k := 2) (by decide); omega) (by decide) ?_
      refine mr_aload_n (pc' := 78) dX10_thing_77 rfl rfl ?_
      refine mr_getR (pc' := 81) (ci := 0) (j := 3) (b := 15) hR dX10_thing_78 rfl rfl rfl (by decide) (by decide) (by decide) rfl rfl ?_
      refine mr_iload_n (pc' := 82) dX10_thing_81 rfl rfl ?_
      obtain ⟨a21, g22, h23⟩ := Option.bind_eq_some_iff.mp h7
      refine mr_iald (pc' := 83) dX10_thing_82 rfl rfl rfl g22 ?_
      obtain rfl := Option.some.inj h23
      exact mr_ireturn dX10_thing_83 rfl
