def f_X11_isToHere  (S : fS) : Option (Int32 × fS) :=
  (f_X11_passWord  S).bind fun q1 =>
  (f_X11_numberHere (0 : Int32) (9 : Int32) q1).bind fun q4 =>
  if q4.1 = (0 : Int32) then (some ((0 : Int32), q4.2)) else
  ((gI q4.2 150 6 (q4.2.1 145 16)).bind fun a8 =>
  (sI q4.2 149 216 (((36 : Int32) * (q4.2.1 145 16)) + ((3 : Int32) * a8)) (q4.2.1 145 15)).bind fun S11 =>
  (sI S11 149 216 ((((36 : Int32) * (q4.2.1 145 16)) + ((3 : Int32) * a8)) + (1 : Int32)) (-1 : Int32)).bind fun S14 =>
  (f_X11_takesWord (26982 : Int64) S14).bind fun q17 =>
  if q17.1 = (0 : Int32) then ((gI q17.2 148 7 (q17.2.1 145 16)).bind fun a21 =>
  (sI q17.2 149 216 ((((36 : Int32) * (q4.2.1 145 16)) + ((3 : Int32) * a8)) + (2 : Int32)) a21).bind fun S24 =>
  (gI S24 150 6 (S24.1 145 16)).bind fun a27 =>
  (sI S24 150 6 (S24.1 145 16) (a27 + (1 : Int32))).bind fun S30 =>
  some ((1 : Int32), S30)) else
  ((gI q17.2 148 7 (q17.2.1 145 16)).bind fun a33 =>
  (sI q17.2 149 216 ((((36 : Int32) * (q4.2.1 145 16)) + ((3 : Int32) * a8)) + (1 : Int32)) a33).bind fun S36 =>
  (f_X11_tested  S36).bind fun q39 =>
  if q39.1 = (0 : Int32) then (some ((0 : Int32), q39.2)) else
  ((gI q39.2 148 7 (q39.2.1 145 16)).bind fun a43 =>
  (sI q39.2 149 216 ((((36 : Int32) * (q4.2.1 145 16)) + ((3 : Int32) * a8)) + (2 : Int32)) a43).bind fun S46 =>
  (gI S46 150 6 (S46.1 145 16)).bind fun a49 =>
  (sI S46 150 6 (S46.1 145 16) (a49 + (1 : Int32))).bind fun S52 =>
  some ((1 : Int32), S52))))
set_option maxHeartbeats 4000000 in
set_option maxRecDepth 100000 in
theorem ok_X11_isToHere {X : mm_C} {RR : Nat → Nat → Option Nat} (hR : RRok RR)   {S : fS} {r : Int32 × fS} (h : f_X11_isToHere  S = some r) : mr X 9 mY_X11_isToHere 0 (lv_args 0 [.ref 145]) [] (MM RR S) (some (.int r.1), MM RR r.2) := by
  unfold f_X11_isToHere at h
  show mr X _ _ 0 [(0, .ref 145)] [] (MM RR S) _
  refine mr_aload_n (pc' := 1) dX11_isToHere_0 rfl rfl ?_
  obtain ⟨q1, g2, h3⟩ := Option.bind_eq_some_iff.mp h
  refine mr_cv (pc' := 4) (a := 145) (d1 := 1) dX11_isToHere_1 rfl rfl rfl rfl rfl rfl (by decide) rfl (by decide) (ok_X11_passWord hR  g2) ?_
  show mr X _ _ 4 _ [] (MM RR q1) _
  refine mr_aload_n (pc' := 5) dX11_isToHere_4 rfl rfl ?_
  refine mr_iconst (pc' := 6) (v := (0 : Int32)) dX11_isToHere_5 rfl (by decide) ?_
  refine mr_bipush (pc' := 8) (v := (9 : Int32)) dX11_isToHere_6 rfl (by decide) ?_
  obtain ⟨q4, g5, h6⟩ := Option.bind_eq_some_iff.mp h3
  refine mr_cv (pc' := 11) (a := 145) (d1 := 1) dX11_isToHere_8 rfl rfl rfl rfl rfl rfl (by decide) rfl (by decide) (ok_X11_numberHere hR  g5) ?_
  show mr X _ _ 11 _ [.int q4.1] (MM RR q4.2) _
  by_cases c7 : q4.1 = (0 : Int32)
  · rw [if_pos c7] at h6
    refine mr_if_ne_f (t := 16) (pc' := 14) dX11_isToHere_11 (by decide) rfl (not_not_intro c7) ?_
    refine mr_iconst (pc' := 15) (v := (0 : Int32)) dX11_isToHere_14 rfl (by decide) ?_
    obtain rfl := Option.some.inj h6
    exact mr_zreturn dX11_isToHere_15 rfl (by decide)
  · rw [if_neg c7] at h6
    refine mr_if_ne_t (t := 16) dX11_isToHere_11 (by decide) c7 ?_
    refine mr_bipush (pc' := 18) (v := (36 : Int32)) dX11_isToHere_16 rfl (by decide) ?_
    refine mr_aload_n (pc' := 19) dX11_isToHere_18 rfl rfl ?_
    refine mr_getI (pc' := 22) (ci := 11) (j := 16) dX11_isToHere_19 rfl rfl rfl (by decide) (by decide) rfl ?_
    refine mr_imul (pc' := 23) dX11_isToHere_22 rfl ?_
    refine mr_iconst (pc' := 24) (v := (3 : Int32)) dX11_isToHere_23 rfl (by decide) ?_
    refine mr_aload_n (pc' := 25) dX11_isToHere_24 rfl rfl ?_
    refine mr_getR (pc' := 28) (ci := 11) (j := 6) (b := 150) hR dX11_isToHere_25 rfl rfl rfl (by decide) (by decide) (by decide) rfl rfl ?_
    refine mr_aload_n (pc' := 29) dX11_isToHere_28 rfl rfl ?_
    refine mr_getI (pc' := 32) (ci := 11) (j := 16) dX11_isToHere_29 rfl rfl rfl (by decide) (by decide) rfl ?_
    obtain ⟨a8, g9, h10⟩ := Option.bind_eq_some_iff.mp h6
    refine mr_iald (pc' := 33) dX11_isToHere_32 rfl rfl rfl g9 ?_
    refine mr_imul (pc' := 34) dX11_isToHere_33 rfl ?_
    refine mr_iadd (pc' := 35) dX11_isToHere_34 rfl ?_
    refine mr_istore_n (pc' := 36) (lv' := [(1, .int (((36 : Int32) * (q4.2.1 145 16)) + ((3 : Int32) * a8))), (0, .ref 145)]) dX11_isToHere_35 rfl (by decide) rfl ?_
    refine mr_aload_n (pc' := 37) dX11_isToHere_36 rfl rfl ?_
    refine mr_getR (pc' := 40) (ci := 11) (j := 5) (b := 149) hR dX11_isToHere_37 rfl rfl rfl (by decide) (by decide) (by decide) rfl rfl ?_
    refine mr_iload_n (pc' := 41) dX11_isToHere_40 rfl rfl ?_
    refine mr_aload_n (pc' := 42) dX11_isToHere_41 rfl rfl ?_
    refine mr_getI (pc' := 45) (ci := 11) (j := 15) dX11_isToHere_42 rfl rfl rfl (by decide) (by decide) rfl ?_
    obtain ⟨S11, g12, h13⟩ := Option.bind_eq_some_iff.mp h10
    refine mr_iast (pc' := 46) dX11_isToHere_45 rfl rfl rfl g12 ?_
    refine mr_aload_n (pc' := 47) dX11_isToHere_46 rfl rfl ?_
    refine mr_getR (pc' := 50) (ci := 11) (j := 5) (b := 149) hR dX11_isToHere_47 rfl rfl rfl (by decide) (by decide) (by decide) rfl rfl ?_
    refine mr_iload_n (pc' := 51) dX11_isToHere_50 rfl rfl ?_
    refine mr_iconst (pc' := 52) (v := (1 : Int32)) dX11_isToHere_51 rfl (by decide) ?_
    refine mr_iadd (pc' := 53) dX11_isToHere_52 rfl ?_
    refine mr_iconst (pc' := 54) (v := (-1 : Int32)) dX11_isToHere_53 rfl (by decide) ?_
    obtain ⟨S14, g15, h16⟩ := Option.bind_eq_some_iff.mp h13
    refine mr_iast (pc' := 55) dX11_isToHere_54 rfl rfl rfl g15 ?_
    refine mr_aload_n (pc' := 56) dX11_isToHere_55 rfl rfl ?_
    refine mr_ldc2 (pc' := 59) (v := (26982 : Int64)) dX11_isToHere_56 rfl rfl ?_
    obtain ⟨q17, g18, h19⟩ := Option.bind_eq_some_iff.mp h16
    refine mr_cv (pc' := 62) (a := 145) (d1 := 2) dX11_isToHere_59 rfl rfl rfl rfl rfl rfl (by decide) rfl (by decide) (ok_X11_takesWord hR  g18) ?_
    show mr X _ _ 62 _ [.int q17.1] (MM RR q17.2) _
    by_cases c20 : q17.1 = (0 : Int32)
    · rw [if_pos c20] at h19
      refine mr_if_eq_t (t := 91) dX11_isToHere_62 (by decide) c20 ?_
      refine mr_aload_n (pc' := 92) dX11_isToHere_91 rfl rfl ?_
      refine mr_getR (pc' := 95) (ci := 11) (j := 5) (b := 149) hR dX11_isToHere_92 rfl rfl rfl (by decide) (by decide) (by decide) rfl rfl ?_
      refine mr_iload_n (pc' := 96) dX11_isToHere_95 rfl rfl ?_
      refine mr_iconst (pc' := 97) (v := (2 : Int32)) dX11_isToHere_96 rfl (by decide) ?_
      refine mr_iadd (pc' := 98) dX11_isToHere_97 rfl ?_
      refine mr_aload_n (pc' := 99) dX11_isToHere_98 rfl rfl ?_
      refine mr_getR (pc' := 102) (ci := 11) (j := 4) (b := 148) hR dX11_isToHere_99 rfl rfl rfl (by decide) (by decide) (by decide) rfl rfl ?_
      refine mr_aload_n (pc' := 103) dX11_isToHere_102 rfl rfl ?_
      refine mr_getI (pc' := 106) (ci := 11) (j := 16) dX11_isToHere_103 rfl rfl rfl (by decide) (by decide) rfl ?_
      obtain ⟨a21, g22, h23⟩ := Option.bind_eq_some_iff.mp h19
      refine mr_iald (pc' := 107) dX11_isToHere_106 rfl rfl rfl g22 ?_
      obtain ⟨S24, g25, h26⟩ := Option.bind_eq_some_iff.mp h23
      refine mr_iast (pc' := 108) dX11_isToHere_107 rfl rfl rfl g25 ?_
      refine mr_aload_n (pc' := 109) dX11_isToHere_108 rfl rfl ?_
      refine mr_getR (pc' := 112) (ci := 11) (j := 6) (b := 150) hR dX11_isToHere_109 rfl rfl rfl (by decide) (by decide) (by decide) rfl rfl ?_
      refine mr_aload_n (pc' := 113) dX11_isToHere_112 rfl rfl ?_
      refine mr_getI (pc' := 116) (ci := 11) (j := 16) dX11_isToHere_113 rfl rfl rfl (by decide) (by decide) rfl ?_
      refine mr_dup2 (pc' := 117) dX11_isToHere_116 rfl ?_
      obtain ⟨a27, g28, h29⟩ := Option.bind_eq_some_iff.mp h26
      refine mr_iald (pc' := 118) dX11_isToHere_117 rfl rfl rfl g28 ?_
      refine mr_iconst (pc' := 119) (v := (1 : Int32)) dX11_isToHere_118 rfl (by decide) ?_
      refine mr_iadd (pc' := 120) dX11_isToHere_119 rfl ?_
      obtain ⟨S30, g31, h32⟩ := Option.bind_eq_some_iff.mp h29
      refine mr_iast (pc' := 121) dX11_isToHere_120 rfl rfl rfl g31 ?_
      refine mr_iconst (pc' := 122) (v := (1 : Int32)) dX11_isToHere_121 rfl (by decide) ?_
      obtain rfl := Option.some.inj h32
      exact mr_zreturn dX11_isToHere_122 rfl (by decide)
    · rw [if_neg c20] at h19
      refine mr_if_eq_f (t := 91) (pc' := 65) dX11_isToHere_62 (by decide) rfl c20 ?_
      refine mr_aload_n (pc' := 66) dX11_isToHere_65 rfl rfl ?_
      refine mr_getR (pc' := 69) (ci := 11) (j := 5) (b := 149) hR dX11_isToHere_66 rfl rfl rfl (by decide) (by decide) (by decide) rfl rfl ?_
      refine mr_iload_n (pc' := 70) dX11_isToHere_69 rfl rfl ?_
      refine mr_iconst (pc' := 71) (v := (1 : Int32)) dX11_isToHere_70 rfl (by decide) ?_
      refine mr_iadd (pc' := 72) dX11_isToHere_71 rfl ?_
      refine mr_aload_n (pc' := 73) dX11_isToHere_72 rfl rfl ?_
      refine mr_getR (pc' := 76) (ci := 11) (j := 4) (b := 148) hR dX11_isToHere_73 rfl rfl rfl (by decide) (by decide) (by decide) rfl rfl ?_
      refine mr_aload_n (pc' := 77) dX11_isToHere_76 rfl rfl ?_
      refine mr_getI (pc' := 80) (ci := 11) (j := 16) dX11_isToHere_77 rfl rfl rfl (by decide) (by decide) rfl ?_
      obtain ⟨a33, g34, h35⟩ := Option.bind_eq_some_iff.mp h19
      refine mr_iald (pc' := 81) dX11_isToHere_80 rfl rfl rfl g34 ?_
      obtain ⟨S36, g37, h38⟩ := Option.bind_eq_some_iff.mp h35
      refine mr_iast (pc' := 82) dX11_isToHere_81 rfl rfl rfl g37 ?_
      refine mr_aload_n (pc' := 83) dX11_isToHere_82 rfl rfl ?_
      obtain ⟨q39, g40, h41⟩ := Option.bind_eq_some_iff.mp h38
      refine mr_cv (pc' := 86) (a := 145) (d1 := 8) dX11_isToHere_83 rfl rfl rfl rfl rfl rfl (by decide) rfl (by decide) (ok_X11_tested hR  g40) ?_
      show mr X _ _ 86 _ [.int q39.1] (MM RR q39.2) _
      by_cases c42 : q39.1 = (0 : Int32)
      · rw [if_pos c42] at h41
        refine mr_if_ne_f (t := 91) (pc' := 89) dX11_isToHere_86 (by decide) rfl (not_not_intro c42) ?_
        refine mr_iconst (pc' := 90) (v := (0 : Int32)) dX11_isToHere_89 rfl (by decide) ?_
        obtain rfl := Option.some.inj h41
        exact mr_zreturn dX11_isToHere_90 rfl (by decide)
      · rw [if_neg c42] at h41
        refine mr_if_ne_t (t := 91) dX11_isToHere_86 (by decide) c42 ?_
        refine mr_aload_n (pc' := 92) dX11_isToHere_91 rfl rfl ?_
        refine mr_getR (pc' := 95) (ci := 11) (j := 5) (b := 149) hR dX11_isToHere_92 rfl rfl rfl (by decide) (by decide) (by decide) rfl rfl ?_
        refine mr_iload_n (pc' := 96) dX11_isToHere_95 rfl rfl ?_
        refine mr_iconst (pc' := 97) (v := (2 : Int32)) dX11_isToHere_96 rfl (by decide) ?_
        refine mr_iadd (pc' := 98) dX11_isToHere_97 rfl ?_
        refine mr_aload_n (pc' := 99) dX11_isToHere_98 rfl rfl ?_
        refine mr_getR (pc' := 102) (ci := 11) (j := 4) (b := 148) hR dX11_isToHere_99 rfl rfl rfl (by decide) (by decide) (by decide) rfl rfl ?_
        refine mr_aload_n (pc' := 103) dX11_isToHere_102 rfl rfl ?_
        refine mr_getI (pc' := 106) (ci := 11) (j := 16) dX11_isToHere_103 rfl rfl rfl (by decide) (by decide) rfl ?_
        obtain ⟨a43, g44, h45⟩ := Option.bind_eq_some_iff.mp h41
        refine mr_iald (pc' := 107) dX11_isToHere_106 rfl rfl rfl g44 ?_
        obtain ⟨S46, g47, h48⟩ := Option.bind_eq_some_iff.mp h45
        refine mr_iast (pc' := 108) dX11_isToHere_107 rfl rfl rfl g47 ?_
        refine mr_aload_n (pc' := 109) dX11_isToHere_108 rfl rfl ?_
        refine mr_getR (pc' := 112) (ci := 11) (j := 6) (b := 150) hR dX11_isToHere_109 rfl rfl rfl (by decide) (by decide) (by decide) rfl rfl ?_
        refine mr_aload_n (pc' := 113) dX11_isToHere_112 rfl rfl ?_
        refine mr_getI (pc' := 116) (ci := 11) (j := 16) dX11_isToHere_113 rfl rfl rfl (by decide) (by decide) rfl ?_
        refine mr_dup2 (pc' := 117) dX11_isToHere_116 rfl ?_
        obtain ⟨a49, g50, h51⟩ := Option.bind_eq_some_iff.mp h48
        refine mr_iald (pc' := 118) dX11_isToHere_117 rfl rfl rfl g50 ?_
        refine mr_iconst (pc' := 119) (v := (1 : Int32)) dX11_isToHere_118 rfl (by decide) ?_
        refine mr_iadd (pc' := 120) dX11_isToHere_119 rfl ?_
        obtain ⟨S52, g53, h54⟩ := Option.bind_eq_some_iff.mp h51
        refine mr_iast (pc' := 121) dX11_isToHere_120 rfl rfl rfl g53 ?_
        refine mr_iconst (pc' := 122) (v := (1 : Int32)) dX11_isToHere_121 rfl (by decide) ?_
        obtain rfl := Option.some.inj h54
        exact mr_zreturn dX11_isToHere_122 rfl (by decide)
def lp_X11_isFloorHere_22  (K : fS → Option (Int32 × fS)) : Nat → Int32 → fS → Option (Int32 × fS)
  | 0, _, _ => none
  | n + 1, p2, S0 =>
    if (2 : Int32) ≤ p2 then (K S0) else
    ((f_X11_numberHere (1 : Int32) (20 : Int32) S0).bind fun q6 =>
    if q6.1 = (0 : Int32) then (some ((0 : Int32), q6.2)) else
    ((sI q6.2 151 20 (((2 : Int32) * (q6.2.1 145 7)) + p2) (q6.2.1 145 15)).bind fun S10 =>
    lp_X11_isFloorHere_22  K n (p2 + (1 : Int32)) S10))
set_option maxHeartbeats 4000000 in
set_option maxRecDepth 100000 in
theorem ok_lp_X11_isFloorHere_22 {X : mm_C} {RR : Nat → Nat → Option Nat} (hR : RRok RR)   {K : fS → Option (Int32 × fS)} {r : Int32 × fS} (hK : ∀ (Sk : fS), K Sk = some r → mr X 2 mY_X11_isFloorHere 62 [(0, .ref 145)] [] (MM RR Sk) (some (.int r.1), MM RR r.2)) : ∀ (n : Nat) (p2 : Int32) (S0 : fS), lp_X11_isFloorHere_22  K n p2 S0 = some r → mr X 2 mY_X11_isFloorHere 22 [(0, .ref 145), (2, .int p2)] [] (MM RR S0) (some (.int r.1), MM RR r.2) := by
  intro n
  induction n with
  | zero => intro p2 S0 h; exact mm_no h
  | succ n ih =>
    intro p2 S0 h
    unfold lp_X11_isFloorHere_22 at h
    refine mr_iload_n (pc' := 23) dX11_isFloorHere_22 rfl rfl ?_
    refine mr_iconst (pc' := 24) (v := (2 : Int32)) dX11_isFloorHere_23 rfl (by decide) ?_
    by_cases c5 : (2 : Int32) ≤ p2
    · rw [if_pos c5] at h
      refine mr_icmp_ge_t (t := 62) dX11_isFloorHere_24 (by decide) c5 ?_
      exact mr_sub [(0, .ref 145)] ⟨rfl, trivial⟩ rfl (hK _  h)
    · rw [if_neg c5] at h
      refine mr_icmp_ge_f (t := 62) (pc' := 27) dX11_isFloorHere_24 (by decide) rfl c5 ?_
      refine mr_aload_n (pc' := 28) dX11_isFloorHere_27 rfl rfl ?_
      refine mr_iconst (pc' := 29) (v := (1 : Int32)) dX11_isFloorHere_28 rfl (by decide) ?_
      refine mr_bipush (pc' := 31) (v := (20 : Int32)) dX11_isFloorHere_29 rfl (by decide) ?_
      obtain ⟨q6, g7, h8⟩ := Option.bind_eq_some_iff.mp h
      refine mr_cv (pc' := 34) (a := 145) (d1 := 1) dX11_isFloorHere_31 rfl rfl rfl rfl rfl rfl (by decide) rfl (by decide) (ok_X11_numberHere hR  g7) ?_
      show mr X _ _ 34 _ [.int q6.1] (MM RR q6.2) _
      by_cases c9 : q6.1 = (0 : Int32)
      · rw [if_pos c9] at h8
        refine mr_if_ne_f (t := 39) (pc' := 37) dX11_isFloorHere_34 (by decide) rfl (not_not_intro c9) ?_
        refine mr_iconst (pc' := 38) (v := (0 : Int32)) dX11_isFloorHere_37 rfl (by decide) ?_
        obtain rfl := Option.some.inj h8
        exact mr_zreturn dX11_isFloorHere_38 rfl (by decide)
      · rw [if_neg c9] at h8
        refine mr_if_ne_t (t := 39) dX11_isFloorHere_34 (by decide) c9 ?_
        refine mr_aload_n (pc' := 40) dX11_isFloorHere_39 rfl rfl ?_
        refine mr_getR (pc' := 43) (ci := 11) (j := 10) (b := 151) hR dX11_isFloorHere_40 rfl rfl rfl (by decide) (by decide) (by decide) rfl rfl ?_
        refine mr_iconst (pc' := 44) (v := (2 : Int32)) dX11_isFloorHere_43 rfl (by decide) ?_
        refine mr_aload_n (pc' := 45) dX11_isFloorHere_44 rfl rfl ?_
        refine mr_getI (pc' := 48) (ci := 11) (j := 7) dX11_isFloorHere_45 rfl rfl rfl (by decide) (by decide) rfl ?_
        refine mr_imul (pc' := 49) dX11_isFloorHere_48 rfl ?_
        refine mr_iload_n (pc' := 50) dX11_isFloorHere_49 rfl rfl ?_
        refine mr_iadd (pc' := 51) dX11_isFloorHere_50 rfl ?_
        refine mr_aload_n (pc' := 52) dX11_isFloorHere_51 rfl rfl ?_
        refine mr_getI (pc' := 55) (ci := 11) (j := 15) dX11_isFloorHere_52 rfl rfl rfl (by decide) (by decide) rfl ?_
        obtain ⟨S10, g11, h12⟩ := Option.bind_eq_some_iff.mp h8
        refine mr_iast (pc' := 56) dX11_isFloorHere_55 rfl rfl rfl g11 ?_
        refine mr_iinc (pc' := 59) (x' := (p2 + (1 : Int32))) (lv' := [(2, .int (p2 + (1 : Int32))), (0, .ref 145)]) dX11_isFloorHere_56 rfl (by decide) rfl rfl rfl ?_
        refine mr_goto (t := 22) dX11_isFloorHere_59 (by decide) ?_
        exact mr_sub [(0, .ref 145), (2, .int (p2 + (1 : Int32)))] ⟨rfl, rfl, trivial⟩ rfl (ih _ _  h12)
def f_X11_isFloorHere (v1 : Int32) (S : fS) : Option (Int32 × fS) :=
  if (S.1 145 7) = (10 : Int32) then ((f_X11_fails (4 : Int32) v1 S).bind fun q18 =>
  (bZ q18.1).bind fun z21 => some (z21, q18.2)) else
  ((f_X11_passWord  S).bind fun q2 =>
  lp_X11_isFloorHere_22  (fun S13 => (some (pI S13 145 7 ((S13.1 145 7) + (1 : Int32)))).bind fun S15 =>
  some ((1 : Int32), S15)) FU (0 : Int32) q2)
set_option maxHeartbeats 4000000 in
set_option maxRecDepth 100000 in
theorem ok_X11_isFloorHere {X : mm_C} {RR : Nat → Nat → Option Nat} (hR : RRok RR) {v1 : Int32}  {S : fS} {r : Int32 × fS} (h : f_X11_isFloorHere v1 S = some r) : mr X 2 mY_X11_isFloorHere 0 (lv_args 0 [.ref 145, .int v1]) [] (MM RR S) (some (.int r.1), MM RR r.2) := by
  unfold f_X11_isFloorHere at h
  show mr X _ _ 0 [(0, .ref 145), (1, .int v1)] [] (MM RR S) _
  refine mr_aload_n (pc' := 1) dX11_isFloorHere_0 rfl rfl ?_
  refine mr_getI (pc' := 4) (ci := 11) (j := 7) dX11_isFloorHere_1 rfl rfl rfl (by decide) (by decide) rfl ?_
  refine mr_bipush (pc' := 6) (v := (10 : Int32)) dX11_isFloorHere_4 rfl (by decide) ?_
  by_cases c1 : (S.1 145 7) = (10 : Int32)
  · rw [if_pos c1] at h
    refine mr_icmp_ne_f (t := 16) (pc' := 9) dX11_isFloorHere_6 (by decide) rfl (not_not_intro c1) ?_
    refine mr_aload_n (pc' := 10) dX11_isFloorHere_9 rfl rfl ?_
    refine mr_iconst (pc' := 11) (v := (4 : Int32)) dX11_isFloorHere_10 rfl (by decide) ?_
    refine mr_iload_n (pc' := 12) dX11_isFloorHere_11 rfl rfl ?_
    obtain ⟨q18, g19, h20⟩ := Option.bind_eq_some_iff.mp h
    refine mr_cv (pc' := 15) (a := 145) (d1 := 0) dX11_isFloorHere_12 rfl rfl rfl rfl rfl rfl (by decide) rfl (by decide) (ok_X11_fails hR  g19) ?_
    show mr X _ _ 15 _ [.int q18.1] (MM RR q18.2) _
    obtain ⟨z21, g22, h23⟩ := Option.bind_eq_some_iff.mp h20
    obtain ⟨g24, e25⟩ := mm_ifs g22
    cases e25
    cases h23
    exact mr_zreturn dX11_isFloorHere_15 rfl g24
  · rw [if_neg c1] at h
    refine mr_icmp_ne_t (t := 16) dX11_isFloorHere_6 (by decide) c1 ?_
    refine mr_aload_n (pc' := 17) dX11_isFloorHere_16 rfl rfl ?_
    obtain ⟨q2, g3, h4⟩ := Option.bind_eq_some_iff.mp h
    refine mr_cv (pc' := 20) (a := 145) (d1 := 1) dX11_isFloorHere_17 rfl rfl rfl rfl rfl rfl (by decide) rfl (by decide) (ok_X11_passWord hR  g3) ?_
    show mr X _ _ 20 _ [] (MM RR q2) _
    refine mr_iconst (pc' := 21) (v := (0 : Int32)) dX11_isFloorHere_20 rfl (by decide) ?_
    refine mr_istore_n (pc' := 22) (lv' := [(2, .int (0 : Int32)), (0, .ref 145), (1, .int v1)]) dX11_isFloorHere_21 rfl (by decide) rfl ?_
    refine mr_sub [(0, .ref 145), (2, .int (0 : Int32))] ⟨rfl, rfl, trivial⟩ rfl ?_
    refine ok_lp_X11_isFloorHere_22 hR  (fun S13 h14 => ?_) FU _ _  h4
    refine mr_aload_n (pc' := 63) dX11_isFloorHere_62 rfl rfl ?_
    refine mr_dup_ref (pc' := 64) dX11_isFloorHere_63 rfl ?_
    refine mr_getI (pc' := 67) (ci := 11) (j := 7) dX11_isFloorHere_64 rfl rfl rfl (by decide) (by decide) rfl ?_
    refine mr_iconst (pc' := 68) (v := (1 : Int32)) dX11_isFloorHere_67 rfl (by decide) ?_
    refine mr_iadd (pc' := 69) dX11_isFloorHere_68 rfl ?_
    obtain ⟨S15, g16, h17⟩ := Option.bind_eq_some_iff.mp h14
    refine mr_putI (pc' := 72) (ci := 11) (j := 7) dX11_isFloorHere_69 rfl rfl rfl (by decide) (by decide) rfl rfl ?_
    rw [Option.some.inj g16]
    refine mr_iconst (pc' := 73) (v := (1 : Int32)) dX11_isFloorHere_72 rfl (by decide) ?_
    obtain rfl := Option.some.inj h17
    exact mr_zreturn dX11_isFloorHere_73 rfl (by decide)
def lp_X11_isStairHere_114 (p2 : Int32) (K : fS → Option (Int32 × fS)) : Nat → Int32 → fS → Option (Int32 × fS)
  | 0, _, _ => none
  | n + 1, p4, S0 =>
    if (5 : Int32) ≤ p4 then (K S0) else
    (if p4 = (2 : Int32) then ((f_X11_numberHere (1 : Int32) (9 : Int32) S0).bind fun q35 =>
    if q35.1 = (0 : Int32) then (some ((0 : Int32), q35.2)) else
    ((sI q35.2 152 60 (p2 + p4) (q35.2.1 145 15)).bind fun S39 =>
    lp_X11_isStairHere_114 p2 K n (p4 + (1 : Int32)) S39)) else
    ((f_X11_numberHere (1 : Int32) (20 : Int32) S0).bind fun q28 =>
    if q28.1 = (0 : Int32) then (some ((0 : Int32), q28.2)) else
    ((sI q28.2 152 60 (p2 + p4) (q28.2.1 145 15)).bind fun S32 =>
    lp_X11_isStairHere_114 p2 K n (p4 + (1 : Int32)) S32)))
set_option maxHeartbeats 4000000 in
set_option maxRecDepth 100000 in
theorem ok_lp_X11_isStairHere_114 {X : mm_C} {RR : Nat → Nat → Option Nat} (hR : RRok RR) {p2 : Int32}  {K : fS → Option (Int32 × fS)} {r : Int32 × fS} (hK : ∀ (Sk : fS), K Sk = some r → mr X 2 mY_X11_isStairHere 162 [(0, .ref 145)] [] (MM RR Sk) (some (.int r.1), MM RR r.2)) : ∀ (n : Nat) (p4 : Int32) (S0 : fS), lp_X11_isStairHere_114 p2 K n p4 S0 = some r → mr X 2 mY_X11_isStairHere 114 [(0, .ref 145), (2, .int p2), (4, .int p4)] [] (MM RR S0) (some (.int r.1), MM RR r.2) := by
  intro n
  induction n with
  | zero => intro p4 S0 h; exact mm_no h
  | succ n ih =>
    intro p4 S0 h
    unfold lp_X11_isStairHere_114 at h
    refine mr_iload (pc' := 116) dX11_isStairHere_114 rfl rfl ?_
    refine mr_iconst (pc' := 117) (v := (5 : Int32)) dX11_isStairHere_116 rfl (by decide) ?_
    by_cases c26 : (5 : Int32) ≤ p4
    · rw [if_pos c26] at h
      refine mr_icmp_ge_t (t := 162) dX11_isStairHere_117 (by decide) c26 ?_
      exact mr_sub [(0, .ref 145)] ⟨rfl, trivial⟩ rfl (hK _  h)
    · rw [if_neg c26] at h
      refine mr_icmp_ge_f (t := 162) (pc' := 120) dX11_isStairHere_117 (by decide) rfl c26 ?_
      refine mr_aload_n (pc' := 121) dX11_isStairHere_120 rfl rfl ?_
      refine mr_iconst (pc' := 122) (v := (1 : Int32)) dX11_isStairHere_121 rfl (by decide) ?_
      refine mr_iload (pc' := 124) dX11_isStairHere_122 rfl rfl ?_
      refine mr_iconst (pc' := 125) (v := (2 : Int32)) dX11_isStairHere_124 rfl (by decide) ?_
      by_cases c27 : p4 = (2 : Int32)
      · rw [if_pos c27] at h
        refine mr_icmp_ne_f (t := 133) (pc' := 128) dX11_isStairHere_125 (by decide) rfl (not_not_intro c27) ?_
        refine mr_bipush (pc' := 130) (v := (9 : Int32)) dX11_isStairHere_128 rfl (by decide) ?_
        refine mr_goto (t := 135) dX11_isStairHere_130 (by decide) ?_
        obtain ⟨q35, g36, h37⟩ := Option.bind_eq_some_iff.mp h
        refine mr_cv (pc' := 138) (a := 145) (d1 := 1) dX11_isStairHere_135 rfl rfl rfl rfl rfl rfl (by decide) rfl (by decide) (ok_X11_numberHere hR  g36) ?_
        show mr X _ _ 138 _ [.int q35.1] (MM RR q35.2) _
        by_cases c38 : q35.1 = (0 : Int32)
        · rw [if_pos c38] at h37
          refine mr_if_ne_f (t := 143) (pc' := 141) dX11_isStairHere_138 (by decide) rfl (not_not_intro c38) ?_
          refine mr_iconst (pc' := 142) (v := (0 : Int32)) dX11_isStairHere_141 rfl (by decide) ?_
          obtain rfl := Option.some.inj h37
          exact mr_zreturn dX11_isStairHere_142 rfl (by decide)
        · rw [if_neg c38] at h37
          refine mr_if_ne_t (t := 143) dX11_isStairHere_138 (by decide) c38 ?_
          refine mr_aload_n (pc' := 144) dX11_isStairHere_143 rfl rfl ?_
          refine mr_getR (pc' := 147) (ci := 11) (j := 11) (b := 152) hR dX11_isStairHere_144 rfl rfl rfl (by decide) (by decide) (by decide) rfl rfl ?_
          refine mr_iload_n (pc' := 148) dX11_isStairHere_147 rfl rfl ?_
          refine mr_iload (pc' := 150) dX11_isStairHere_148 rfl rfl ?_
          refine mr_iadd (pc' := 151) dX11_isStairHere_150 rfl ?_
          refine mr_aload_n (pc' := 152) dX11_isStairHere_151 rfl rfl ?_
          refine mr_getI (pc' := 155) (ci := 11) (j := 15) dX11_isStairHere_152 rfl rfl rfl (by decide) (by decide) rfl ?_
          obtain ⟨S39, g40, h41⟩ := Option.bind_eq_some_iff.mp h37
          refine mr_iast (pc' := 156) dX11_isStairHere_155 rfl rfl rfl g40 ?_
          refine mr_iinc (pc' := 159) (x' := (p4 + (1 : Int32))) (lv' := [(4, .int (p4 + (1 : Int32))), (0, .ref 145), (2, .int p2)]) dX11_isStairHere_156 rfl (by decide) rfl rfl rfl ?_
          refine mr_goto (t := 114) dX11_isStairHere_159 (by decide) ?_
          exact mr_sub [(0, .ref 145), (2, .int p2), (4, .int (p4 + (1 : Int32)))] ⟨rfl, rfl, rfl, trivial⟩ rfl (ih _ _  h41)
      · rw [if_neg c27] at h
        refine mr_icmp_ne_t (t := 133) dX11_isStairHere_125 (by decide) c27 ?_
        refine mr_bipush (pc' := 135) (v := (20 : Int32)) dX11_isStairHere_133 rfl (by decide) ?_
        obtain ⟨q28, g29, h30⟩ := Option.bind_eq_some_iff.mp h
        refine mr_cv (pc' := 138) (a := 145) (d1 := 1) dX11_isStairHere_135 rfl rfl rfl rfl rfl rfl (by decide) rfl (by decide) (ok_X11_numberHere hR  g29) ?_
        show mr X _ _ 138 _ [.int q28.1] (MM RR q28.2) _
        by_cases c31 : q28.1 = (0 : Int32)
        · rw [if_pos c31] at h30
          refine mr_if_ne_f (t := 143) (pc' := 141) dX11_isStairHere_138 (by decide) rfl (not_not_intro c31) ?_
          refine mr_iconst (pc' := 142) (v := (0 : Int32)) dX11_isStairHere_141 rfl (by decide) ?_
          obtain rfl := Option.some.inj h30
          exact mr_zreturn dX11_isStairHere_142 rfl (by decide)
        · rw [if_neg c31] at h30
          refine mr_if_ne_t (t := 143) dX11_isStairHere_138 (by decide) c31 ?_
          refine mr_aload_n (pc' := 144) dX11_isStairHere_143 rfl rfl ?_
          refine mr_getR (pc' := 147) (ci := 11) (j := 11) (b := 152) hR dX11_isStairHere_144 rfl rfl rfl (by decide) (by decide) (by decide) rfl rfl ?_
          refine mr_iload_n (pc' := 148) dX11_isStairHere_147 rfl rfl ?_
          refine mr_iload (pc' := 150) dX11_isStairHere_148 rfl rfl ?_
          refine mr_iadd (pc' := 151) dX11_isStairHere_150 rfl ?_
          refine mr_aload_n (pc' := 152) dX11_isStairHere_151 rfl rfl ?_
          refine mr_getI (pc' := 155) (ci := 11) (j := 15) dX11_isStairHere_152 rfl rfl rfl (by decide) (by decide) rfl ?_
          obtain ⟨S32, g33, h34⟩ := Option.bind_eq_some_iff.mp h30
          refine mr_iast (pc' := 156) dX11_isStairHere_155 rfl rfl rfl g33 ?_
          refine mr_iinc (pc' := 159) (x' := (p4 + (1 : Int32))) (lv' := [(4, .int (p4 + (1 : Int32))), (0, .ref 145), (2, .int p2)]) dX11_isStairHere_156 rfl (by decide) rfl rfl rfl ?_
          refine mr_goto (t := 114) dX11_isStairHere_159 (by decide) ?_
          exact mr_sub [(0, .ref 145), (2, .int p2), (4, .int (p4 + (1 : Int32)))] ⟨rfl, rfl, rfl, trivial⟩ rfl (ih _ _  h34)
def f_X11_isStairHere (v1 : Int32) (S : fS) : Option (Int32 × fS) :=
  if (S.1 145 8) = (12 : Int32) then ((f_X11_fails (4 : Int32) v1 S).bind fun q55 =>
  (bZ q55.1).bind fun z58 => some (z58, q55.2)) else
  ((f_X11_passWord  S).bind fun q2 =>
  (f_X11_numberHere (0 : Int32) ((q2.1 145 7) - (1 : Int32)) q2).bind fun q5 =>
  if q5.1 = (0 : Int32) then (some ((0 : Int32), q5.2)) else
  ((sI q5.2 152 60 ((5 : Int32) * (q2.1 145 8)) (q5.2.1 145 15)).bind fun S9 =>
  (f_X11_see  S9).bind fun q12 =>
  (f_X11_numberHere (0 : Int32) ((q12.2.1 145 7) - (1 : Int32)) q12.2).bind fun q15 =>
  if q15.1 = (0 : Int32) then (some ((0 : Int32), q15.2)) else
  ((gI q15.2 152 60 ((5 : Int32) * (q2.1 145 8))).bind fun a19 =>
  if (q15.2.1 145 15) = a19 then ((f_X11_fails (1 : Int32) (q12.2.1 145 13) q15.2).bind fun q47 =>
  (bZ q47.1).bind fun z50 => some (z50, q47.2)) else
  ((sI q15.2 152 60 (((5 : Int32) * (q2.1 145 8)) + (1 : Int32)) (q15.2.1 145 15)).bind fun S23 =>
  lp_X11_isStairHere_114 ((5 : Int32) * (q2.1 145 8)) (fun S42 => (some (pI S42 145 8 ((S42.1 145 8) + (1 : Int32)))).bind fun S44 =>
  some ((1 : Int32), S44)) FU (2 : Int32) S23))))
set_option maxHeartbeats 4000000 in
set_option maxRecDepth 100000 in
theorem ok_X11_isStairHere {X : mm_C} {RR : Nat → Nat → Option Nat} (hR : RRok RR) {v1 : Int32}  {S : fS} {r : Int32 × fS} (h : f_X11_isStairHere v1 S = some r) : mr X 2 mY_X11_isStairHere 0 (lv_args 0 [.ref 145, .int v1]) [] (MM RR S) (some (.int r.1), MM RR r.2) := by
  unfold f_X11_isStairHere at h
  show mr X _ _ 0 [(0, .ref 145), (1, .int v1)] [] (MM RR S) _
  refine mr_aload_n (pc' := 1) dX11_isStairHere_0 rfl rfl ?_
  refine mr_getI (pc' := 4) (ci := 11) (j := 8) dX11_isStairHere_1 rfl rfl rfl (by decide) (by decide) rfl ?_
  refine mr_bipush (pc' := 6) (v := (12 : Int32)) dX11_isStairHere_4 rfl (by decide) ?_
  by_cases c1 : (S.1 145 8) = (12 : Int32)
  · rw [if_pos c1] at h
    refine mr_icmp_ne_f (t := 16) (pc' := 9) dX11_isStairHere_6 (by decide) rfl (not_not_intro c1) ?_
    refine mr_aload_n (pc' := 10) dX11_isStairHere_9 rfl rfl ?_
    refine mr_iconst (pc' := 11) (v := (4 : Int32)) dX11_isStairHere_10 rfl (by decide) ?_
    refine mr_iload_n (pc' := 12) dX11_isStairHere_11 rfl rfl ?_
    obtain ⟨q55, g56, h57⟩ := Option.bind_eq_some_iff.mp h
    refine mr_cv (pc' := 15) (a := 145) (d1 := 0) dX11_isStairHere_12 rfl rfl rfl rfl rfl rfl (by decide) rfl (by decide) (ok_X11_fails hR  g56) ?_
    show mr X _ _ 15 _ [.int q55.1] (MM RR q55.2) _
    obtain ⟨z58, g59, h60⟩ := Option.bind_eq_some_iff.mp h57
    obtain ⟨g61, e62⟩ := mm_ifs g59
    cases e62
    cases h60
    exact mr_zreturn dX11_isStairHere_15 rfl g61
  · rw [if_neg c1] at h
    refine mr_icmp_ne_t (t := 16) dX11_isStairHere_6 (by decide) c1 ?_
    refine mr_aload_n (pc' := 17) dX11_isStairHere_16 rfl rfl ?_
    obtain ⟨q2, g3, h4⟩ := Option.bind_eq_some_iff.mp h
    refine mr_cv (pc' := 20) (a := 145) (d1 := 1) dX11_isStairHere_17 rfl rfl rfl rfl rfl rfl (by decide) rfl (by decide) (ok_X11_passWord hR  g3) ?_
    show mr X _ _ 20 _ [] (MM RR q2) _
    refine mr_iconst (pc' := 21) (v := (5 : Int32)) dX11_isStairHere_20 rfl (by decide) ?_
    refine mr_aload_n (pc' := 22) dX11_isStairHere_21 rfl rfl ?_
    refine mr_getI (pc' := 25) (ci := 11) (j := 8) dX11_isStairHere_22 rfl rfl rfl (by decide) (by decide) rfl ?_
    refine mr_imul (pc' := 26) dX11_isStairHere_25 rfl ?_
    refine mr_istore_n (pc' := 27) (lv' := [(2, .int ((5 : Int32) * (q2.1 145 8))), (0, .ref 145), (1, .int v1)]) dX11_isStairHere_26 rfl (by decide) rfl ?_
    refine mr_aload_n (pc' := 28) dX11_isStairHere_27 rfl rfl ?_
    refine mr_iconst (pc' := 29) (v := (0 : Int32)) dX11_isStairHere_28 rfl (by decide) ?_
    refine mr_aload_n (pc' := 30) dX11_isStairHere_29 rfl rfl ?_
    refine mr_getI (pc' := 33) (ci := 11) (j := 7) dX11_isStairHere_30 rfl rfl rfl (by decide) (by decide) rfl ?_
    refine mr_iconst (pc' := 34) (v := (1 : Int32)) dX11_isStairHere_33 rfl (by decide) ?_
    refine mr_isub (pc' := 35) dX11_isStairHere_34 rfl ?_
    obtain ⟨q5, g6, h7⟩ := Option.bind_eq_some_iff.mp h4
    refine mr_cv (pc' := 38) (a := 145) (d1 := 1) dX11_isStairHere_35 rfl rfl rfl rfl rfl rfl (by decide) rfl (by decide) (ok_X11_numberHere hR  g6) ?_
    show mr X _ _ 38 _ [.int q5.1] (MM RR q5.2) _
    by_cases c8 : q5.1 = (0 : Int32)
    · rw [if_pos c8] at h7
      refine mr_if_ne_f (t := 43) (pc' := 41) dX11_isStairHere_38 (by decide) rfl (not_not_intro c8) ?_
      refine mr_iconst (pc' := 42) (v := (0 : Int32)) dX11_isStairHere_41 rfl (by decide) ?_
      obtain rfl := Option.some.inj h7
      exact mr_zreturn dX11_isStairHere_42 rfl (by decide)
    · rw [if_neg c8] at h7
      refine mr_if_ne_t (t := 43) dX11_isStairHere_38 (by decide) c8 ?_
      refine mr_aload_n (pc' := 44) dX11_isStairHere_43 rfl rfl ?_
      refine mr_getR (pc' := 47) (ci := 11) (j := 11) (b := 152) hR dX11_isStairHere_44 rfl rfl rfl (by decide) (by decide) (by decide) rfl rfl ?_
      refine mr_iload_n (pc' := 48) dX11_isStairHere_47 rfl rfl ?_
      refine mr_aload_n (pc' := 49) dX11_isStairHere_48 rfl rfl ?_
      refine mr_getI (pc' := 52) (ci := 11) (j := 15) dX11_isStairHere_49 rfl rfl rfl (by decide) (by decide) rfl ?_
      obtain ⟨S9, g10, h11⟩ := Option.bind_eq_some_iff.mp h7
      refine mr_iast (pc' := 53) dX11_isStairHere_52 rfl rfl rfl g10 ?_
      refine mr_aload_n (pc' := 54) dX11_isStairHere_53 rfl rfl ?_
      obtain ⟨q12, g13, h14⟩ := Option.bind_eq_some_iff.mp h11
      refine mr_cv (pc' := 57) (a := 145) (d1 := 0) dX11_isStairHere_54 rfl rfl rfl rfl rfl rfl (by decide) rfl (by decide) (ok_X11_see hR  g13) ?_
      show mr X _ _ 57 _ [.int q12.1] (MM RR q12.2) _
      refine mr_pop_int (pc' := 58) dX11_isStairHere_57 rfl ?_
      refine mr_aload_n (pc' := 59) dX11_isStairHere_58 rfl rfl ?_
      refine mr_getI (pc' := 62) (ci := 11) (j := 13) dX11_isStairHere_59 rfl rfl rfl (by decide) (by decide) rfl ?_
      refine mr_istore_n (pc' := 63) (lv' := [(3, .int (q12.2.1 145 13)), (2, .int ((5 : Int32) * (q2.1 145 8))), (0, .ref 145), (1, .int v1)]) dX11_isStairHere_62 rfl (by decide) rfl ?_
      refine mr_aload_n (pc' := 64) dX11_isStairHere_63 rfl rfl ?_
      refine mr_iconst (pc' := 65) (v := (0 : Int32)) dX11_isStairHere_64 rfl (by decide) ?_
      refine mr_aload_n (pc' := 66) dX11_isStairHere_65 rfl rfl ?_
      refine mr_getI (pc' := 69) (ci := 11) (j := 7) dX11_isStairHere_66 rfl rfl rfl (by decide) (by decide) rfl ?_
      refine mr_iconst (pc' := 70) (v := (1 : Int32)) dX11_isStairHere_69 rfl (by decide) ?_
      refine mr_isub (pc' := 71) dX11_isStairHere_70 rfl ?_
      obtain ⟨q15, g16, h17⟩ := Option.bind_eq_some_iff.mp h14
      refine mr_cv (pc' := 74) (a := 145) (d1 := 1) dX11_isStairHere_71 rfl rfl rfl rfl rfl rfl (by decide) rfl (by decide) (ok_X11_numberHere hR  g16) ?_
      show mr X _ _ 74 _ [.int q15.1] (MM RR q15.2) _
      by_cases c18 : q15.1 = (0 : Int32)
      · rw [if_pos c18] at h17
        refine mr_if_ne_f (t := 79) (pc' := 77) dX11_isStairHere_74 (by decide) rfl (not_not_intro c18) ?_
        refine mr_iconst (pc' := 78) (v := (0 : Int32)) dX11_isStairHere_77 rfl (by decide) ?_
        obtain rfl := Option.some.inj h17
        exact mr_zreturn dX11_isStairHere_78 rfl (by decide)
      · rw [if_neg c18] at h17
        refine mr_if_ne_t (t := 79) dX11_isStairHere_74 (by decide) c18 ?_
        refine mr_aload_n (pc' := 80) dX11_isStairHere_79 rfl rfl ?_
        refine mr_getI (pc' := 83) (ci := 11) (j := 15) dX11_isStairHere_80 rfl rfl rfl (by decide) (by decide) rfl ?_
        refine mr_aload_n (pc' := 84) dX11_isStairHere_83 rfl rfl ?_
        refine mr_getR (pc' := 87) (ci := 11) (j := 11) (b := 152) hR dX11_isStairHere_84 rfl rfl rfl (by decide) (by decide) (by decide) rfl rfl ?_
        refine mr_iload_n (pc' := 88) dX11_isStairHere_87 rfl rfl ?_
        obtain ⟨a19, g20, h21⟩ := Option.bind_eq_some_iff.mp h17
        refine mr_iald (pc' := 89) dX11_isStairHere_88 rfl rfl rfl g20 ?_
        by_cases c22 : (q15.2.1 145 15) = a19
        · rw [if_pos c22] at h21
          refine mr_icmp_ne_f (t := 99) (pc' := 92) dX11_isStairHere_89 (by decide) rfl (not_not_intro c22) ?_
          refine mr_aload_n (pc' := 93) dX11_isStairHere_92 rfl rfl ?_
          refine mr_iconst (pc' := 94) (v := (1 : Int32)) dX11_isStairHere_93 rfl (by decide) ?_
          refine mr_iload_n (pc' := 95) dX11_isStairHere_94 rfl rfl ?_
          obtain ⟨q47, g48, h49⟩ := Option.bind_eq_some_iff.mp h21
          refine mr_cv (pc' := 98) (a := 145) (d1 := 0) dX11_isStairHere_95 rfl rfl rfl rfl rfl rfl (by decide) rfl (by decide) (ok_X11_fails hR  g48) ?_
          show mr X _ _ 98 _ [.int q47.1] (MM RR q47.2) _
          obtain ⟨z50, g51, h52⟩ := Option.bind_eq_some_iff.mp h49
          obtain ⟨g53, e54⟩ := mm_ifs g51
          cases e54
          cases h52
          exact mr_zreturn dX11_isStairHere_98 rfl g53
        · rw [if_neg c22] at h21
          refine mr_icmp_ne_t (t := 99) dX11_isStairHere_89 (by decide) c22 ?_
          refine mr_aload_n (pc' := 100) dX11_isStairHere_99 rfl rfl ?_
          refine mr_getR (pc' := 103) (ci := 11) (j := 11) (b := 152) hR dX11_isStairHere_100 rfl rfl rfl (by decide) (by decide) (by decide) rfl rfl ?_
          refine mr_iload_n (pc' := 104) dX11_isStairHere_103 rfl rfl ?_
          refine mr_iconst (pc' := 105) (v := (1 : Int32)) dX11_isStairHere_104 rfl (by decide) ?_
          refine mr_iadd (pc' := 106) dX11_isStairHere_105 rfl ?_
          refine mr_aload_n (pc' := 107) dX11_isStairHere_106 rfl rfl ?_
          refine mr_getI (pc' := 110) (ci := 11) (j := 15) dX11_isStairHere_107 rfl rfl rfl (by decide) (by decide) rfl ?_
          obtain ⟨S23, g24, h25⟩ := Option.bind_eq_some_iff.mp h21
          refine mr_iast (pc' := 111) dX11_isStairHere_110 rfl rfl rfl g24 ?_
          refine mr_iconst (pc' := 112) (v := (2 : Int32)) dX11_isStairHere_111 rfl (by decide) ?_
          refine mr_istore (pc' := 114) (lv' := [(4, .int (2 : Int32)), (3, .int (q12.2.1 145 13)), (2, .int ((5 : Int32) * (q2.1 145 8))), (0, .ref 145), (1, .int v1)]) dX11_isStairHere_112 rfl (by decide) rfl ?_
          refine mr_sub [(0, .ref 145), (2, .int ((5 : Int32) * (q2.1 145 8))), (4, .int (2 : Int32))] ⟨rfl, rfl, rfl, trivial⟩ rfl ?_
          refine ok_lp_X11_isStairHere_114 hR  (fun S42 h43 => ?_) FU _ _  h25
          refine mr_aload_n (pc' := 163) dX11_isStairHere_162 rfl rfl ?_
          refine mr_dup_ref (pc' := 164) dX11_isStairHere_163 rfl ?_
          refine mr_getI (pc' := 167) (ci := 11) (j := 8) dX11_isStairHere_164 rfl rfl rfl (by decide) (by decide) rfl ?_
          refine mr_iconst (pc' := 168) (v := (1 : Int32)) dX11_isStairHere_167 rfl (by decide) ?_
          refine mr_iadd (pc' := 169) dX11_isStairHere_168 rfl ?_
          obtain ⟨S44, g45, h46⟩ := Option.bind_eq_some_iff.mp h43
          refine mr_putI (pc' := 172) (ci := 11) (j := 8) dX11_isStairHere_169 rfl rfl rfl (by decide) (by decide) rfl rfl ?_
          rw [Option.some.inj g45]
          refine mr_iconst (pc' := 173) (v := (1 : Int32)) dX11_isStairHere_172 rfl (by decide) ?_
          obtain rfl := Option.some.inj h46
          exact mr_zreturn dX11_isStairHere_173 rfl (by decide)
def f_X11_isThingHere (v1 : Int32) (S : fS) : Option (Int32 × fS) :=
  if (S.1 145 9) = (8 : Int32) then ((f_X11_fails (4 : Int32) v1 S).bind fun q15 =>
  (bZ q15.1).bind fun z18 => some (z18, q15.2)) else
  ((f_X11_passWord  S).bind fun q2 =>
  (f_X11_numberHere (0 : Int32) ((q2.1 145 7) - (1 : Int32)) q2).bind fun q5 =>
  if q5.1 = (0 : Int32) then (some ((0 : Int32), q5.2)) else
  ((sI q5.2 153 8 (q5.2.1 145 9) (q5.2.1 145 15)).bind fun S9 =>
  (some (pI S9 145 9 ((S9.1 145 9) + (1 : Int32)))).bind fun S12 =>
  some ((1 : Int32), S12)))
set_option maxHeartbeats 4000000 in
set_option maxRecDepth 100000 in
theorem ok_X11_isThingHere {X : mm_C} {RR : Nat → Nat → Option Nat} (hR : RRok RR) {v1 : Int32}  {S : fS} {r : Int32 × fS} (h : f_X11_isThingHere v1 S = some r) : mr X 2 mY_X11_isThingHere 0 (lv_args 0 [.ref 145, .int v1]) [] (MM RR S) (some (.int r.1), MM RR r.2) := by
  unfold f_X11_isThingHere at h
  show mr X _ _ 0 [(0, .ref 145), (1, .int v1)] [] (MM RR S) _
  refine mr_aload_n (pc' := 1) dX11_isThingHere_0 rfl rfl ?_
  refine mr_getI (pc' := 4) (ci := 11) (j := 9) dX11_isThingHere_1 rfl rfl rfl (by decide) (by decide) rfl ?_
  refine mr_bipush (pc' := 6) (v := (8 : Int32)) dX11_isThingHere_4 rfl (by decide) ?_
  by_cases c1 : (S.1 145 9) = (8 : Int32)
  · rw [if_pos c1] at h
    refine mr_icmp_ne_f (t := 16) (pc' := 9) dX11_isThingHere_6 (by decide) rfl (not_not_intro c1) ?_
    refine mr_aload_n (pc' := 10) dX11_isThingHere_9 rfl rfl ?_
    refine mr_iconst (pc' := 11) (v := (4 : Int32)) dX11_isThingHere_10 rfl (by decide) ?_
    refine mr_iload_n (pc' := 12) dX11_isThingHere_11 rfl rfl ?_
    obtain ⟨q15, g16, h17⟩ := Option.bind_eq_some_iff.mp h
    refine mr_cv (pc' := 15) (a := 145) (d1 := 0) dX11_isThingHere_12 rfl rfl rfl rfl rfl rfl (by decide) rfl (by decide) (ok_X11_fails hR  g16) ?_
    show mr X _ _ 15 _ [.int q15.1] (MM RR q15.2) _
    obtain ⟨z18, g19, h20⟩ := Option.bind_eq_some_iff.mp h17
    obtain ⟨g21, e22⟩ := mm_ifs g19
    cases e22
    cases h20
    exact mr_zreturn dX11_isThingHere_15 rfl g21
  · rw [if_neg c1] at h
    refine mr_icmp_ne_t (t := 16) dX11_isThingHere_6 (by decide) c1 ?_
    refine mr_aload_n (pc' := 17) dX11_isThingHere_16 rfl rfl ?_
    obtain ⟨q2, g3, h4⟩ := Option.bind_eq_some_iff.mp h
    refine mr_cv (pc' := 20) (a := 145) (d1 := 1) dX11_isThingHere_17 rfl rfl rfl rfl rfl rfl (by decide) rfl (by decide) (ok_X11_passWord hR  g3) ?_
    show mr X _ _ 20 _ [] (MM RR q2) _
    refine mr_aload_n (pc' := 21) dX11_isThingHere_20 rfl rfl ?_
    refine mr_iconst (pc' := 22) (v := (0 : Int32)) dX11_isThingHere_21 rfl (by decide) ?_
    refine mr_aload_n (pc' := 23) dX11_isThingHere_22 rfl rfl ?_
    refine mr_getI (pc' := 26) (ci := 11) (j := 7) dX11_isThingHere_23 rfl rfl rfl (by decide) (by decide) rfl ?_
    refine mr_iconst (pc' := 27) (v := (1 : Int32)) dX11_isThingHere_26 rfl (by decide) ?_
    refine mr_isub (pc' := 28) dX11_isThingHere_27 rfl ?_
    obtain ⟨q5, g6, h7⟩ := Option.bind_eq_some_iff.mp h4
    refine mr_cv (pc' := 31) (a := 145) (d1 := 1) dX11_isThingHere_28 rfl rfl rfl rfl rfl rfl (by decide) rfl (by decide) (ok_X11_numberHere hR  g6) ?_
    show mr X _ _ 31 _ [.int q5.1] (MM RR q5.2) _
    by_cases c8 : q5.1 = (0 : Int32)
    · rw [if_pos c8] at h7
      refine mr_if_ne_f (t := 36) (pc' := 34) dX11_isThingHere_31 (by decide) rfl (not_not_intro c8) ?_
      refine mr_iconst (pc' := 35) (v := (0 : Int32)) dX11_isThingHere_34 rfl (by decide) ?_
      obtain rfl := Option.some.inj h7
      exact mr_zreturn dX11_isThingHere_35 rfl (by decide)
    · rw [if_neg c8] at h7
      refine mr_if_ne_t (t := 36) dX11_isThingHere_31 (by decide) c8 ?_
      refine mr_aload_n (pc' := 37) dX11_isThingHere_36 rfl rfl ?_
      refine mr_getR (pc' := 40) (ci := 11) (j := 12) (b := 153) hR dX11_isThingHere_37 rfl rfl rfl (by decide) (by decide) (by decide) rfl rfl ?_
      refine mr_aload_n (pc' := 41) dX11_isThingHere_40 rfl rfl ?_
      refine mr_getI (pc' := 44) (ci := 11) (j := 9) dX11_isThingHere_41 rfl rfl rfl (by decide) (by decide) rfl ?_
      refine mr_aload_n (pc' := 45) dX11_isThingHere_44 rfl rfl ?_
      refine mr_getI (pc' := 48) (ci := 11) (j := 15) dX11_isThingHere_45 rfl rfl rfl (by decide) (by decide) rfl ?_
      obtain ⟨S9, g10, h11⟩ := Option.bind_eq_some_iff.mp h7
      refine mr_iast (pc' := 49) dX11_isThingHere_48 rfl rfl rfl g10 ?_
      refine mr_aload_n (pc' := 50) dX11_isThingHere_49 rfl rfl ?_
      refine mr_dup_ref (pc' := 51) dX11_isThingHere_50 rfl ?_
      refine mr_getI (pc' := 54) (ci := 11) (j := 9) dX11_isThingHere_51 rfl rfl rfl (by decide) (by decide) rfl ?_
      refine mr_iconst (pc' := 55) (v := (1 : Int32)) dX11_isThingHere_54 rfl (by decide) ?_
      refine mr_iadd (pc' := 56) dX11_isThingHere_55 rfl ?_
      obtain ⟨S12, g13, h14⟩ := Option.bind_eq_some_iff.mp h11
      refine mr_putI (pc' := 59) (ci := 11) (j := 9) dX11_isThingHere_56 rfl rfl rfl (by decide) (by decide) rfl rfl ?_
      rw [Option.some.inj g13]
      refine mr_iconst (pc' := 60) (v := (1 : Int32)) dX11_isThingHere_59 rfl (by decide) ?_
      obtain rfl := Option.some.inj h14
      exact mr_zreturn dX11_isThingHere_60 rfl (by decide)
def j_X11_clauseHere_171  (s0 : Int32) (S : fS) : Option (Int32 × fS) :=
  (bZ s0).bind fun z27 => some (z27, S)
set_option maxHeartbeats 4000000 in
set_option maxRecDepth 100000 in
theorem ok_j_X11_clauseHere_171 {X : mm_C} {RR : Nat → Nat → Option Nat} (hR : RRok RR)  {s0 : Int32} {S : fS} {r : Int32 × fS} (h : j_X11_clauseHere_171  s0 S = some r) : mr X 10 mY_X11_clauseHere 171 [] [.int s0] (MM RR S) (some (.int r.1), MM RR r.2) := by
  unfold j_X11_clauseHere_171 at h
  obtain ⟨z27, g28, h29⟩ := Option.bind_eq_some_iff.mp h
  obtain ⟨g30, e31⟩ := mm_ifs g28
  cases e31
  cases h29
  exact mr_zreturn dX11_clauseHere_171 rfl g30
def j_X11_clauseHere_101 (p1 : Int32) (p2 : Int32) (s0 : Int32) (s1 : Int32) (S : fS) : Option (Int32 × fS) :=
  if s1 = s0 then ((f_X11_fails (4 : Int32) p1 S).bind fun q46 =>
  (bZ q46.1).bind fun z49 => some (z49, q46.2)) else
  ((some (pI S 145 19 ((S.1 145 19) + (1 : Int32)))).bind fun S12 =>
  if p2 = (0 : Int32) then ((f_X11_isToHere  S12).bind fun q38 =>
  (bZ q38.1).bind fun z41 => some (z41, q38.2)) else
  ((f_X11_isWord (439905906546 : Int64) S12).bind fun q16 =>
  if q16.1 = (0 : Int32) then ((f_X11_isWord (495873780082 : Int64) q16.2).bind fun q20 =>
  if q20.1 = (0 : Int32) then ((f_X11_isThingHere p1 q20.2).bind fun q24 =>
  j_X11_clauseHere_171  q24.1 q24.2) else
  ((f_X11_isStairHere p1 q20.2).bind fun q32 =>
  j_X11_clauseHere_171  q32.1 q32.2)) else
  ((f_X11_isFloorHere p1 q16.2).bind fun q35 =>
  j_X11_clauseHere_171  q35.1 q35.2)))
set_option maxHeartbeats 4000000 in
set_option maxRecDepth 100000 in
theorem ok_j_X11_clauseHere_101 {X : mm_C} {RR : Nat → Nat → Option Nat} (hR : RRok RR) {p1 : Int32} {p2 : Int32} {s0 : Int32} {s1 : Int32} {S : fS} {r : Int32 × fS} (h : j_X11_clauseHere_101 p1 p2 s0 s1 S = some r) : mr X 10 mY_X11_clauseHere 101 [(0, .ref 145), (1, .int p1), (2, .int p2)] [.int s0, .int s1] (MM RR S) (some (.int r.1), MM RR r.2) := by
  unfold j_X11_clauseHere_101 at h
  by_cases c11 : s1 = s0
  · rw [if_pos c11] at h
    refine mr_icmp_ne_f (t := 111) (pc' := 104) dX11_clauseHere_101 (by decide) rfl (not_not_intro c11) ?_
    refine mr_aload_n (pc' := 105) dX11_clauseHere_104 rfl rfl ?_
    refine mr_iconst (pc' := 106) (v := (4 : Int32)) dX11_clauseHere_105 rfl (by decide) ?_
    refine mr_iload_n (pc' := 107) dX11_clauseHere_106 rfl rfl ?_
    obtain ⟨q46, g47, h48⟩ := Option.bind_eq_some_iff.mp h
    refine mr_cv (pc' := 110) (a := 145) (d1 := 0) dX11_clauseHere_107 rfl rfl rfl rfl rfl rfl (by decide) rfl (by decide) (ok_X11_fails hR  g47) ?_
    show mr X _ _ 110 _ [.int q46.1] (MM RR q46.2) _
    obtain ⟨z49, g50, h51⟩ := Option.bind_eq_some_iff.mp h48
    obtain ⟨g52, e53⟩ := mm_ifs g50
    cases e53
    cases h51
    exact mr_zreturn dX11_clauseHere_110 rfl g52
  · rw [if_neg c11] at h
    refine mr_icmp_ne_t (t := 111) dX11_clauseHere_101 (by decide) c11 ?_
    refine mr_aload_n (pc' := 112) dX11_clauseHere_111 rfl rfl ?_
    refine mr_dup_ref (pc' := 113) dX11_clauseHere_112 rfl ?_
    refine mr_getI (pc' := 116) (ci := 11) (j := 19) dX11_clauseHere_113 rfl rfl rfl (by decide) (by decide) rfl ?_
    refine mr_iconst (pc' := 117) (v := (1 : Int32)) dX11_clauseHere_116 rfl (by decide) ?_
    refine mr_iadd (pc' := 118) dX11_clauseHere_117 rfl ?_
    obtain ⟨S12, g13, h14⟩ := Option.bind_eq_some_iff.mp h
    refine mr_putI (pc' := 121) (ci := 11) (j := 19) dX11_clauseHere_118 rfl rfl rfl (by decide) (by decide) rfl rfl ?_
    rw [Option.some.inj g13]
    refine mr_iload_n (pc' := 122) dX11_clauseHere_121 rfl rfl ?_
    by_cases c15 : p2 = (0 : Int32)
    · rw [if_pos c15] at h14
      refine mr_if_ne_f (t := 130) (pc' := 125) dX11_clauseHere_122 (by decide) rfl (not_not_intro c15) ?_
      refine mr_aload_n (pc' := 126) dX11_clauseHere_125 rfl rfl ?_
      obtain ⟨q38, g39, h40⟩ := Option.bind_eq_some_iff.mp h14
      refine mr_cv (pc' := 129) (a := 145) (d1 := 9) dX11_clauseHere_126 rfl rfl rfl rfl rfl rfl (by decide) rfl (by decide) (ok_X11_isToHere hR  g39) ?_
      show mr X _ _ 129 _ [.int q38.1] (MM RR q38.2) _
      obtain ⟨z41, g42, h43⟩ := Option.bind_eq_some_iff.mp h40
      obtain ⟨g44, e45⟩ := mm_ifs g42
      cases e45
      cases h43
      exact mr_zreturn dX11_clauseHere_129 rfl g44
    · rw [if_neg c15] at h14
      refine mr_if_ne_t (t := 130) dX11_clauseHere_122 (by decide) c15 ?_
      refine mr_aload_n (pc' := 131) dX11_clauseHere_130 rfl rfl ?_
      refine mr_ldc2 (pc' := 134) (v := (439905906546 : Int64)) dX11_clauseHere_131 rfl rfl ?_
      obtain ⟨q16, g17, h18⟩ := Option.bind_eq_some_iff.mp h14
      refine mr_cv (pc' := 137) (a := 145) (d1 := 1) dX11_clauseHere_134 rfl rfl rfl rfl rfl rfl (by decide) rfl (by decide) (ok_X11_isWord hR  g17) ?_
      show mr X _ _ 137 _ [.int q16.1] (MM RR q16.2) _
      by_cases c19 : q16.1 = (0 : Int32)
      · rw [if_pos c19] at h18
        refine mr_if_eq_t (t := 148) dX11_clauseHere_137 (by decide) c19 ?_
        refine mr_aload_n (pc' := 149) dX11_clauseHere_148 rfl rfl ?_
        refine mr_ldc2 (pc' := 152) (v := (495873780082 : Int64)) dX11_clauseHere_149 rfl rfl ?_
        obtain ⟨q20, g21, h22⟩ := Option.bind_eq_some_iff.mp h18
        refine mr_cv (pc' := 155) (a := 145) (d1 := 1) dX11_clauseHere_152 rfl rfl rfl rfl rfl rfl (by decide) rfl (by decide) (ok_X11_isWord hR  g21) ?_
        show mr X _ _ 155 _ [.int q20.1] (MM RR q20.2) _
        by_cases c23 : q20.1 = (0 : Int32)
        · rw [if_pos c23] at h22
          refine mr_if_eq_t (t := 166) dX11_clauseHere_155 (by decide) c23 ?_
          refine mr_aload_n (pc' := 167) dX11_clauseHere_166 rfl rfl ?_
          refine mr_iload_n (pc' := 168) dX11_clauseHere_167 rfl rfl ?_
          obtain ⟨q24, g25, h26⟩ := Option.bind_eq_some_iff.mp h22
          refine mr_cv (pc' := 171) (a := 145) (d1 := 2) dX11_clauseHere_168 rfl rfl rfl rfl rfl rfl (by decide) rfl (by decide) (ok_X11_isThingHere hR  g25) ?_
          show mr X _ _ 171 _ [.int q24.1] (MM RR q24.2) _
          exact mr_sub [] trivial rfl (ok_j_X11_clauseHere_171 hR h26)
        · rw [if_neg c23] at h22
          refine mr_if_eq_f (t := 166) (pc' := 158) dX11_clauseHere_155 (by decide) rfl c23 ?_
          refine mr_aload_n (pc' := 159) dX11_clauseHere_158 rfl rfl ?_
          refine mr_iload_n (pc' := 160) dX11_clauseHere_159 rfl rfl ?_
          obtain ⟨q32, g33, h34⟩ := Option.bind_eq_some_iff.mp h22
          refine mr_cv (pc' := 163) (a := 145) (d1 := 2) dX11_clauseHere_160 rfl rfl rfl rfl rfl rfl (by decide) rfl (by decide) (ok_X11_isStairHere hR  g33) ?_
          show mr X _ _ 163 _ [.int q32.1] (MM RR q32.2) _
          refine mr_goto (t := 171) dX11_clauseHere_163 (by decide) ?_
          exact mr_sub [] trivial rfl (ok_j_X11_clauseHere_171 hR h34)
      · rw [if_neg c19] at h18
        refine mr_if_eq_f (t := 148) (pc' := 140) dX11_clauseHere_137 (by decide) rfl c19 ?_
        refine mr_aload_n (pc' := 141) dX11_clauseHere_140 rfl rfl ?_
        refine mr_iload_n (pc' := 142) dX11_clauseHere_141 rfl rfl ?_
        obtain ⟨q35, g36, h37⟩ := Option.bind_eq_some_iff.mp h18
        refine mr_cv (pc' := 145) (a := 145) (d1 := 2) dX11_clauseHere_142 rfl rfl rfl rfl rfl rfl (by decide) rfl (by decide) (ok_X11_isFloorHere hR  g36) ?_
        show mr X _ _ 145 _ [.int q35.1] (MM RR q35.2) _
        refine mr_goto (t := 171) dX11_clauseHere_145 (by decide) ?_
        exact mr_sub [] trivial rfl (ok_j_X11_clauseHere_171 hR h37)
def j_X11_clauseHere_74 (p1 : Int32) (p2 : Int32) (s0 : Int32) (S : fS) : Option (Int32 × fS) :=
  if s0 = (0 : Int32) then ((f_X11_fails (0 : Int32) p1 S).bind fun q54 =>
  (bZ q54.1).bind fun z57 => some (z57, q54.2)) else
  (if p2 = (0 : Int32) then (j_X11_clauseHere_101 p1 p2 (12 : Int32) (S.1 145 19) S) else
  (j_X11_clauseHere_101 p1 p2 (24 : Int32) (S.1 145 19) S))
set_option maxHeartbeats 4000000 in
set_option maxRecDepth 100000 in
theorem ok_j_X11_clauseHere_74 {X : mm_C} {RR : Nat → Nat → Option Nat} (hR : RRok RR) {p1 : Int32} {p2 : Int32} {s0 : Int32} {S : fS} {r : Int32 × fS} (h : j_X11_clauseHere_74 p1 p2 s0 S = some r) : mr X 10 mY_X11_clauseHere 74 [(0, .ref 145), (1, .int p1), (2, .int p2)] [.int s0] (MM RR S) (some (.int r.1), MM RR r.2) := by
  unfold j_X11_clauseHere_74 at h
  refine mr_istore_n (pc' := 75) (lv' := [(3, .int s0), (0, .ref 145), (1, .int p1), (2, .int p2)]) dX11_clauseHere_74 rfl (by decide) rfl ?_
  refine mr_iload_n (pc' := 76) dX11_clauseHere_75 rfl rfl ?_
  by_cases c9 : s0 = (0 : Int32)
  · rw [if_pos c9] at h
    refine mr_if_ne_f (t := 86) (pc' := 79) dX11_clauseHere_76 (by decide) rfl (not_not_intro c9) ?_
    refine mr_aload_n (pc' := 80) dX11_clauseHere_79 rfl rfl ?_
    refine mr_iconst (pc' := 81) (v := (0 : Int32)) dX11_clauseHere_80 rfl (by decide) ?_
    refine mr_iload_n (pc' := 82) dX11_clauseHere_81 rfl rfl ?_
    obtain ⟨q54, g55, h56⟩ := Option.bind_eq_some_iff.mp h
    refine mr_cv (pc' := 85) (a := 145) (d1 := 0) dX11_clauseHere_82 rfl rfl rfl rfl rfl rfl (by decide) rfl (by decide) (ok_X11_fails hR  g55) ?_
    show mr X _ _ 85 _ [.int q54.1] (MM RR q54.2) _
    obtain ⟨z57, g58, h59⟩ := Option.bind_eq_some_iff.mp h56
    obtain ⟨g60, e61⟩ := mm_ifs g58
    cases e61
    cases h59
    exact mr_zreturn dX11_clauseHere_85 rfl g60
  · rw [if_neg c9] at h
    refine mr_if_ne_t (t := 86) dX11_clauseHere_76 (by decide) c9 ?_
    refine mr_aload_n (pc' := 87) dX11_clauseHere_86 rfl rfl ?_
    refine mr_getI (pc' := 90) (ci := 11) (j := 19) dX11_clauseHere_87 rfl rfl rfl (by decide) (by decide) rfl ?_
    refine mr_iload_n (pc' := 91) dX11_clauseHere_90 rfl rfl ?_
    by_cases c10 : p2 = (0 : Int32)
    · rw [if_pos c10] at h
      refine mr_if_eq_t (t := 99) dX11_clauseHere_91 (by decide) c10 ?_
      refine mr_bipush (pc' := 101) (v := (12 : Int32)) dX11_clauseHere_99 rfl (by decide) ?_
      exact mr_sub [(0, .ref 145), (1, .int p1), (2, .int p2)] ⟨rfl, rfl, rfl, trivial⟩ rfl (ok_j_X11_clauseHere_101 hR h)
    · rw [if_neg c10] at h
      refine mr_if_eq_f (t := 99) (pc' := 94) dX11_clauseHere_91 (by decide) rfl c10 ?_
      refine mr_bipush (pc' := 96) (v := (24 : Int32)) dX11_clauseHere_94 rfl (by decide) ?_
      refine mr_goto (t := 101) dX11_clauseHere_96 (by decide) ?_
      exact mr_sub [(0, .ref 145), (1, .int p1), (2, .int p2)] ⟨rfl, rfl, rfl, trivial⟩ rfl (ok_j_X11_clauseHere_101 hR h)
def j_X11_clauseHere_59 (p1 : Int32) (p2 : Int32)  (S : fS) : Option (Int32 × fS) :=
  j_X11_clauseHere_74 p1 p2 (1 : Int32) S
set_option maxHeartbeats 4000000 in
set_option maxRecDepth 100000 in
theorem ok_j_X11_clauseHere_59 {X : mm_C} {RR : Nat → Nat → Option Nat} (hR : RRok RR) {p1 : Int32} {p2 : Int32}  {S : fS} {r : Int32 × fS} (h : j_X11_clauseHere_59 p1 p2  S = some r) : mr X 10 mY_X11_clauseHere 59 [(0, .ref 145), (1, .int p1), (2, .int p2)] [] (MM RR S) (some (.int r.1), MM RR r.2) := by
  unfold j_X11_clauseHere_59 at h
  refine mr_iconst (pc' := 60) (v := (1 : Int32)) dX11_clauseHere_59 rfl (by decide) ?_
  refine mr_goto (t := 74) dX11_clauseHere_60 (by decide) ?_
  exact mr_sub [(0, .ref 145), (1, .int p1), (2, .int p2)] ⟨rfl, rfl, rfl, trivial⟩ rfl (ok_j_X11_clauseHere_74 hR h)
def j_X11_clauseHere_24 (p1 : Int32) (s0 : Int32) (S : fS) : Option (Int32 × fS) :=
  if s0 = (0 : Int32) then ((f_X11_isWord (29807 : Int64) S).bind fun q6 =>
  j_X11_clauseHere_74 p1 s0 q6.1 q6.2) else
  ((f_X11_isWord (439905906546 : Int64) S).bind fun q62 =>
  if q62.1 = (0 : Int32) then ((f_X11_isWord (495873780082 : Int64) q62.2).bind fun q66 =>
  if q66.1 = (0 : Int32) then ((f_X11_isWord (499967946343 : Int64) q66.2).bind fun q70 =>
  if q70.1 = (0 : Int32) then (j_X11_clauseHere_74 p1 s0 (0 : Int32) q70.2) else
  (j_X11_clauseHere_59 p1 s0  q70.2)) else
  (j_X11_clauseHere_59 p1 s0  q66.2)) else
  (j_X11_clauseHere_59 p1 s0  q62.2))
set_option maxHeartbeats 4000000 in
set_option maxRecDepth 100000 in
theorem ok_j_X11_clauseHere_24 {X : mm_C} {RR : Nat → Nat → Option Nat} (hR : RRok RR) {p1 : Int32} {s0 : Int32} {S : fS} {r : Int32 × fS} (h : j_X11_clauseHere_24 p1 s0 S = some r) : mr X 10 mY_X11_clauseHere 24 [(0, .ref 145), (1, .int p1)] [.int s0] (MM RR S) (some (.int r.1), MM RR r.2) := by
  unfold j_X11_clauseHere_24 at h
  refine mr_istore_n (pc' := 25) (lv' := [(2, .int s0), (0, .ref 145), (1, .int p1)]) dX11_clauseHere_24 rfl (by decide) rfl ?_
  refine mr_iload_n (pc' := 26) dX11_clauseHere_25 rfl rfl ?_
  by_cases c5 : s0 = (0 : Int32)
  · rw [if_pos c5] at h
    refine mr_if_eq_t (t := 67) dX11_clauseHere_26 (by decide) c5 ?_
    refine mr_aload_n (pc' := 68) dX11_clauseHere_67 rfl rfl ?_
    refine mr_ldc2 (pc' := 71) (v := (29807 : Int64)) dX11_clauseHere_68 rfl rfl ?_
    obtain ⟨q6, g7, h8⟩ := Option.bind_eq_some_iff.mp h
    refine mr_cv (pc' := 74) (a := 145) (d1 := 1) dX11_clauseHere_71 rfl rfl rfl rfl rfl rfl (by decide) rfl (by decide) (ok_X11_isWord hR  g7) ?_
    show mr X _ _ 74 _ [.int q6.1] (MM RR q6.2) _
    exact mr_sub [(0, .ref 145), (1, .int p1), (2, .int s0)] ⟨rfl, rfl, rfl, trivial⟩ rfl (ok_j_X11_clauseHere_74 hR h8)
  · rw [if_neg c5] at h
    refine mr_if_eq_f (t := 67) (pc' := 29) dX11_clauseHere_26 (by decide) rfl c5 ?_
    refine mr_aload_n (pc' := 30) dX11_clauseHere_29 rfl rfl ?_
    refine mr_ldc2 (pc' := 33) (v := (439905906546 : Int64)) dX11_clauseHere_30 rfl rfl ?_
    obtain ⟨q62, g63, h64⟩ := Option.bind_eq_some_iff.mp h
    refine mr_cv (pc' := 36) (a := 145) (d1 := 1) dX11_clauseHere_33 rfl rfl rfl rfl rfl rfl (by decide) rfl (by decide) (ok_X11_isWord hR  g63) ?_
    show mr X _ _ 36 _ [.int q62.1] (MM RR q62.2) _
    by_cases c65 : q62.1 = (0 : Int32)
    · rw [if_pos c65] at h64
      refine mr_if_ne_f (t := 59) (pc' := 39) dX11_clauseHere_36 (by decide) rfl (not_not_intro c65) ?_
      refine mr_aload_n (pc' := 40) dX11_clauseHere_39 rfl rfl ?_
      refine mr_ldc2 (pc' := 43) (v := (495873780082 : Int64)) dX11_clauseHere_40 rfl rfl ?_
      obtain ⟨q66, g67, h68⟩ := Option.bind_eq_some_iff.mp h64
      refine mr_cv (pc' := 46) (a := 145) (d1 := 1) dX11_clauseHere_43 rfl rfl rfl rfl rfl rfl (by decide) rfl (by decide) (ok_X11_isWord hR  g67) ?_
      show mr X _ _ 46 _ [.int q66.1] (MM RR q66.2) _
      by_cases c69 : q66.1 = (0 : Int32)
      · rw [if_pos c69] at h68
        refine mr_if_ne_f (t := 59) (pc' := 49) dX11_clauseHere_46 (by decide) rfl (not_not_intro c69) ?_
        refine mr_aload_n (pc' := 50) dX11_clauseHere_49 rfl rfl ?_
        refine mr_ldc2 (pc' := 53) (v := (499967946343 : Int64)) dX11_clauseHere_50 rfl rfl ?_
        obtain ⟨q70, g71, h72⟩ := Option.bind_eq_some_iff.mp h68
        refine mr_cv (pc' := 56) (a := 145) (d1 := 1) dX11_clauseHere_53 rfl rfl rfl rfl rfl rfl (by decide) rfl (by decide) (ok_X11_isWord hR  g71) ?_
        show mr X _ _ 56 _ [.int q70.1] (MM RR q70.2) _
        by_cases c73 : q70.1 = (0 : Int32)
        · rw [if_pos c73] at h72
          refine mr_if_eq_t (t := 63) dX11_clauseHere_56 (by decide) c73 ?_
          refine mr_iconst (pc' := 64) (v := (0 : Int32)) dX11_clauseHere_63 rfl (by decide) ?_
          refine mr_goto (t := 74) dX11_clauseHere_64 (by decide) ?_
          exact mr_sub [(0, .ref 145), (1, .int p1), (2, .int s0)] ⟨rfl, rfl, rfl, trivial⟩ rfl (ok_j_X11_clauseHere_74 hR h72)
        · rw [if_neg c73] at h72
          refine mr_if_eq_f (t := 63) (pc' := 59) dX11_clauseHere_56 (by decide) rfl c73 ?_
          exact mr_sub [(0, .ref 145), (1, .int p1), (2, .int s0)] ⟨rfl, rfl, rfl, trivial⟩ rfl (ok_j_X11_clauseHere_59 hR h72)
      · rw [if_neg c69] at h68
        refine mr_if_ne_t (t := 59) dX11_clauseHere_46 (by decide) c69 ?_
        exact mr_sub [(0, .ref 145), (1, .int p1), (2, .int s0)] ⟨rfl, rfl, rfl, trivial⟩ rfl (ok_j_X11_clauseHere_59 hR h68)
    · rw [if_neg c65] at h64
      refine mr_if_ne_t (t := 59) dX11_clauseHere_36 (by decide) c65 ?_
      exact mr_sub [(0, .ref 145), (1, .int p1), (2, .int s0)] ⟨rfl, rfl, rfl, trivial⟩ rfl (ok_j_X11_clauseHere_59 hR h64)
def f_X11_clauseHere  (S : fS) : Option (Int32 × fS) :=
  (f_X11_see  S).bind fun q1 =>
  if (q1.2.1 145 16) = (6 : Int32) then (j_X11_clauseHere_24 (q1.2.1 145 13) (1 : Int32) q1.2) else
  (j_X11_clauseHere_24 (q1.2.1 145 13) (0 : Int32) q1.2)
set_option maxHeartbeats 4000000 in
set_option maxRecDepth 100000 in
theorem ok_X11_clauseHere {X : mm_C} {RR : Nat → Nat → Option Nat} (hR : RRok RR)   {S : fS} {r : Int32 × fS} (h : f_X11_clauseHere  S = some r) : mr X 10 mY_X11_clauseHere 0 (lv_args 0 [.ref 145]) [] (MM RR S) (some (.int r.1), MM RR r.2) := by
  unfold f_X11_clauseHere at h
  show mr X _ _ 0 [(0, .ref 145)] [] (MM RR S) _
  refine mr_aload_n (pc' := 1) dX11_clauseHere_0 rfl rfl ?_
  obtain ⟨q1, g2, h3⟩ := Option.bind_eq_some_iff.mp h
  refine mr_cv (pc' := 4) (a := 145) (d1 := 0) dX11_clauseHere_1 rfl rfl rfl rfl rfl rfl (by decide) rfl (by decide) (ok_X11_see hR  g2) ?_
  show mr X _ _ 4 _ [.int q1.1] (MM RR q1.2) _
  refine mr_pop_int (pc' := 5) dX11_clauseHere_4 rfl ?_
  refine mr_aload_n (pc' := 6) dX11_clauseHere_5 rfl rfl ?_
  refine mr_getI (pc' := 9) (ci := 11) (j := 13) dX11_clauseHere_6 rfl rfl rfl (by decide) (by decide) rfl ?_
  refine mr_istore_n (pc' := 10) (lv' := [(1, .int (q1.2.1 145 13)), (0, .ref 145)]) dX11_clauseHere_9 rfl (by decide) rfl ?_
  refine mr_aload_n (pc' := 11) dX11_clauseHere_10 rfl rfl ?_
  refine mr_getI (pc' := 14) (ci := 11) (j := 16) dX11_clauseHere_11 rfl rfl rfl (by decide) (by decide) rfl ?_
  refine mr_bipush (pc' := 16) (v := (6 : Int32)) dX11_clauseHere_14 rfl (by decide) ?_
  by_cases c4 : (q1.2.1 145 16) = (6 : Int32)
  · rw [if_pos c4] at h3
    refine mr_icmp_ne_f (t := 23) (pc' := 19) dX11_clauseHere_16 (by decide) rfl (not_not_intro c4) ?_
    refine mr_iconst (pc' := 20) (v := (1 : Int32)) dX11_clauseHere_19 rfl (by decide) ?_
    refine mr_goto (t := 24) dX11_clauseHere_20 (by decide) ?_
    exact mr_sub [(0, .ref 145), (1, .int (q1.2.1 145 13))] ⟨rfl, rfl, trivial⟩ rfl (ok_j_X11_clauseHere_24 hR h3)
  · rw [if_neg c4] at h3
    refine mr_icmp_ne_t (t := 23) dX11_clauseHere_16 (by decide) c4 ?_
    refine mr_iconst (pc' := 24) (v := (0 : Int32)) dX11_clauseHere_23 rfl (by decide) ?_
    exact mr_sub [(0, .ref 145), (1, .int (q1.2.1 145 13))] ⟨rfl, rfl, trivial⟩ rfl (ok_j_X11_clauseHere_24 hR h3)
