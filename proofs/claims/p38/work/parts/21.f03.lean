def f_X11_isToHere  (S : fS) : Option (Int32 × fS) :=
  (f_X11_passWord  S).bind fun q1 =>
  (f_X11_numberHere (0 : Int32) (9 : Int32) q1).bind fun q4 =>
  if q4.1 = (0 : Int32) then (some ((0 : Int32), q4.2)) else
  ((gI q4.2 150 6 (q4.2.1 145 16)).bind fun a8 =>
  (sI q4.2 149 216 (((36 : Int32) * (q4.2.1 145 16)) + ((3 : Int32) * a8)) (q4.2.1 145 15)).bind fun S11 =>
  (sI S11 149 216 ((((36 : Int32) * (q4.2.1 145 16)) + ((3 : Int32) * a8)) + (1 : Int32)) (-1 : Int32)).bind fun S14 =>
  (f_X11_takesWord (26982 : Int64) S14).bind fun q17 =>
  if q17.1 = (0 : Int32) then ((gI q17.2 148 7 (q17.2.1 145 16)).bind fun a21 =>
  (sI q17.2 149 216 ((((36 : Int32) * (q4.2.1 145 16)) + ((3 : Int32) * a8)) + (2 : Int32)) a21).bind fun S24 =>
  (gI S24 150 6 (S24.1 145 16)).bind fun a27 =>
  (sI S24 150 6 (S24.1 145 16) (a27 + (1 : Int32))).bind fun S30 =>
  some ((1 : Int32), S30)) else
  ((gI q17.2 148 7 (q17.2.1 145 16)).bind fun a33 =>
  (sI q17.2 149 216 ((((36 : Int32) * (q4.2.1 145 16)) + ((3 : Int32) * a8)) + (1 : Int32)) a33).bind fun S36 =>
  (f_X11_tested  S36).bind fun q39 =>
  if q39.1 = (0 : Int32) then (some ((0 : Int32), q39.2)) else
  ((gI q39.2 148 7 (q39.2.1 145 16)).bind fun a43 =>
  (sI q39.2 149 216 ((((36 : Int32) * (q4.2.1 145 16)) + ((3 : Int32) * a8)) + (2 : Int32)) a43).bind fun S46 =>
  (gI S46 150 6 (S46.1 145 16)).bind fun a49 =>
  (sI S46 150 6 (S46.1 145 16) (a49 + (1 : Int32))).bind fun S52 =>
  some ((1 : Int32), S52))))
set_option maxHeartbeats 4000000 in
set_option maxRecDepth 100000 in
theorem ok_X11_isToHere {X : mm_C} {RR : Nat → Nat → Option Nat} (hR : RRok RR)   {S : fS} {r : Int32 × fS} (h : f_X11_isToHere  S = some r) : mr X 9 mY_X11_isToHere 0 (lv_args 0 [.ref 145]) [] (MM RR S) (some (.int r.1), MM RR r.2) := by
  unfold f_X11_isToHere at h
  show mr X _ _ 0 [(0, .ref 145)] [] (MM RR S) _
  refine mr_aload_n (pc' := 1) dX11_isToHere_0 rfl rfl ?_
  obtain ⟨q1, g2, h3⟩ := Option.bind_eq_some_iff.mp h
  refine mr_cv (pc' := 4) (a := 145) (d1 := 1) dX11_isToHere_1 rfl rfl rfl rfl rfl rfl (by decide) rfl (by decide) (ok_X11_passWord hR  g2) ?_
  show mr X _ _ 4 _ [] (MM RR q1) _
  refine mr_aload_n (pc' := 5) dX11_isToHere_4 rfl rfl ?_
  refine mr_iconst (pc' := 6) (v := (0 : Int32)) dX11_isToHere_5 rfl (by decide) ?_
  refine mr_bipush (pc' := 8) (v := (9 : Int32)) dX11_isToHere_6 rfl (by decide) ?_
  obtain ⟨q4, g5, h6⟩ := Option.bind_eq_some_iff.mp h3
  refine mr_cv (pc' := 11) (a := 145) (d1 := 1) dX11_isToHere_8 rfl rfl rfl rfl rfl rfl (by decide) rfl (by decide) (ok_X11_numberHere hR  g5) ?_
  show mr X _ _ 11 _ [.int q4.1] (MM RR q4.2) _
  by_cases c7 : q4.1 = (0 : Int32)
  · rw [if_pos c7] at h6
    refine mr_if_ne_f (t := 16) (pc' := 14) dX11_isToHere_11 (by decide) rfl (not_not_intro c7) ?_
    refine mr_iconst (pc' := 15) (v := (0 : Int32)) dX11_isToHere_14 rfl (by decide) ?_
    obtain rfl := Option.some.inj h6
    exact mr_zreturn dX11_isToHere_15 rfl (by decide)
  · rw [if_neg c7] at h6
    refine mr_if_ne_t (t := 16) dX11_isToHere_11 (by decide) c7 ?_
    refine mr_bipush (pc' := 18) (v := (36 : Int32)) dX11_isToHere_16 rfl (by decide) ?_
    refine mr_aload_n (pc' := 19) dX11_isToHere_18 rfl rfl ?_
    refine mr_getI (pc' := 22) (ci := 11) (j := 16) dX11_isToHere_19 rfl rfl rfl (by decide) (by decide) rfl ?_
    refine mr_imul (pc' := 23) dX11_isToHere_22 rfl ?_
    refine mr_iconst (pc' := 24) (v := (3 : Int32)) dX11_isToHere_23 rfl (by decide) ?_
    refine mr_aload_n (pc' := 25) dX11_isToHere_24 rfl rfl ?_
    refine mr_getR (pc' := 28) (ci := 11) (j := 6) (b := 150) hR dX11_isToHere_25 rfl rfl rfl (by decide) (by decide) (by decide) rfl rfl ?_
    refine mr_aload_n (pc' := 29) dX11_isToHere_28 rfl rfl ?_
    refine mr_getI (pc' := 32) (ci := 11) (j := 16) dX11_isToHere_29 rfl rfl rfl (by decide) (by decide) rfl ?_
    obtain ⟨a8, g9, h10⟩ := Option.bind_eq_some_iff.mp h6
    refine mr_iald (pc' := 33) dX11_isToHere_32 rfl rfl rfl g9 ?_
    refine mr_imul (pc' := 34) dX11_isToHere_33 rfl ?_
    refine mr_iadd (pc' := 35) dX11_isToHere_34 rfl ?_
    refine mr_istore_n (pc' := 36) (lv' := [(1, .int (((36 : Int32) * (q4.2.1 145 16)) + ((3 : Int32) * a8))), (0, .ref 145)]) dX11_isToHere_35 rfl (by decide) rfl ?_
    refine mr_aload_n (pc' := 37) dX11_isToHere_36 rfl rfl ?_
    refine mr_getR (pc' := 40) (ci := 11) (j := 5) (b := 149) hR dX11_isToHere_37 rfl rfl rfl (by decide) (by decide) (by decide) rfl rfl ?_
    refine mr_iload_n (pc' := 41) dX11_isToHere_40 rfl rfl ?_
    refine mr_aload_n (pc' := 42) dX11_isToHere_41 rfl rfl ?_
    refine mr_getI (pc' := 45) (ci := 11) (j := 15) dX11_isToHere_42 rfl rfl rfl (by decide) (by decide) rfl ?_
    obtain ⟨S11, g12, h13⟩ := Option.bind_eq_some_iff.mp h10
    refine mr_iast (pc' := 46) dX11_isToHere_45 rfl rfl rfl g12 ?_
    refine mr_aload_n (pc' := 47) dX11_isToHere_46 rfl rfl ?_
    refine mr_getR (pc' := 50) (ci := 11) (j := 5) (b := 149) hR dX11_isToHere_47 rfl rfl rfl (by decide) (by decide) (by decide) rfl rfl ?_
    refine mr_iload_n (pc' := 51) dX11_isToHere_50 rfl rfl ?_
    refine mr_iconst (pc' := 52) (v := (1 : Int32)) dX11_isToHere_51 rfl (by decide) ?_
    refine mr_iadd (pc' := 53) dX11_isToHere_52 rfl ?_
    refine mr_iconst (pc' := 54) (v := (-1 : Int32)) dX11_isToHere_53 rfl (by decide) ?_
    obtain ⟨S14, g15, h16⟩ := Option.bind_eq_some_iff.mp h13
    refine mr_iast (pc' := 55) dX11_isToHere_54 rfl rfl rfl g15 ?_
    refine mr_aload_n (pc' := 56) dX11_isToHere_55 rfl rfl ?_
    refine mr_ldc2 (pc' := 59) (v := (26982 : Int64)) dX11_isToHere_56 rfl rfl ?_
    obtain ⟨q17, g18, h19⟩ := Option.bind_eq_some_iff.mp h16
    refine mr_cv (pc' := 62) (a := 145) (d1 := 2) dX11_isToHere_59 rfl rfl rfl rfl rfl rfl (by decide) rfl (by decide) (ok_X11_takesWord hR  g18) ?_
    show mr X _ _ 62 _ [.int q17.1] (MM RR q17.2) _
    by_cases c20 : q17.1 = (0 : Int32)
    · rw [if_pos c20] at h19
      refine mr_if_eq_t (t := 91) dX11_isToHere_62 (by decide) c20 ?_
      refine mr_aload_n (pc' := 92) dX11_isToHere_91 rfl rfl ?_
      refine mr_getR (pc' := 95) (ci := 11) (j := 5) (b := 149) hR dX11_isToHere_92 rfl rfl rfl (by decide) (by decide) (by decide) rfl rfl ?_
      refine mr_iload_n (pc' := 96) dX11_isToHere_95 rfl rfl ?_
      refine mr_iconst (pc' := 97) (v := (2 : Int32)) dX11_isToHere_96 rfl (by decide) ?_
      refine mr_iadd (pc' := 98) dX11_isToHere_97 rfl ?_
      refine mr_aload_n (pc' := 99) dX11_isToHere_98 rfl rfl ?_
      refine mr_getR (pc' := 102) (ci := 11) (j := 4) (b := 148) hR dX11_isToHere_99 rfl rfl rfl (by decide) (by decide) (by decide) rfl rfl ?_
      refine mr_aload_n (pc' := 103) dX11_isToHere_102 rfl rfl ?_
      refine mr_getI (pc' := 106) (ci := 11) (j := 16) dX11_isToHere_103 rfl rfl rfl (by decide) (by decide) rfl ?_
      obtain ⟨a21, g22, h23⟩ := Option.bind_eq_some_iff.mp h19
      refine mr_iald (pc' := 107) dX11_isToHere_106 rfl rfl rfl g22 ?_
      obtain ⟨S24, g25, h26⟩ := Option.bind_eq_some_iff.mp h23
      refine mr_iast (pc' := 108) dX11_isToHere_107 rfl rfl rfl g25 ?_
      refine mr_aload_n (pc' := 109) dX11_isToHere_108 rfl rfl ?_
      refine mr_getR (pc' := 112) (ci := 11) (j := 6) (b := 150) hR dX11_isToHere_109 rfl rfl rfl (by decide) (by decide) (by decide) rfl rfl ?_
      refine mr_aload_n (pc' := 113) dX11_isToHere_112 rfl rfl ?_
      refine mr_getI (pc' := 116) (ci := 11) (j := 16) dX11_isToHere_113 rfl rfl rfl (by decide) (by decide) rfl ?_
      refine mr_dup2 (pc' := 117) dX11_isToHere_116 rfl ?_
      obtain ⟨a27, g28, h29⟩ := Option.bind_eq_some_iff.mp h26
      refine mr_iald (pc' := 118) dX11_isToHere_117 rfl rfl rfl g28 ?_
      refine mr_iconst (pc' := 119) (v := (1 : Int32)) dX11_isToHere_118 rfl (by decide) ?_
      refine mr_iadd (pc' := 120) dX11_isToHere_119 rfl ?_
      obtain ⟨S30, g31, h32⟩ := Option.bind_eq_some_iff.mp h29
      refine mr_iast (pc' := 121) dX11_isToHere_120 rfl rfl rfl g31 ?_
      refine mr_iconst (pc' := 122) (v := (1 : Int32)) dX11_isToHere_121 rfl (by decide) ?_
      obtain rfl := Option.some.inj h32
      exact mr_zreturn dX11_isToHere_122 rfl (by decide)
    · rw [if_neg c20] at h19
      refine mr_if_eq_f (t := 91) (pc' := 65) dX11_isToHere_62 (by decide) rfl c20 ?_
      refine mr_aload_n (pc' := 66) dX11_isToHere_65 rfl rfl ?_
      refine mr_getR (pc' := 69) (ci := 11) (j := 5) (b := 149) hR dX11_isToHere_66 rfl rfl rfl (by decide) (by decide) (by decide) rfl rfl ?_
      refine mr_iload_n (pc' := 70) dX11_isToHere_69 rfl rfl ?_
      refine mr_iconst (pc' := 71) (v := (1 : Int32)) dX11_isToHere_70 rfl (by decide) ?_
      refine mr_iadd (pc' := 72) dX11_isToHere_71 rfl ?_
      refine mr_aload_n (pc' := 73) dX11_isToHere_72 rfl rfl ?_
      refine mr_getR (pc' := 76) (ci := 11) (j := 4) (b := 148) hR dX11_isToHere_73 rfl rfl rfl (by decide) (by decide) (by decide) rfl rfl ?_
      refine mr_aload_n (pc' := 77) dX11_isToHere_76 rfl rfl ?_
      refine mr_getI (pc' := 80) (ci := 11) (j := 16) dX11_isToHere_77 rfl rfl rfl (by decide) (by decide) rfl ?_
      obtain ⟨a33, g34, h35⟩ := Option.bind_eq_some_iff.mp h19
      refine mr_iald (pc' := 81) dX11_isToHere_80 rfl rfl rfl g34 ?_
      obtain ⟨S36, g37, h38⟩ := Option.bind_eq_some_iff.mp h35
      refine mr_iast (pc' := 82) dX11_isToHere_81 rfl rfl rfl g37 ?_
      refine mr_aload_n (pc' := 83) dX11_isToHere_82 rfl rfl ?_
      obtain ⟨q39, g40, h41⟩ := Option.bind_eq_some_iff.mp h38
      refine mr_cv (pc' := 86) (a := 145) (d1 := 8) dX11_isToHere_83 rfl rfl rfl rfl rfl rfl (by decide) rfl (by decide) (ok_X11_tested hR  g40) ?_
      show mr X _ _ 86 _ [.int q39.1] (MM RR q39.2) _
      by_cases c42 : q39.1 = (0 : Int32)
      · rw [if_pos c42] at h41
        refine mr_if_ne_f (t := 91) (pc' := 89) dX11_isToHere_86 (by decide) rfl (not_not_intro c42) ?_
        refine mr_iconst (pc' := 90) (v := (0 : Int32)) dX11_isToHere_89 rfl (by decide) ?_
        obtain rfl := Option.some.inj h41
        exact mr_zreturn dX11_isToHere_90 rfl (by decide)
      · rw [if_neg c42] at h41
        refine mr_if_ne_t (t := 91) dX11_isToHere_86 (by decide) c42 ?_
        refine mr_aload_n (pc' := 92) dX11_isToHere_91 rfl rfl ?_
        refine mr_getR (pc' := 95) (ci := 11) (j := 5) (b := 149) hR dX11_isToHere_92 rfl rfl rfl (by decide) (by decide) (by decide) rfl rfl ?_
        refine mr_iload_n (pc' := 96) dX11_isToHere_95 rfl rfl ?_
        refine mr_iconst (pc' := 97) (v := (2 : Int32)) dX11_isToHere_96 rfl (by decide) ?_
        refine mr_iadd (pc' := 98) dX11_isToHere_97 rfl ?_
        refine mr_aload_n (pc' := 99) dX11_isToHere_98 rfl rfl ?_
        refine mr_getR (pc' := 102) (ci := 11) (j := 4) (b := 148) hR dX11_isToHere_99 rfl rfl rfl (by decide) (by decide) (by decide) rfl rfl ?_
        refine mr_aload_n (pc' := 103) dX11_isToHere_102 rfl rfl ?_
        refine mr_getI (pc' := 106) (ci := 11) (j := 16) dX11_isToHere_103 rfl rfl rfl (by decide) (by decide) rfl ?_
        obtain ⟨a43, g44, h45⟩ := Option.bind_eq_some_iff.mp h41
        refine mr_iald (pc' := 107) dX11_isToHere_106 rfl rfl rfl g44 ?_
        obtain ⟨S46, g47, h48⟩ := Option.bind_eq_some_iff.mp h45
        refine mr_iast (pc' := 108) dX11_isToHere_107 rfl rfl rfl g47 ?_
        refine mr_aload_n (pc' := 109) dX11_isToHere_108 rfl rfl ?_
        refine mr_getR (pc' := 112) (ci := 11) (j := 6) (b := 150) hR dX11_isToHere_109 rfl rfl rfl (by decide) (by decide) (by decide) rfl rfl ?_
        refine mr_aload_n (pc' := 113) dX11_isToHere_112 rfl rfl ?_
        refine mr_getI (pc' := 116) (ci := 11) (j := 16) dX11_isToHere_113 rfl rfl rfl (by decide) (by decide) rfl ?_
        refine mr_dup2 (pc' := 117) dX11_isToHere_116 rfl ?_
        obtain ⟨a49, g50, h51⟩ := Option.bind_eq_some_iff.mp h48
        refine mr_iald (pc' := 118) dX11_isToHere_117 rfl rfl rfl g50 ?_
        refine mr_iconst (pc' := 119) (v := (1 : Int32)) dX11_isToHere_118 rfl (by decide) ?_
        refine mr_iadd (pc' := 120) dX11_isToHere_119 rfl ?_
        obtain ⟨S52, g53, h54⟩ := Option.bind_eq_some_iff.mp h51
        refine mr_iast (pc' := 121) dX11_isToHere_120 rfl rfl rfl g53 ?_
        refine mr_iconst (pc' := 122) (v := (1 : Int32)) dX11_isToHere_121 rfl (by decide) ?_
        obtain rfl := Option.some.inj h54
        exact mr_zreturn dX11_isToHere_122 rfl (by decide)
def lp_X11_isFloorHere_22  (K : fS → Option (Int32 × fS)) : Nat → Int32 → fS → Option (Int32 × fS)
  | 0, _, _ => none
  | n + 1, p2, S0 =>
    if (2 : Int32) ≤ p2 then (K S0) else
    ((f_X11_numberHere (1 : Int32) (20 : Int32) S0).bind fun q6 =>
    if q6.1 = (0 : Int32) then (some ((0 : Int32), q6.2)) else
    ((sI q6.2 151 20 (((2 : Int32) * (q6.2.1 145 7)) + p2) (q6.2.1 145 15)).bind fun S10 =>
    lp_X11_isFloorHere_22  K n (p2 + (1 : Int32)) S10))
set_option maxHeartbeats 4000000 in
set_option maxRecDepth 100000 in
theorem ok_lp_X11_isFloorHere_22 {X : mm_C} {RR : Nat → Nat → Option Nat} (hR : RRok RR)   {K : fS → Option (Int32 × fS)} {r : Int32 × fS} (hK : ∀ (Sk : fS), K Sk = some r → mr X 2 mY_X11_isFloorHere 62 [(0, .ref 145)] [] (MM RR Sk) (some (.int r.1), MM RR r.2)) : ∀ (n : Nat) (p2 : Int32) (S0 : fS), lp_X11_isFloorHere_22  K n p2 S0 = some r → mr X 2 mY_X11_isFloorHere 22 [(0, .ref 145), (2, .int p2)] [] (MM RR S0) (some (.int r.1), MM RR r.2) := by
  intro n
  induction n with
  | zero => intro p2 S0 h; exact mm_no h
  | succ n ih =>
    intro p2 S0 h
    unfold lp_X11_isFloorHere_22 at h
    refine mr_iload_n (pc' := 23) dX11_isFloorHere_22 rfl rfl ?_
    refine mr_iconst (pc' := 24) (v := (2 : Int32)) dX11_isFloorHere_23 rfl (by decide) ?_
    by_cases c5 : (2 : Int32) ≤ p2
    · rw [if_pos c5] at h
      refine mr_icmp_ge_t (t := 62) dX11_isFloorHere_24 (by decide) c5 ?_
      exact mr_sub [(0, .ref 145)] ⟨rfl, trivial⟩ rfl (hK _  h)
    · rw [if_neg c5] at h
      refine mr_icmp_ge_f (t := 62) (pc' := 27) dX11_isFloorHere_24 (by decide) rfl c5 ?_
      refine mr_aload_n (pc' := 28) dX11_isFloorHere_27 rfl rfl ?_
      refine mr_iconst (pc' := 29) (v := (1 : Int32)) dX11_isFloorHere_28 rfl (by decide) ?_
      refine mr_bipush (pc' := 31) (v := (20 : Int32)) dX11_isFloorHere_29 rfl (by decide) ?_
      obtain ⟨q6, g7, h8⟩ := Option.bind_eq_some_iff.mp h
      refine mr_cv (pc' := 34) (a := 145) (d1 := 1) dX11_isFloorHere_31 rfl rfl rfl rfl rfl rfl (by decide) rfl (by decide) (ok_X11_numberHere hR  g7) ?_
      show mr X _ _ 34 _ [.int q6.1] (MM RR q6.2) _
      by_cases c9 : q6.1 = (0 : Int32)
      · rw [if_pos c9] at h8
        refine mr_if_ne_f (t := 39) (pc' := 37) dX11_isFloorHere_34 (by decide) rfl (not_not_intro c9) ?_
        refine mr_iconst (pc' := 38) (v := (0 : Int32)) dX11_isFloorHere_37 rfl (by decide) ?_
        obtain rfl := Option.some.inj h8
        exact mr_zreturn dX11_isFloorHere_38 rfl (by decide)
      · rw [if_neg c9] at h8
        refine mr_if_ne_t (t := 39) dX11_isFloorHere_34 (by decide) c9 ?_
        refine mr_aload_n (pc' := 40) dX11_isFloorHere_39 rfl rfl ?_
        refine mr_getR (pc' := 43) (ci := 11) (j := 10) (b := 151) hR dX11_isFloorHere_40 rfl rfl rfl (by decide) (by decide) (by decide) rfl rfl ?_
        refine mr_iconst (pc' := 44) (v := (2 : Int32)) dX11_isFloorHere_43 rfl (by decide) ?_
        refine mr_aload_n (pc' := 45) dX11_isFloorHere_44 rfl rfl ?_
        refine mr_getI (pc' := 48) (ci := 11) (j := 7) dX11_isFloorHere_45 rfl rfl rfl (by decide) (by decide) rfl ?_
        refine mr_imul (pc' := 49) dX11_isFloorHere_48 rfl ?_
        refine mr_iload_n (pc' := 50) dX11_isFloorHere_49 rfl rfl ?_
        refine mr_iadd (pc' := 51) dX11_isFloorHere_50 rfl ?_
        refine mr_aload_n (pc' := 52) dX11_isFloorHere_51 rfl rfl ?_
        refine mr_getI (pc' := 55) (ci := 11) (j := 15) dX11_isFloorHere_52 rfl rfl rfl (by decide) (by decide) rfl ?_
        obtain ⟨S10, g11, h12⟩ := Option.bind_eq_some_iff.mp h8
        refine mr_iast (pc' := 56) dX11_isFloorHere_55 rfl rfl rfl g11 ?_
        refine mr_iinc (pc' := 59) (x' := (p2 + (1 : Int32))) (lv' := [(2, .int (p2 + (1 : Int32))), (0, .ref 145)]) dX11_isFloorHere_56 rfl (by decide) rfl rfl rfl ?_
        refine mr_goto (t := 22) dX11_isFloorHere_59 (by decide) ?_
        exact mr_sub [(0, .ref 145), (2, .int (p2 + (1 : Int32)))] ⟨rfl, rfl, trivial⟩ rfl (ih _ _  h12)
def f_X11_isFloorHere (v1 : Int32) (S : fS) : Option (Int32 × fS) :=
  if (S.1 145 7) = (10 : Int32) then ((f_X11_fails (4 : Int32) v1 S).bind fun q18 =>
  (bZ q18.1).bind fun z21 => some (z21, q18.2)) else
  ((f_X11_passWord  S).bind fun q2 =>
  lp_X11_isFloorHere_22  (fun S13 => (some (pI S13 145 7 ((S13.1 145 7) + (1 : Int32)))).bind fun S15 =>
  some ((1 : Int32), S15)) FU (0 : Int32) q2)
set_option maxHeartbeats 4000000 in
set_option maxRecDepth 100000 in
theorem ok_X11_isFloorHere {X : mm_C} {RR : Nat → Nat → Option Nat} (hR : RRok RR) {v1 : Int32}  {S : fS} {r : Int32 × fS} (h : f_X11_isFloorHere v1 S = some r) : mr X 2 mY_X11_isFloorHere 0 (lv_args 0 [.ref 145, .int v1]) [] (MM RR S) (some (.int r.1), MM RR r.2) := by
  unfold f_X11_isFloorHere at h
  show mr X _ _ 0 [(0, .ref 145), (1, .int v1)] [] (MM RR S) _
  refine mr_aload_n (pc' := 1) dX11_isFloorHere_0 rfl rfl ?_
  refine mr_getI (pc' := 4) (ci := 11) (j := 7) dX11_isFloorHere_1 rfl rfl rfl (by decide) (by decide) rfl ?_
  refine mr_bipush (pc' := 6) (v := (10 : Int32)) dX11_isFloorHere_4 rfl (by decide) ?_
  by_cases c1 : (S.1 145 7) = (10 : Int32)
  · rw [if_pos c1] at h
    refine mr_icmp_ne_f (t := 16) (pc' := 9) dX11_isFloorHere_6 (by decide) rfl (not_not_intro c1) ?_
    refine mr_aload_n (pc' := 10) dX11_isFloorHere_9 rfl rfl ?_
    refine mr_iconst (pc' := 11) (v := (4 : Int32)) dX11_isFloorHere_10 rfl (by decide) ?_
    refine mr_iload_n (pc' := 12) dX11_isFloorHere_11 rfl rfl ?_
    obtain ⟨q18, g19, h20⟩ := Option.bind_eq_some_iff.mp h
    refine mr_cv (pc' := 15) (a := 145) (d1 := 0) dX11_isFloorHere_12 rfl rfl rfl rfl rfl rfl (by decide) rfl (by decide) (ok_X11_fails hR  g19) ?_
    show mr X _ _ 15 _ [.int q18.1] (MM RR q18.2) _
    obtain ⟨z21, g22, h23⟩ := Option.bind_eq_some_iff.mp h20
    obtain ⟨g24, e25⟩ := mm_ifs g22
    cases e25
    cases h23
    exact mr_zreturn dX11_isFloorHere_15 rfl g24
  · rw [if_neg c1] at h
    refine mr_icmp_ne_t (t := 16) dX11_isFloorHere_6 (by decide) c1 ?_
    refine mr_aload_n (pc' := 17) dX11_isFloorHere_16 rfl rfl ?_
    obtain ⟨q2, g3, h4⟩ := Option.bind_eq_some_iff.mp h
    refine mr_cv (pc' := 20) (a := 145) (d1 := 1) dX11_isFloorHere_17 rfl rfl rfl rfl rfl rfl (by decide) rfl (by decide) (ok_X11_passWord hR  g3) ?_
    show mr X _ _ 20 _ [] (MM RR q2) _
    refine mr_iconst (pc' := 21) (v := (0 : Int32)) dX11_isFloorHere_20 rfl (by decide) ?_
    refine mr_istore_n (pc' := 22) (lv' := [(2, .int (0 : Int32)), (0, .ref 145), (1, .int v1)]) dX11_isFloorHere_21 rfl (by decide) rfl ?_
    refine mr_sub [(0, .ref 145), (2, .int (0 : Int32))] ⟨rfl, rfl, trivial⟩ rfl ?_
    refine ok_lp_X11_isFloorHere_22 hR  (fun S13 h14 => ?_) FU _ _  h4
    refine mr_aload_n (pc' := 63) dX11_isFloorHere_62 rfl rfl ?_
    refine mr_dup_ref (pc' := 64) dX11_isFloorHere_63 rfl ?_
    refine mr_getI (pc' := 67) (ci := 11) (j := 7) dX11_isFloorHere_64 rfl rfl rfl (by decide) (by decide) rfl ?_
    refine mr_iconst (pc' := 68) (v := (1 : Int32)) dX11_isFloorHere_67 rfl (by decide) ?_
    refine mr_iadd (pc' := 69) dX11_isFloorHere_68 rfl ?_
    obtain ⟨S15, g16, h17⟩ := Option.bind_eq_some_iff.mp h14
    refine mr_putI (pc' := 72) (ci := 11) (j := 7) dX11_isFloorHere_69 rfl rfl rfl (by decide) (by decide) rfl rfl ?_
    rw [Option.some.inj g16]
    refine mr_iconst (pc' := 73) (v := (1 : Int32)) dX11_isFloorHere_72 rfl (by decide) ?_
    obtain rfl := Option.some.inj h17
    exact mr_zreturn dX11_isFloorHere_73 rfl (by decide)
def lp_X11_isStairHere_114 (p2 : Int32) (K : fS → Option (Int32 × fS)) : Nat → Int32 → fS → Option (Int32 × fS)
  | 0, _, _ => none
  | n + 1, p4, S0 =>
    if (5 : Int32) ≤ p4 then (K S0) else
    (if p4 = (2 : Int32) then ((f_X11_numberHere (1 : Int32) (9 : Int32) S0).bind fun q35 =>
    if q35.1 = (0 : Int32) then (some ((0 : Int32), q35.2)) else
    ((sI q35.2 152 60 (p2 + p4) (q35.2.1 145 15)).bind fun S39 =>
    lp_X11_isStairHere_114 p2 K n (p4 + (1 : Int32)) S39)) else
    ((f_X11_numberHere (1 : Int32) (20 : Int32) S0).bind fun q28 =>
    if q28.1 = (0 : Int32) then (some ((0 : Int32), q28.2)) else
    ((sI q28.2 152 60 (p2 + p4) (q28.2.1 145 15)).bind fun S32 =>
    lp_X11_isStairHere_114 p2 K n (p4 + (1 : Int32)) S32)))
set_option maxHeartbeats 4000000 in
set_option maxRecDepth 100000 in
theorem ok_lp_X11_isStairHere_114 {X : mm_C} {RR : Nat → Nat → Option Nat} (hR : RRok RR) {p2 : Int32}  {K : fS → Option (Int32 × fS)} {r : Int32 × fS} (hK : ∀ (Sk : fS), K Sk = some r → mr X 2 mY_X11_isStairHere 162 [(0, .ref 145)] [] (MM RR Sk) (some (.int r.1), MM RR r.2)) : ∀ (n : Nat) (p4 : Int32) (S0 : fS), lp_X11_isStairHere_114 p2 K n p4 S0 = some r → mr X 2 mY_X11_isStairHere 114 [(0, .ref 145), (2, .int p2), (4, .int p4)] [] (MM RR S0) (some (.int r.1), MM RR r.2) := by
  intro n
  induction n with
  | zero => intro p4 S0 h; exact mm_no h
  | succ n ih =>
    intro p4 S0 h
    unfold lp_X11_isStairHere_114 at h
    refine mr_iload (pc' := 116) dX11_isStairHere_114 rfl rfl ?_
    refine mr_iconst (pc' := 117) (v := (5 : Int32)) dX11_isStairHere_116 rfl (by decide) ?_
    by_cases c26 : (5 : Int32) ≤ p4
    · rw [if_pos c26] at h
      refine mr_icmp_ge_t (t := 162) dX11_isStairHere_117 (by decide) c26 ?_
      exact mr_sub [(0, .ref 145)] ⟨rfl, trivial⟩ rfl (hK _  h)
    · rw [if_neg c26] at h
      refine mr_icmp_ge_f (t := 162) (pc' := 120) dX11_isStairHere_117 (by decide) rfl c26 ?_
      refine mr_aload_n (pc' := 121) dX11_isStairHere_120 rfl rfl ?_
      refine mr_iconst (pc' := 122) (v := (1 : Int32)) dX11_isStairHere_121 rfl (by decide) ?_
      refine mr_iload (pc' := 124) dX11_isStairHere_122 rfl rfl ?_
      refine mr_iconst (pc' := 125) (v := (2 : Int32)) dX11_isStairHere_124 rfl (by decide) ?_
      by_cases c27 : p4 = (2 : Int32)
      · rw [if_pos c27] at h
        refine mr_icmp_ne_f (t := 133) (pc' := 128) dX11_isStairHere_125 (by decide) rfl (not_not_intro c27) ?_
        refine mr_bipush (pc' := 130) (v := (9 : Int32)) dX11_isStairHere_128 rfl (by decide) ?_
        refine mr_goto (t := 135) dX11_isStairHere_130 (by decide) ?_
        obtain ⟨q35, g36, h37⟩ := Option.bind_eq_some_iff.mp h
        refine mr_cv (pc' := 138) (a := 145) (d1 := 1) dX11_isStairHere_135 rfl rfl rfl rfl rfl rfl (by decide) rfl (by decide) (ok_X11_numberHere hR  g36) ?_
        show mr X _ _ 138 _ [.int q35.1] (MM RR q35.2) _
        by_cases c38 : q35.1 = (0 : Int32)
        · rw [if_pos c38] at h37
          refine mr_if_ne_f (t := 143) (pc' := 141) dX11_isStairHere_138 (by decide) rfl (not_not_intro c38) ?_
          refine mr_iconst (pc' := 142) (v := (0 : Int32)) dX11_isStairHere_141 rfl (by decide) ?_
          obtain rfl := Option.some.inj h37
          exact mr_zreturn dX11_isStairHere_142 rfl (by decide)
        · rw [if_neg c38] at h37
          refine mr_if_ne_t (t := 143) dX11_isStairHere_138 (by decide) c38 ?_
          refine mr_aload_n (pc' := 144) dX11_isStairHere_143 rfl rfl ?_
          refine mr_getR (pc' := 147) (ci := 11) (j := 11) (b := 152) hR dX11_isStairHere_144 rfl rfl rfl (by decide) (by decide) (by decide) rfl rfl ?_
          refine mr_iload_n (pc' := 148) dX11_isStairHere_147 rfl rfl ?_
          refine mr_iload (pc' := 150) dX11_isStairHere_148 rfl rfl ?_
          refine mr_iadd (pc' := 151) dX11_isStairHere_150 rfl ?_
          refine mr_aload_n (pc' := 152) dX11_isStairHere_151 rfl rfl ?_
          refine mr_getI (pc' := 155) (ci := 11) (j := 15) dX11_isStairHere_152 rfl rfl rfl (by decide) (by decide) rfl ?_
          obtain ⟨S39, g40, h41⟩ := Option.bind_eq_some_iff.mp h37
          refine mr_iast (pc' := 156) dX11_isStairHere_155 rfl rfl rfl g40 ?_
          refine mr_iinc (pc' := 159) (x' := (p4 + (1 : Int32))) (lv' := [(4, .int (p4 + (1 : Int32))), (0, .ref 145), (2, .int p2)]) dX11_isStairHere_156 rfl (by decide) rfl rfl rfl ?_
          refine mr_goto (t := 114) dX11_isStairHere_159 (by decide) ?_
          exact mr_sub [(0, .ref 145), (2, .int p2), (4, .int (p4 + (1 : Int32)))] ⟨rfl, rfl, rfl, trivial⟩ rfl (ih _ _  h41)
      · rw [if_neg c27] at h
        refine mr_icmp_ne_t (t := 133) dX11_isStairHere_125 (by decide) c27 ?_
        refine mr_bipush (pc' := 135) (v := (20 : Int32)) dX11_isStairHere_133 rfl (by decide) ?_
        obtain ⟨q28, g29, h30⟩ := Option.bind_eq_some_iff.mp h
        refine mr_cv (pc' := 138) (a := 145) (d1 := 1) dX11_isStairHere_135 rfl rfl rfl rfl rfl rfl (by decide) rfl (by decide) (ok_X11_numberHere hR  g29) ?_
        show mr X _ _ 138 _ [.int q28.1] (MM RR q28.2) _
        by_cases c31 : q28.1 = (0 : Int32)
        · rw [if_pos c31] at h30
          refine mr_if_ne_f (t := 143) (pc' := 141) dX11_isStairHere_138 (by decide) rfl (not_not_intro c31) ?_
          refine mr_iconst (pc' := 142) (v := (0 : Int32)) dX11_isStairHere_141 rfl (by decide) ?_
          obtain rfl := Option.some.inj h30
          exact mr_zreturn dX11_isStairHere_142 rfl (by decide)
        · rw [if_neg c31] at h30
          refine mr_if_ne_t (t := 143) dX11_isStairHere_138 (by decide) c31 ?_
          refine mr_aload_n (pc' := 144) dX11_isStairHere_143 rfl rfl ?_
          refine mr_getR (pc' := 147) (ci := 11) (j := 11) (b := 152) hR dX11_isStairHere_144 rfl rfl rfl (by decide) (by decide) (by decide) rfl rfl ?_
          refine mr_iload_n (pc' := 148) dX11_isStairHere_147 rfl rfl ?_
          refine mr_iload (pc' := 150) dX11_isStairHere_148 rfl rfl ?_
          refine mr_iadd (pc' := 151) dX11_isStairHere_150 rfl ?_
          refine mr_aload_n (pc' := 152) dX11_isStairHere_151 rfl rfl ?_
          refine mr_getI (pc' := 155) (ci := 11) (j := 15) dX11_isStairHere_152 rfl rfl rfl (by decide) (by decide) rfl ?_
          obtain ⟨S32, g33, h34⟩ := Option.bind_eq_some_iff.mp h30
          refine mr_iast (pc' := 156) dX11_isStairHere_155 rfl rfl rfl g33 ?_
          refine mr_iinc (pc' := 159) (x' := (p4 + (1 : Int32))) (lv' := [(4, .int (p4 + (1 : Int32))), (0, .ref 145), (2, .int p2)]) dX11_isStairHere_156 rfl (by decide) rfl rfl rfl ?_
          refine mr_goto (t := 114) dX11_isStairHere_159 (by decide) ?_
          exact mr_sub [(0, .ref 145), (2, .int p2), (4, .int (p4 + (1 : Int32)))] ⟨rfl, rfl, rfl, trivial⟩ rfl (ih _ _  h34)
def f_X11_isStairHere (v1 : Int32) (S : fS) : Option (Int32 × fS) :=
  if (S.1 145 8) = (12 : Int32) then ((f_X11_fails (4 : Int32) v1 S).bind fun q55 =>
  (bZ q55.1).bind fun z58 => some (z58, q55.2)) else
  ((f_X11_passWord  S).bind fun q2 =>
  (f_X11_numberHere (0 : Int32) ((q2.1 145 7) - (1 : Int32)) q2).bind fun q5 =>
  if q5.1 = (0 : Int32) then (some ((0 : Int32), q5.2)) else
  ((sI q5.2 152 60 ((5 : Int32) * (q2.1 145 8)) (q5.2.1 145 15)).bind fun S9 =>
  (f_X11_see  S9).bind fun q12 =>
  (f_X11_numberHere (0 : Int32) ((q12.2.1 145 7) - (1 : Int32)) q12.2).bind fun q15 =>
  if q15.1 = (0 : Int32) then (some ((0 : Int32), q15.2)) else
  ((gI q15.2 152 60 ((5 : Int32) * (q2.1 145 8))).bind fun a19 =>
  if (q15.2.1 145 15) = a19 then ((f_X11_fails (1 : Int32) (q12.2.1 145 13) q15.2).bind fun q47 =>
  (bZ q47.1).bind fun z50 => some (z50, q47.2)) else
  ((sI q15.2 152 60 (((5 : Int32) * (q2.1 145 8)) + (1 : Int32)) (q15.2.1 145 15)).bind fun S23 =>
  lp_X11_isStairHere_114 ((5 : Int32) * (q2.1 145 8)) (fun S42 => (some (pI S42 145 8 ((S42.1 145 8) + (1 : Int32)))).bind fun S44 =>
  some ((1 : Int32), S44)) FU (2 : Int32) S23))))
set_option maxHeartbeats 4000000 in
set_option maxRecDepth 100000 in
theorem ok_X11_isStairHere {X : mm_C} {RR : Nat → Nat → Option Nat} (hR : RRok RR) {v1 : Int32}  {S : fS} {r : Int32 × fS} (h : f_X11_isStairHere v1 S = some r) : mr X 2 mY_X11_isStairHere 0 (lv_args 0 [.ref 145, .int v1]) [] (MM RR S) (some (.int r.1), MM RR r.2) := by
  unfold f_X11_isStairHere at h
  show mr X _ _ 0 [(0, .ref 145), (1, .int v1)] [] (MM RR S) _
  refine mr_aload_n (pc' := 1) dX11_isStairHere_0 rfl rfl ?_
  refine mr_getI (pc' := 4) (ci := 11) (j := 8) dX11_isStairHere_1 rfl rfl rfl (by decide) (by decide) rfl ?_
  refine mr_bipush (pc' := 6) (v := (12 : Int32)) dX11_isStairHere_4 rfl (by decide) ?_
  by_cases c1 : (S.1 145 8) = (12 : Int32)
  · rw [if_pos c1] at h
    refine mr_icmp_ne_f (t := 16) (pc' := 9) dX11_isStairHere_6 (by decide) rfl (not_not_intro c1) ?_
    refine mr_aload_n (pc' := 10) dX11_isStairHere_9 rfl rfl ?_
    refine mr_iconst (pc' := 11) (v := (4 : Int32)) dX11_isStairHere_10 rfl (by decide) ?_
    refine mr_iload_n (pc' := 12) dX11_isStairHere_11 rfl rfl ?_
    obtain ⟨q55, g56, h57⟩ := Option.bind_eq_some_iff.mp h
    refine mr_cv (pc' := 15) (a := 145) (d1 := 0) dX11_isStairHere_12 rfl rfl rfl rfl rfl rfl (by decide) rfl (by decide) (ok_X11_fails hR  g56) ?_
    show mr X _ _ 15 _ [.int q55.1] (MM RR q55.2) _
    obtain ⟨z58, g59, h60⟩ := Option.bind_eq_some_iff.mp h57
    obtain ⟨g61, e62⟩ := mm_ifs g59
    cases e62
    cases h60
    exact mr_zreturn dX11_isStairHere_15 rfl g61
  · rw [if_neg c1] at h
    refine mr_icmp_ne_t (t := 16) dX11_isStairHere_6 (by decide) c1 ?_
    refine mr_aload_n (pc' := 17) dX11_isStairHere_16 rfl rfl ?_
    obtain ⟨q2, g3, h4⟩ := Option.bind_eq_some_iff.mp h
    refine mr_cv (pc' := 20) (a := 145) (d1 := 1) dX11_isStairHere_17 rfl rfl rfl rfl rfl rfl (by decide) rfl (by decide) (ok_X11_passWord hR  g3) ?_
    show mr X _ _ 20 _ [] (MM RR q2) _
    refine mr_iconst (pc' := 21) (v := (5 : Int32)) dX11_isStairHere_20 rfl (by decide) ?_
    refine mr_aload_n (pc' := 22) dX11_isStairHere_21 rfl rfl ?_
    refine mr_getI (pc' := 25) (ci := 11) (j := 8) dX11_isStairHere_22 rfl rfl rfl (by decide) (by decide) rfl ?_
    refine mr_imul (pc' := 26) dX11_isStairHere_25 rfl ?_
    refine mr_istore_n (pc' := 27) (lv' := [(2, .int ((5 : Int32) * (q2.1 145 8))), (0, .ref 145), (1, .int v1)]) dX11_isStairHere_26 rfl (by decide) rfl ?_
    refine mr_aload_n (pc' := 28) dX11_isStairHere_27 rfl rfl ?_
    refine mr_iconst (pc' := 29) (v := (0 : Int32)) dX11_isStairHere_28 rfl (by decide) ?_
    refine mr_aload_n (pc' := 30) dX11_isStairHere_29 rfl rfl ?_
    refine mr_getI (pc' := 33) (ci := 11) (j := 7) dX11_isStairHere_30 rfl rfl rfl (by decide) (by decide) rfl ?_
    refine mr_iconst (pc' := 34) (v := (1 : Int32)) dX11_isStairHere_33 rfl (by decide) ?_
    refine mr_isub (pc' := 35) dX11_isStairHere_34 rfl ?_
    obtain ⟨q5, g6, h7⟩ := Option.bind_eq_some_iff.mp h4
    refine mr_cv (pc' := 38) (a := 145) (d1 := 1) dX11_isStairHere_35 rfl rfl rfl rfl rfl rfl (by decide) rfl (by decide) (ok_X11_numberHere hR  g6) ?_
    show mr X _ _ 38 _ [.int q5.1] (MM RR q5.2) _
    by_cases c8 : q5.1 = (0 : Int32)
    · rw [if_pos c8] at h7
      refine mr_if_ne_f (t := 43) (pc' := 41) dX11_isStairHere_38 (by decide) rfl (not_not_intro c8) ?_
      refine mr_iconst (pc' := 42) (v := (0 : Int32)) dX11_isStairHere_41 rfl (by decide) ?_
      obtain rfl := Option.some.inj h7
      exact mr_zreturn dX11_isStairHere_42 rfl (by decide)
    · rw [if_neg c8] at h7
      refine mr_if_ne_t (t := 43) dX11_isStairHere_38 (by decide) c8 ?_
      refine mr_aload_n (pc' := 44) dX11_isStairHere_43 rfl rfl ?_
      refine mr_getR (pc' := 47) (ci := 11) (j := 11) (b := 152) hR dX11_isStairHere_44 rfl rfl rfl (by decide) (by decide) (by decide) rfl rfl ?_
      refine mr_iload_n (pc' := 48) dX11_isStairHere_47 rfl rfl ?_
      refine mr_aload_n (pc' := 49) dX11_isStairHere_48 rfl rfl ?_
      refine mr_getI (pc' := 52) (ci := 11) (j := 15) dX11_isStairHere_49 rfl rfl rfl (by decide) (by decide) rfl ?_
      obtain ⟨S9, g10, h11⟩ := Option.bind_eq_some_iff.mp h7
      refine mr_iast (pc' := 53) dX11_isStairHere_52 rfl rfl rfl g10 ?_
      refine mr_aload_n (pc' := 54) dX11_isStairHere_53 rfl rfl ?_
      obtain ⟨q12, g13, h14⟩ := Option.bind_eq_some_iff.mp h11
      refine mr_cv (pc' := 57) (a := 145) (d1 := 0) dX11_isStairHere_54 rfl rfl rfl rfl rfl rfl (by decide) rfl (by decide) (ok_X11_see hR  g13) ?_
      show mr X _ _ 57 _ [.int q12.1] (MM RR q12.2) _
      refine mr_pop_int (pc' := 58) dX11_isStairHere_57 rfl ?_
      refine mr_aload_n (pc' := 59) dX11_isStairHere_58 rfl rfl ?_
      refine mr_getI (pc' := 62) (ci := 11) (j := 13) dX11_isStairHere_59 rfl rfl rfl (by decide) (by decide) rfl ?_
      refine mr_istore_n (pc' := 63) (lv' := [(3, .int (q12.2.1 145 13)), (2, .int ((5 : Int32) * (q2.1 145 8))), (0, .ref 145), (1, .int v1)]) dX11_isStairHere_62 rfl (by decide) rfl ?_
      refine mr_aload_n (pc' := 64) dX11_isStairHere_63 rfl rfl ?_
      refine mr_iconst (pc' := 65) (v := (0 : Int32)) dX11_isStairHere_64 rfl (by decide) ?_
      refine mr_aload_n (pc' := 66) dX11_isStairHere_65 rfl rfl ?_
      refine mr_getI (pc' := 69) (ci := 11) (j := 7) dX11_isStairHere_66 rfl rfl rfl (by decide) (by decide) rfl ?_
      refine mr_iconst (pc' := 70) (v := (1 : Int32)) dX11_isStairHere_69 rfl (by decide) ?_
      refine mr_isub (pc' := 71) dX11_isStairHere_70 rfl ?_
      obtain ⟨q15, g16, h17⟩ := Option.bind_eq_some_iff.mp h14
      refine mr_cv (pc' := 74) (a := 145) (d1 := 1) dX11_isStairHere_71 rfl rfl rfl rfl rfl rfl (by decide) rfl (by decide) (ok_X11_numberHere hR  g16) ?_
      show mr X _ _ 74 _ [.int q15.1] (MM RR q15.2) _
      by_cases c18 : q15.1 = (0 : Int32)
      · rw [if_pos c18] at h17
        refine mr_if_ne_f (t := 79) (pc' := 77) dX11_isStairHere_74 (by decide) rfl (not_not_intro c18) ?_
        refine mr_iconst (pc' := 78) (v := (0 : Int32)) dX11_isStairHere_77 rfl (by decide) ?_
        obtain rfl := Option.some.inj h17
        exact mr_zreturn dX11_isStairHere_78 rfl (by decide)
      · rw [if_neg c18] at h17
        refine mr_if_ne_t (t := 79) dX11_isStairHere_74 (by decide) c18 ?_
        refine mr_aload_n (pc' := 80) dX11_isStairHere_79 rfl rfl ?_
        refine mr_getI (pc' := 83) (ci := 11) (j := 15) dX11_isStairHere_80 rfl rfl rfl (by decide) (by decide) rfl ?_
        refine mr_aload_n (pc' := 84) dX11_isStairHere_83 rfl rfl ?_
        refine mr_getR (pc' := 87) (ci := 11) (j := 11) (b := 152) hR dX11_isStairHere_84 rfl rfl rfl (by decide) (by decide) (by decide) rfl rfl ?_
        refine mr_iload_n (pc' := 88) dX11_isStairHere_87 rfl rfl ?_
        obtain ⟨a19, g20, h21⟩ := Option.bind_eq_some_iff.mp h17
        refine mr_iald (pc' := 89) dX11_isStairHere_88 rfl rfl rfl g20 ?_
        by_cases c22 : (q15.2.1 145 15) = a19
        · rw [if_pos c22] at h21
          refine mr_icmp_ne_f (t := 99) (pc' := 92) dX11_isStairHere_89 (by decide) rfl (not_not_intro c22) ?_
          refine mr_aload_n (pc' := 93) dX11_isStairHere_92 rfl rfl ?_
          refine mr_iconst (pc' := 94) (v := (1 : Int32)) dX11_isStairHere_93 rfl (by decide) ?_
          refine mr_iload_n (pc' := 95) dX11_isStairHere_94 rfl rfl ?_
          obtain ⟨q47, g48, h49⟩ := Option.bind_eq_some_iff.mp h21
          refine mr_cv (pc' := 98) (a := 145) (d1 := 0) dX11_isStairHere_95 rfl rfl rfl rfl rfl rfl (by decide) rfl (by decide) (ok_X11_fails hR  g48) ?_
          show mr X _ _ 98 _ [.int q47.1] (MM RR q47.2) _
          obtain ⟨z50, g51, h52⟩ := Option.bind_eq_some_iff.mp h49
          obtain ⟨g53, e54⟩ := mm_ifs g51
          cases e54
          cases h52
          exact mr_zreturn dX11_isStairHere_98 rfl g53
        · rw [if_neg c22] at h21
          refine mr_icmp_ne_t (t := 99) dX11_isStairHere_89 (by decide) c22 ?_
          refine mr_aload_n (pc' := 100) dX11_isStairHere_99 rfl rfl ?_
          refine mr_getR (pc' := 103) (ci := 11) (j := 11) (b := 152) hR dX11_isStairHere_100 rfl rfl rfl (by decide) (by decide) (by decide) rfl rfl ?_
          refine mr_iload_n (pc' := 104) dX11_isStairHere_103 rfl rfl ?_
          refine mr_iconst (pc' := 105) (v := (1 : Int32)) dX11_isStairHere_104 rfl (by decide) ?_
          refine mr_iadd (pc' := 106) dX11_isStairHere_105 rfl ?_
          refine mr_aload_n (pc' := 107) dX11_isStairHere_106 rfl rfl ?_
          refine mr_getI (pc' := 110) (ci := 11) (j := 15) dX11_isStairHere_107 rfl rfl rfl (by decide) (by decide) rfl ?_
          obtain ⟨S23, g24, h25⟩ := Option.bind_eq_some_iff.mp h21
          refine mr_iast (pc' := 111) dX11_isStairHere_110 rfl rfl rfl g24 ?_
          refine mr_iconst (pc' := 112) (v := (2 : Int32)) dX11_isStairHere_111 rfl (by decide) ?_
          refine mr_istore (pc' := 114) (lv' := [(4, .int (2 : Int32)), (3, .int (q12.2.1 145 13)), (2, .int ((5 : Int32) * (q2.1 145 8))), (0, .ref 145), (1, .int v1)]) dX11_isStairHere_112 rfl (by decide) rfl ?_
          refine mr_sub [(0, .ref 145), (2, .int ((5 : Int32) * (q2.1 145 8))), (4, .int (2 : Int32))] ⟨rfl, rfl, rfl, trivial⟩ rfl ?_
          refine ok_lp_X11_isStairHere_114 hR  (fun S42 h43 => ?_) FU _ _  h25
          refine mr_aload_n (pc' := 163) dX11_isStairHere_162 rfl rfl ?_
          refine mr_dup_ref (pc' := 164) dX11_isStairHere_163 rfl ?_
          refine mr_getI (pc' := 167) (ci := 11) (j := 8) dX11_isStairHere_164 rfl rfl rfl (by decide) (by decide) rfl ?_
          refine mr_iconst (pc' := 168) (v := (1 : Int32)) dX11_isStairHere_167 rfl (by decide) ?_
          refine mr_iadd (pc' := 169) dX11_isStairHere_168 rfl ?_
          obtain ⟨S44, g45, h46⟩ := Option.bind_eq_some_iff.mp h43
          refine mr_putI (pc' := 172) (ci := 11) (j := 8) dX11_isStairHere_169 rfl rfl rfl (by decide) (by decide) rfl rfl ?_
          rw [Option.some.inj g45]
          refine mr_iconst (pc' := 173) (v := (1 : Int32)) dX11_isStairHere_172 rfl (by decide) ?_
          obtain rfl := Option.some.inj h46
          exact mr_zreturn dX11_isStairHere_173 rfl (by decide)
def f_X11_isThingHere (v1 : Int32) (S : fS) : Option (Int32 × fS) :=
  if (S.1 145 9) = (8 : Int32) then ((f_X11_fails (4 : Int32) v1 S).bind fun q15 =>
  (bZ q15.1).bind fun z18 => some (z18, q15.2)) else
  ((f_X11_passWord  S).bind fun q2 =>
  (f_X11_numberHere (0 : Int32) ((q2.1 145 7) - (1 : Int32)) q2).bind fun q5 =>
  if q5.1 = (0 : Int32) then (some ((0 : Int32), q5.2)) else
  ((sI q5.2 153 8 (q5.2.1 145 9) (q5.2.1 145 15)).bind fun S9 =>
  (some (pI S9 145 9 ((S9.1 145 9) + (1 : Int32)))).bind fun S12 =>
  some ((1 : Int32), S12)))
set_option maxHeartbeats 4000000 in
set_option maxRecDepth 100000 in
theorem ok_X11_isThingHere {X : mm_C} {RR : Nat → Nat → Option Nat} (hR : RRok RR) {v1 : Int32}  {S : fS} {r : Int32 × fS} (h : f_X11_isThingHere v1 S = some r) : mr X 2 mY_X11_isThingHere 0 (lv_args 0 [.ref 145, .int v1]) [] (MM RR S) (some (.int r.1), MM RR r.2) := by
  unfold f_X11_isThingHere at h
  show mr X _ _ 0 [(0, .ref 145), (1, .int v1)] [] (MM RR S) _
  refine mr_aload_n (pc' := 1) dX11_isThingHere_0 rfl rfl ?_
  refine mr_getI (pc' := 4) (ci := 11) (j := 9) dX11_isThingHere_1 rfl rfl rfl (by decide) (by decide) rfl ?_
  refine mr_bipush (pc' := 6) (v := (8 : Int32)) dX11_isThingHere_4 rfl (by decide) ?_
  by_cases c1 : (S.1 145 9) = (8 : Int32)
  · rw [if_pos c1] at h
    refine mr_icmp_ne_f (t := 16) (pc' := 9) dX11_isThingHere_6 (by decide) rfl (not_not_intro c1) ?_
    refine mr_aload_n (pc' := 10) dX11_isThingHere_9 rfl rfl ?_
    refine mr_iconst (pc' := 11) (v := (4 : Int32)) dX11_isThingHere_10 rfl (by decide) ?_
    refine mr_iload_n (pc' := 12) dX11_isThingHere_11 rfl rfl ?_
    obtain ⟨q15, g16, h17⟩ := Option.bind_eq_some_iff.mp h
    refine mr_cv (pc' := 15) (a := 145) (d1 := 0) dX11_isThingHere_12 rfl rfl rfl rfl rfl rfl (by decide) rfl (by decide) (ok_X11_fails hR  g16) ?_
    show mr X _ _ 15 _ [.int q15.1] (MM RR q15.2) _
    obtain ⟨z18, g19, h20⟩ := Option.bind_eq_some_iff.mp h17
    obtain ⟨g21, e22⟩ := mm_ifs g19
    cases e22
    cases h20
    exact mr_zreturn dX11_isThingHere_15 rfl g21
  · rw [if_neg c1] at h
    refine mr_icmp_ne_t (t := 16) dX11_isThingHere_6 (by decide) c1 ?_
    refine mr_aload_n (pc' := 17) dX11_isThingHere_16 rfl rfl ?_
    obtain ⟨q2, g3, h4⟩ := Option.bind_eq_some_iff.mp h
    refine mr_cv (pc' := 20) (a := 145) (d1 := 1) dX11_isThingHere_17 rfl rfl rfl rfl rfl rfl (by decide) rfl (by decide) (ok_X11_passWord hR  g3) ?_
    show mr X _ _ 20 _ [] (MM RR q2) _
    refine mr_aload_n (pc' := 21) dX11_isThingHere_20 rfl rfl ?_
    refine mr_iconst (pc' := 22) (v := (0 : Int32)) dX11_isThingHere_21 rfl (by decide) ?_
    refine mr_aload_n (pc' := 23) dX11_isThingHere_22 rfl rfl ?_
    refine mr_getI (pc' := 26) (ci := 11) (j := 7) dX11_isThingHere_23 rfl rfl rfl (by decide) (by decide) rfl ?_
    refine mr_iconst (pc' := 27) (v := (1 : Int32)) dX11_isThingHere_26 rfl (by decide) ?_
    refine mr_isub (pc' := 28) dX11_isThingHere_27 rfl ?_
    obtain ⟨q5, g6, h7⟩ := Option.bind_eq_some_iff.mp h4
    refine mr_cv (pc' := 31) (a := 145) (d1 := 1) dX11_isThingHere_28 rfl rfl rfl rfl rfl rfl (by decide) rfl (by decide) (ok_X11_numberHere hR  g6) ?_
    show mr X _ _ 31 _ [.int q5.1] (MM RR q5.2) _
    by_cases c8 : q5.1 = (0 : Int32)
    · rw [if_pos c8] at h7
      refine mr_if_ne_f (t := 36) (pc' := 34) dX11_isThingHere_31 (by decide) rfl (not_not_intro c8) ?_
      refine mr_iconst (pc' := 35) (v := (0 : Int32)) dX11_isThingHere_34 rfl (by decide) ?_
      obtain rfl := Option.some.inj h7
      exact mr_zreturn dX11_isThingHere_35 rfl (by decide)
    · rw [if_neg c8] at h7
      refine mr_if_ne_t (t := 36) dX11_isThingHere_31 (by decide) c8 ?_
      refine mr_aload_n (pc' := 37) dX11_isThingHere_36 rfl rfl ?_
      refine mr_getR (pc' := 40) (ci := 11) (j := 12) (b := 153) hR dX11_isThingHere_37 rfl rfl rfl (by decide) (by decide) (by decide) rfl rfl ?_
      refine mr_aload_n (pc' := 41) dX11_isThingHere_40 rfl rfl ?_
      refine mr_getI (pc' := 44) (ci := 11) (j := 9) dX11_isThingHere_41 rfl rfl rfl (by decide) (by decide) rfl ?_
      refine mr_aload_n (pc' := 45) dX11_isThingHere_44 rfl rfl ?_
      refine mr_getI (pc' := 48) (ci := 11) (j := 15) dX11_isThingHere_45 rfl rfl rfl (by decide) (by decide) rfl ?_
      obtain ⟨S9, g10, h11⟩ := Option.bind_eq_some_iff.mp h7
      refine mr_iast (pc' := 49) dX11_isThingHere_48 rfl rfl rfl g10 ?_
      refine mr_aload_n (pc' := 50) dX11_isThingHere_49 rfl rfl ?_
      refine mr_dup_ref (pc' := 51) dX11_isThingHere_50 rfl ?_
      refine mr_getI (pc' := 54) (ci := 11) (j := 9) dX11_isThingHere_51 rfl rfl rfl (by decide) (by decide) rfl ?_
      refine mr_iconst (pc' := 55) (v := (1 : Int32)) dX11_isThingHere_54 rfl (by decide) ?_
      refine mr_iadd (pc' := 56) dX11_isThingHere_55 rfl ?_
      obtain ⟨S12, g13, h14⟩ := Option.bind_eq_some_iff.mp h11
      refine mr_putI (pc' := 59) (ci := 11) (j := 9) dX11_isThingHere_56 rfl rfl rfl (by decide) (by decide) rfl rfl ?_
      rw [Option.some.inj g13]
      refine mr_iconst (pc' := 60) (v := (1 : Int32)) dX11_isThingHere_59 rfl (by decide) ?_
      obtain rfl := Option.some.inj h14
      exact mr_zreturn dX11_isThingHere_60 rfl (by decide)
def j_X11_clauseHere_171  (s0 : Int32) (S : fS) : Option (Int32 × fS) :=
  (bZ s0).bind fun z27 => some (z27, S)
set_option maxHeartbeats 4000000 in
set_option maxRecDepth 100000 in
theorem ok_j_X11_clauseHere_171 {X : mm_C} {RR : Nat → Nat → Option Nat} (hR : RRok RR)  {s0 : Int32} {S : fS} {r : Int32 × fS} (h : j_X11_clauseHere_171  s0 S = some r) : mr X 10 mY_X11_clauseHere 171 [] [.int s0] (MM RR S) (some (.int r.1), MM RR r.2) := by
  unfold j_X11_clauseHere_171 at h
  obtain ⟨z27, g28, h29⟩ := Option.bind_eq_some_iff.mp h
  obtain ⟨g30, e31⟩ := mm_ifs g28
  cases e31
  cases h29
  exact mr_zreturn dX11_clauseHere_171 rfl g30
def j_X11_clauseHere_101 (p1 : Int32) (p2 : Int32) (s0 : Int32) (s1 : Int32) (S : fS) : Option (Int32 × fS) :=
  if s1 = s0 then ((f_X11_fails (4 : Int32) p1 S).bind fun q46 =>
  (bZ q46.1).bind fun z49 => some (z49, q46.2)) else
  ((some (pI S 145 19 ((S.1 145 19) + (1 : Int32)))).bind fun S12 =>
  if p2 = (0 : Int32) then ((f_X11_isToHere  S12).bind fun q38 =>
  (bZ q38.1).bind fun z41 => some (z41, q38.2)) else
  ((f_X11_isWord (439905906546 : Int64) S12).bind fun q16 =>
  if q16.1 = (0 : Int32) then ((f_X11_isWord (495873780082 : Int64) q16.2).bind fun q20 =>
  if q20.1 = (0 : Int32) then ((f_X11_isThingHere p1 q20.2).bind fun q24 =>
  j_X11_clauseHere_171  q24.1 q24.2) else
  ((f_X11_isStairHere p1 q20.2).bind fun q32 =>
  j_X11_clauseHere_171  q32.1 q32.2)) else
  ((f_X11_isFloorHere p1 q16.2).bind fun q35 =>
  j_X11_clauseHere_171  q35.1 q35.2)))
set_option maxHeartbeats 4000000 in
set_option maxRecDepth 100000 in
theorem ok_j_X11_clauseHere_101 {X : mm_C} {RR : Nat → Nat → Option Nat} (hR : RRok RR) {p1 : Int32} {p2 : Int32} {s0 : Int32} {s1 : Int32} {S : fS} {r : Int32 × fS} (h : j_X11_clauseHere_101 p1 p2 s0 s1 S = some r) : mr X 10 mY_X11_clauseHere 101 [(0, .ref 145), (1, .int p1), (2, .int p2)] [.int s0, .int s1] (MM RR S) (some (.int r.1), MM RR r.2) := by
  unfold j_X11_clauseHere_101 at h
  by_cases c11 : s1 = s0
  · rw [if_pos c11] at h
    refine mr_icmp_ne_f (t := 111) (pc' := 104) dX11_clauseHere_101 (by decide) rfl (not_not_intro c11) ?_
    refine mr_aload_n (pc' := 105) dX11_clauseHere_104 rfl rfl ?_
    refine mr_iconst (pc' := 106) (v := (4 : Int32)) dX11_clauseHere_105 rfl (by decide) ?_
    refine mr_iload_n (pc' := 107) dX11_clauseHere_106 rfl rfl ?_
    obtain ⟨q46, g47, h48⟩ := Option.bind_eq_some_iff.mp h
    refine mr_cv (pc' := 110) (a := 145) (d1 := 0) dX11_clauseHere_107 rfl rfl rfl rfl rfl rfl (by decide) rfl (by decide) (ok_X11_fails hR  g47) ?_
    show mr X _ _ 110 _ [.int q46.1] (MM RR q46.2) _
    obtain ⟨z49, g50, h51⟩ := Option.bind_eq_some_iff.mp h48
    obtain ⟨g52, e53⟩ := mm_ifs g50
    cases e53
    cases h51
    exact mr_zreturn dX11_clauseHere_110 rfl g52
  · rw [if_neg c11] at h
    refine mr_icmp_ne_t (t := 111) dX11_clauseHere_101 (by decide) c11 ?_
    refine mr_aload_n (pc' := 112) dX11_clauseHere_111 rfl rfl ?_
    refine mr_dup_ref (pc' := 113) dX11_clauseHere_112 rfl ?_
    refine mr_getI (pc' := 116) (ci := 11) (j := 19) dX11_clauseHere_113 rfl rfl rfl (by decide) (by decide) rfl ?_
    refine mr_iconst (pc' := 117) (v := (1 : Int32)) dX11_clauseHere_116 rfl (by decide) ?_
    refine mr_iadd (pc' := 118) dX11_clauseHere_117 rfl ?_
    obtain ⟨S12, g13, h14⟩ := Option.bind_eq_some_iff.mp h
    refine mr_putI (pc' := 121) (ci := 11) (j := 19) dX11_clauseHere_118 rfl rfl rfl (by decide) (by decide) rfl rfl ?_
    rw [Option.some.inj g13]
    refine mr_iload_n (pc' := 122) dX11_clauseHere_121 rfl rfl ?_
    by_cases c15 : p2 = (0 : Int32)
    · rw [if_pos c15] at h14
      refine mr_if_ne_f (t := 130) (pc' := 125) dX11_clauseHere_122 (by decide) rfl (not_not_intro c15) ?_
      refine mr_aload_n (pc' := 126) dX11_clauseHere_125 rfl rfl ?_
      obtain ⟨q38, g39, h40⟩ := Option.bind_eq_some_iff.mp h14
      refine mr_cv (pc' := 129) (a := 145) (d1 := 9) dX11_clauseHere_126 rfl rfl rfl rfl rfl rfl (by decide) rfl (by decide) (ok_X11_isToHere hR  g39) ?_
      show mr X _ _ 129 _ [.int q38.1] (MM RR q38.2) _
      obtain ⟨z41, g42, h43⟩ := Option.bind_eq_some_iff.mp h40
      obtain ⟨g44, e45⟩ := mm_ifs g42
      cases e45
      cases h43
      exact mr_zreturn dX11_clauseHere_129 rfl g44
    · rw [if_neg c15] at h14
      refine mr_if_ne_t (t := 130) dX11_clauseHere_122 (by decide) c15 ?_
      refine mr_aload_n (pc' := 131) dX11_clauseHere_130 rfl rfl ?_
      refine mr_ldc2 (pc' := 134) (v := (439905906546 : Int64)) dX11_clauseHere_131 rfl rfl ?_
      obtain ⟨q16, g17, h18⟩ := Option.bind_eq_some_iff.mp h14
      refine mr_cv (pc' := 137) (a := 145) (d1 := 1) dX11_clauseHere_134 rfl rfl rfl rfl rfl rfl (by decide) rfl (by decide) (ok_X11_isWord hR  g17) ?_
      show mr X _ _ 137 _ [.int q16.1] (MM RR q16.2) _
      by_cases c19 : q16.1 = (0 : Int32)
      · rw [if_pos c19] at h18
        refine mr_if_eq_t (t := 148) dX11_clauseHere_137 (by decide) c19 ?_
        refine mr_aload_n (pc' := 149) dX11_clauseHere_148 rfl rfl ?_
        refine mr_ldc2 (pc' := 152) (v := (495873780082 : Int64)) dX11_clauseHere_149 rfl rfl ?_
        obtain ⟨q20, g21, h22⟩ := Option.bind_eq_some_iff.mp h18
        refine mr_cv (pc' := 155) (a := 145) (d1 := 1) dX11_clauseHere_152 rfl rfl rfl rfl rfl rfl (by decide) rfl (by decide) (ok_X11_isWord hR  g21) ?_
        show mr X _ _ 155 _ [.int q20.1] (MM RR q20.2) _
        by_cases c23 : q20.1 = (0 : Int32)
        · rw [if_pos c23] at h22
          refine mr_if_eq_t (t := 166) dX11_clauseHere_155 (by decide) c23 ?_
          refine mr_aload_n (pc' := 167) dX11_clauseHere_166 rfl rfl ?_
          refine mr_iload_n (pc' := 168) dX11_clauseHere_167 rfl rfl ?_
          obtain ⟨q24, g25, h26⟩ := Option.bind_eq_some_iff.mp h22
          refine mr_cv (pc' := 171) (a := 145) (d1 := 2) dX11_clauseHere_168 rfl rfl rfl rfl rfl rfl (by decide) rfl (by decide) (ok_X11_isThingHere hR  g25) ?_
          show mr X _ _ 171 _ [.int q24.1] (MM RR q24.2) _
          exact mr_sub [] trivial rfl (ok_j_X11_clauseHere_171 hR h26)
        · rw [if_neg c23] at h22
          refine mr_if_eq_f (t := 166) (pc' := 158) dX11_clauseHere_155 (by decide) rfl c23 ?_
          refine mr_aload_n (pc' := 159) dX11_clauseHere_158 rfl rfl ?_
          refine mr_iload_n (pc' := 160) dX11_clauseHere_159 rfl rfl ?_
          obtain ⟨q32, g33, h34⟩ := Option.bind_eq_some_iff.mp h22
          refine mr_cv (pc' := 163) (a := 145) (d1 := 2) dX11_clauseHere_160 rfl rfl rfl rfl rfl rfl (by decide) rfl (by decide) (ok_X11_isStairHere hR  g33) ?_
          show mr X _ _ 163 _ [.int q32.1] (MM RR q32.2) _
          refine mr_goto (t := 171) dX11_clauseHere_163 (by decide) ?_
          exact mr_sub [] trivial rfl (ok_j_X11_clauseHere_171 hR h34)
      · rw [if_neg c19] at h18
        refine mr_if_eq_f (t := 148) (pc' := 140) dX11_clauseHere_137 (by decide) rfl c19 ?_
        refine mr_aload_n (pc' := 141) dX11_clauseHere_140 rfl rfl ?_
        refine mr_iload_n (pc' := 142) dX11_clauseHere_141 rfl rfl ?_
        obtain ⟨q35, g36, h37⟩ := Option.bind_eq_some_iff.mp h18
        refine mr_cv (pc' := 145) (a := 145) (d1 := 2) dX11_clauseHere_142 rfl rfl rfl rfl rfl rfl (by decide) rfl (by decide) (ok_X11_isFloorHere hR  g36) ?_
        show mr X _ _ 145 _ [.int q35.1] (MM RR q35.2) _
        refine mr_goto (t := 171) dX11_clauseHere_145 (by decide) ?_
        exact mr_sub [] trivial rfl (ok_j_X11_clauseHere_171 hR h37)
def j_X11_clauseHere_74 (p1 : Int32) (p2 : Int32) (s0 : Int32) (S : fS) : Option (Int32 × fS) :=
  if s0 = (0 : Int32) then ((f_X11_fails (0 : Int32) p1 S).bind fun q54 =>
  (bZ q54.1).bind fun z57 => some (z57, q54.2)) else
  (if p2 = (0 : Int32) then (j_X11_clauseHere_101 p1 p2 (12 : Int32) (S.1 145 19) S) else
  (j_X11_clauseHere_101 p1 p2 (24 : Int32) (S.1 145 19) S))
set_option maxHeartbeats 4000000 in
set_option maxRecDepth 100000 in
theorem ok_j_X11_clauseHere_74 {X : mm_C} {RR : Nat → Nat → Option Nat} (hR : RRok RR) {p1 : Int32} {p2 : Int32} {s0 : Int32} {S : fS} {r : Int32 × fS} (h : j_X11_clauseHere_74 p1 p2 s0 S = some r) : mr X 10 mY_X11_clauseHere 74 [(0, .ref 145), (1, .int p1), (2, .int p2)] [.int s0] (MM RR S) (some (.int r.1), MM RR r.2) := by
  unfold j_X11_clauseHere_74 at h
  refine mr_istore_n (pc' := 75) (lv' := [(3, .int s0), (0, .ref 145), (1, .int p1), (2, .int p2)]) dX11_clauseHere_74 rfl (by decide) rfl ?_
  refine mr_iload_n (pc' := 76) dX11_clauseHere_75 rfl rfl ?_
  by_cases c9 : s0 = (0 : Int32)
  · rw [if_pos c9] at h
    refine mr_if_ne_f (t := 86) (pc' := 79) dX11_clauseHere_76 (by decide) rfl (not_not_intro c9) ?_
    refine mr_aload_n (pc' := 80) dX11_clauseHere_79 rfl rfl ?_
    refine mr_iconst (pc' := 81) (v := (0 : Int32)) dX11_clauseHere_80 rfl (by decide) ?_
    refine mr_iload_n (pc' := 82) dX11_clauseHere_81 rfl rfl ?_
    obtain ⟨q54, g55, h56⟩ := Option.bind_eq_some_iff.mp h
    refine mr_cv (pc' := 85) (a := 145) (d1 := 0) dX11_clauseHere_82 rfl rfl rfl rfl rfl rfl (by decide) rfl (by decide) (ok_X11_fails hR  g55) ?_
    show mr X _ _ 85 _ [.int q54.1] (MM RR q54.2) _
    obtain ⟨z57, g58, h59⟩ := Option.bind_eq_some_iff.mp h56
    obtain ⟨g60, e61⟩ := mm_ifs g58
    cases e61
    cases h59
    exact mr_zreturn dX11_clauseHere_85 rfl g60
  · rw [if_neg c9] at h
    refine mr_if_ne_t (t := 86) dX11_clauseHere_76 (by decide) c9 ?_
    refine mr_aload_n (pc' := 87) dX11_clauseHere_86 rfl rfl ?_
    refine mr_getI (pc' := 90) (ci := 11) (j := 19) dX11_clauseHere_87 rfl rfl rfl (by decide) (by decide) rfl ?_
    refine mr_iload_n (pc' := 91) dX11_clauseHere_90 rfl rfl ?_
    by_cases c10 : p2 = (0 : Int32)
    · rw [if_pos c10] at h
      refine mr_if_eq_t (t := 99) dX11_clauseHere_91 (by decide) c10 ?_
      refine mr_bipush (pc' := 101) (v := (12 : Int32)) dX11_clauseHere_99 rfl (by decide) ?_
      exact mr_sub [(0, .ref 145), (1, .int p1), (2, .int p2)] ⟨rfl, rfl, rfl, trivial⟩ rfl (ok_j_X11_clauseHere_101 hR h)
    · rw [if_neg c10] at h
      refine mr_if_eq_f (t := 99) (pc' := 94) dX11_clauseHere_91 (by decide) rfl c10 ?_
      refine mr_bipush (pc' := 96) (v := (24 : Int32)) dX11_clauseHere_94 rfl (by decide) ?_
      refine mr_goto (t := 101) dX11_clauseHere_96 (by decide) ?_
      exact mr_sub [(0, .ref 145), (1, .int p1), (2, .int p2)] ⟨rfl, rfl, rfl, trivial⟩ rfl (ok_j_X11_clauseHere_101 hR h)
def j_X11_clauseHere_59 (p1 : Int32) (p2 : Int32)  (S : fS) : Option (Int32 × fS) :=
  j_X11_clauseHere_74 p1 p2 (1 : Int32) S
set_option maxHeartbeats 4000000 in
set_option maxRecDepth 100000 in
theorem ok_j_X11_clauseHere_59 {X : mm_C} {RR : Nat → Nat → Option Nat} (hR : RRok RR) {p1 : Int32} {p2 : Int32}  {S : fS} {r : Int32 × fS} (h : j_X11_clauseHere_59 p1 p2  S = some r) : mr X 10 mY_X11_clauseHere 59 [(0, .ref 145), (1, .int p1), (2, .int p2)] [] (MM RR S) (some (.int r.1), MM RR r.2) := by
  unfold j_X11_clauseHere_59 at h
  refine mr_iconst (pc' := 60) (v := (1 : Int32)) dX11_clauseHere_59 rfl (by decide) ?_
  refine mr_goto (t := 74) dX11_clauseHere_60 (by decide) ?_
  exact mr_sub [(0, .ref 145), (1, .int p1), (2, .int p2)] ⟨rfl, rfl, rfl, trivial⟩ rfl (ok_j_X11_clauseHere_74 hR h)
def j_X11_clauseHere_24 (p1 : Int32) (s0 : Int32) (S : fS) : Option (Int32 × fS) :=
  if s0 = (0 : Int32) then ((f_X11_isWord (29807 : Int64) S).bind fun q6 =>
  j_X11_clauseHere_74 p1 s0 q6.1 q6.2) else
  ((f_X11_isWord (439905906546 : Int64) S).bind fun q62 =>
  if q62.1 = (0 : Int32) then ((f_X11_isWord (495873780082 : Int64) q62.2).bind fun q66 =>
  if q66.1 = (0 : Int32) then ((f_X11_isWord (499967946343 : Int64) q66.2).bind fun q70 =>
  if q70.1 = (0 : Int32) then (j_X11_clauseHere_74 p1 s0 (0 : Int32) q70.2) else
  (j_X11_clauseHere_59 p1 s0  q70.2)) else
  (j_X11_clauseHere_59 p1 s0  q66.2)) else
  (j_X11_clauseHere_59 p1 s0  q62.2))
set_option maxHeartbeats 4000000 in
set_option maxRecDepth 100000 in
theorem ok_j_X11_clauseHere_24 {X : mm_C} {RR : Nat → Nat → Option Nat} (hR : RRok RR) {p1 : Int32} {s0 : Int32} {S : fS} {r : Int32 × fS} (h : j_X11_clauseHere_24 p1 s0 S = some r) : mr X 10 mY_X11_clauseHere 24 [(0, .ref 145), (1, .int p1)] [.int s0] (MM RR S) (some (.int r.1), MM RR r.2) := by
  unfold j_X11_clauseHere_24 at h
  refine mr_istore_n (pc' := 25) (lv' := [(2, .int s0), (0, .ref 145), (1, .int p1)]) dX11_clauseHere_24 rfl (by decide) rfl ?_
  refine mr_iload_n (pc' := 26) dX11_clauseHere_25 rfl rfl ?_
  by_cases c5 : s0 = (0 : Int32)
  · rw [if_pos c5] at h
    refine mr_if_eq_t (t := 67) dX11_clauseHere_26 (by decide) c5 ?_
    refine mr_aload_n (pc' := 68) dX11_clauseHere_67 rfl rfl ?_
    refine mr_ldc2 (pc' := 71) (v := (29807 : Int64)) dX11_clauseHere_68 rfl rfl ?_
    obtain ⟨q6, g7, h8⟩ := Option.bind_eq_some_iff.mp h
    refine mr_cv (pc' := 74) (a := 145) (d1 := 1) dX11_clauseHere_71 rfl rfl rfl rfl rfl rfl (by decide) rfl (by decide) (ok_X11_isWord hR  g7) ?_
    show mr X _ _ 74 _ [.int q6.1] (MM RR q6.2) _
    exact mr_sub [(0, .ref 145), (1, .int p1), (2, .int s0)] ⟨rfl, rfl, rfl, trivial⟩ rfl (ok_j_X11_clauseHere_74 hR h8)
  · rw [if_neg c5] at h
    refine mr_if_eq_f (t := 67) (pc' := 29) dX11_clauseHere_26 (by decide) rfl c5 ?_
    refine mr_aload_n (pc' := 30) dX11_clauseHere_29 rfl rfl ?_
    refine mr_ldc2 (pc' := 33) (v := (439905906546 : Int64)) dX11_clauseHere_30 rfl rfl ?_
    obtain ⟨q62, g63, h64⟩ := Option.bind_eq_some_iff.mp h
    refine mr_cv (pc' := 36) (a := 145) (d1 := 1) dX11_clauseHere_33 rfl rfl rfl rfl rfl rfl (by decide) rfl (by decide) (ok_X11_isWord hR  g63) ?_
    show mr X _ _ 36 _ [.int q62.1] (MM RR q62.2) _
    by_cases c65 : q62.1 = (0 : Int32)
    · rw [if_pos c65] at h64
      refine mr_if_ne_f (t := 59) (pc' := 39) dX11_clauseHere_36 (by decide) rfl (not_not_intro c65) ?_
      refine mr_aload_n (pc' := 40) dX11_clauseHere_39 rfl rfl ?_
      refine mr_ldc2 (pc' := 43) (v := (495873780082 : Int64)) dX11_clauseHere_40 rfl rfl ?_
      obtain ⟨q66, g67, h68⟩ := Option.bind_eq_some_iff.mp h64
      refine mr_cv (pc' := 46) (a := 145) (d1 := 1) dX11_clauseHere_43 rfl rfl rfl rfl rfl rfl (by decide) rfl (by decide) (ok_X11_isWord hR  g67) ?_
      show mr X _ _ 46 _ [.int q66.1] (MM RR q66.2) _
      by_cases c69 : q66.1 = (0 : Int32)
      · rw [if_pos c69] at h68
        refine mr_if_ne_f (t := 59) (pc' := 49) dX11_clauseHere_46 (by decide) rfl (not_not_intro c69) ?_
        refine mr_aload_n (pc' := 50) dX11_clauseHere_49 rfl rfl ?_
        refine mr_ldc2 (pc' := 53) (v := (499967946343 : Int64)) dX11_clauseHere_50 rfl rfl ?_
        obtain ⟨q70, g71, h72⟩ := Option.bind_eq_some_iff.mp h68
        refine mr_cv (pc' := 56) (a := 145) (d1 := 1) dX11_clauseHere_53 rfl rfl rfl rfl rfl rfl (by decide) rfl (by decide) (ok_X11_isWord hR  g71) ?_
        show mr X _ _ 56 _ [.int q70.1] (MM RR q70.2) _
        by_cases c73 : q70.1 = (0 : Int32)
        · rw [if_pos c73] at h72
          refine mr_if_eq_t (t := 63) dX11_clauseHere_56 (by decide) c73 ?_
          refine mr_iconst (pc' := 64) (v := (0 : Int32)) dX11_clauseHere_63 rfl (by decide) ?_
          refine mr_goto (t := 74) dX11_clauseHere_64 (by decide) ?_
          exact mr_sub [(0, .ref 145), (1, .int p1), (2, .int s0)] ⟨rfl, rfl, rfl, trivial⟩ rfl (ok_j_X11_clauseHere_74 hR h72)
        · rw [if_neg c73] at h72
          refine mr_if_eq_f (t := 63) (pc' := 59) dX11_clauseHere_56 (by decide) rfl c73 ?_
          exact mr_sub [(0, .ref 145), (1, .int p1), (2, .int s0)] ⟨rfl, rfl, rfl, trivial⟩ rfl (ok_j_X11_clauseHere_59 hR h72)
      · rw [if_neg c69] at h68
        refine mr_if_ne_t (t := 59) dX11_clauseHere_46 (by decide) c69 ?_
        exact mr_sub [(0, .ref 145), (1, .int p1), (2, .int s0)] ⟨rfl, rfl, rfl, trivial⟩ rfl (ok_j_X11_clauseHere_59 hR h68)
    · rw [if_neg c65] at h64
      refine mr_if_ne_t (t := 59) dX11_clauseHere_36 (by decide) c65 ?_
      exact mr_sub [(0, .ref 145), (1, .int p1), (2, .int s0)] ⟨rfl, rfl, rfl, trivial⟩ rfl (ok_j_X11_clauseHere_59 hR h64)
def f_X11_clauseHere  (S : fS) : Option (Int32 × fS) :=
  (f_X11_see  S).bind fun q1 =>
  if (q1.2.1 145 16) = (6 : Int32) then (j_X11_clauseHere_24 (q1.2.1 145 13) (1 : Int32) q1.2) else
  (j_X11_clauseHere_24 (q1.2.1 145 13) (0 : Int32) q1.2)
set_option maxHeartbeats 4000000 in
set_option maxRecDepth 100000 in
theorem ok_X11_clauseHere {X : mm_C} {RR : Nat → Nat → Option Nat} (hR : RRok RR)   {S : fS} {r : Int32 × fS} (h : f_X11_clauseHere  S = some r) : mr X 10 mY_X11_clauseHere 0 (lv_args 0 [.ref 145]) [] (MM RR S) (some (.int r.1), MM RR r.2) := by
  unfold f_X11_clauseHere at h
  show mr X _ _ 0 [(0, .ref 145)] [] (MM RR S) _
  refine mr_aload_n (pc' := 1) dX11_clauseHere_0 rfl rfl ?_
  obtain ⟨q1, g2, h3⟩ := Option.bind_eq_some_iff.mp h
  refine mr_cv (pc' := 4) (a := 145) (d1 := 0) dX11_clauseHere_1 rfl rfl rfl rfl rfl rfl (by decide) rfl (by decide) (ok_X11_see hR  g2) ?_
  show mr X _ _ 4 _ [.int q1.1] (MM RR q1.2) _
  refine mr_pop_int (pc' := 5) dX11_clauseHere_4 rfl ?_
  refine mr_aload_n (pc' := 6) dX11_clauseHere_5 rfl rfl ?_
  refine mr_getI (pc' := 9) (ci := 11) (j := 13) dX11_clauseHere_6 rfl rfl rfl (by decide) (by decide) rfl ?_
  refine mr_istore_n (pc' := 10) (lv' := [(1, .int (q1.2.1 145 13)), (0, .ref 145)]) dX11_clauseHere_9 rfl (by decide) rfl ?_
  refine mr_aload_n (pc' := 11) dX11_clauseHere_10 rfl rfl ?_
  refine mr_getI (pc' := 14) (ci := 11) (j := 16) dX11_clauseHere_11 rfl rfl rfl (by decide) (by decide) rfl ?_
  refine mr_bipush (pc' := 16) (v := (6 : Int32)) dX11_clauseHere_14 rfl (by decide) ?_
  by_cases c4 : (q1.2.1 145 16) = (6 : Int32)
  · rw [if_pos c4] at h3
    refine mr_icmp_ne_f (t := 23) (pc' := 19) dX11_clauseHere_16 (by decide) rfl (not_not_intro c4) ?_
    refine mr_iconst (pc' := 20) (v := (1 : Int32)) dX11_clauseHere_19 rfl (by decide) ?_
    refine mr_goto (t := 24) dX11_clauseHere_20 (by decide) ?_
    exact mr_sub [(0, .ref 145), (1, .int (q1.2.1 145 13))] ⟨rfl, rfl, trivial⟩ rfl (ok_j_X11_clauseHere_24 hR h3)
  · rw [if_neg c4] at h3
    refine mr_icmp_ne_t (t := 23) dX11_clauseHere_16 (by decide) c4 ?_
    refine mr_iconst (pc' := 24) (v := (0 : Int32)) dX11_clauseHere_23 rfl (by decide) ?_
    exact mr_sub [(0, .ref 145), (1, .int (q1.2.1 145 13))] ⟨rfl, rfl, trivial⟩ rfl (ok_j_X11_clauseHere_24 hR h3)
def lp_X11_readsAll_35  (K : Int32 → fS → Option (Int32 × fS)) : Nat → Int32 → fS → Option (Int32 × fS)
  | 0, _, _ => none
  | n + 1, p1, S0 =>
    if p1 = (0 : Int32) then (K p1 S0) else
    ((f_X11_see  S0).bind fun q20 =>
    if q20.1 = (59 : Int32) then ((some (pI q20.2 145 13 ((q20.2.1 145 13) + (1 : Int32)))).bind fun S24 =>
    (f_X11_clauseHere  S24).bind fun q27 =>
    lp_X11_readsAll_35  K n q27.1 q27.2) else
    (K p1 q20.2))
set_option maxHeartbeats 4000000 in
set_option maxRecDepth 100000 in
theorem ok_lp_X11_readsAll_35 {X : mm_C} {RR : Nat → Nat → Option Nat} (hR : RRok RR)   {K : Int32 → fS → Option (Int32 × fS)} {r : Int32 × fS} (hK : ∀ (k1 : Int32) (Sk : fS), K k1 Sk = some r → mr X 11 mY_X11_readsAll 66 [(0, .ref 145), (1, .int k1)] [] (MM RR Sk) (some (.int r.1), MM RR r.2)) : ∀ (n : Nat) (p1 : Int32) (S0 : fS), lp_X11_readsAll_35  K n p1 S0 = some r → mr X 11 mY_X11_readsAll 35 [(0, .ref 145), (1, .int p1)] [] (MM RR S0) (some (.int r.1), MM RR r.2) := by
  intro n
  induction n with
  | zero => intro p1 S0 h; exact mm_no h
  | succ n ih =>
    intro p1 S0 h
    unfold lp_X11_readsAll_35 at h
    refine mr_iload_n (pc' := 36) dX11_readsAll_35 rfl rfl ?_
    by_cases c19 : p1 = (0 : Int32)
    · rw [if_pos c19] at h
      refine mr_if_eq_t (t := 66) dX11_readsAll_36 (by decide) c19 ?_
      exact mr_sub [(0, .ref 145), (1, .int p1)] ⟨rfl, rfl, trivial⟩ rfl (hK _ _  h)
    · rw [if_neg c19] at h
      refine mr_if_eq_f (t := 66) (pc' := 39) dX11_readsAll_36 (by decide) rfl c19 ?_
      refine mr_aload_n (pc' := 40) dX11_readsAll_39 rfl rfl ?_
      obtain ⟨q20, g21, h22⟩ := Option.bind_eq_some_iff.mp h
      refine mr_cv (pc' := 43) (a := 145) (d1 := 0) dX11_readsAll_40 rfl rfl rfl rfl rfl rfl (by decide) rfl (by decide) (ok_X11_see hR  g21) ?_
      show mr X _ _ 43 _ [.int q20.1] (MM RR q20.2) _
      refine mr_bipush (pc' := 45) (v := (59 : Int32)) dX11_readsAll_43 rfl (by decide) ?_
      by_cases c23 : q20.1 = (59 : Int32)
      · rw [if_pos c23] at h22
        refine mr_icmp_ne_f (t := 66) (pc' := 48) dX11_readsAll_45 (by decide) rfl (not_not_intro c23) ?_
        refine mr_aload_n (pc' := 49) dX11_readsAll_48 rfl rfl ?_
        refine mr_dup_ref (pc' := 50) dX11_readsAll_49 rfl ?_
        refine mr_getI (pc' := 53) (ci := 11) (j := 13) dX11_readsAll_50 rfl rfl rfl (by decide) (by decide) rfl ?_
        refine mr_iconst (pc' := 54) (v := (1 : Int32)) dX11_readsAll_53 rfl (by decide) ?_
        refine mr_iadd (pc' := 55) dX11_readsAll_54 rfl ?_
        obtain ⟨S24, g25, h26⟩ := Option.bind_eq_some_iff.mp h22
        refine mr_putI (pc' := 58) (ci := 11) (j := 13) dX11_readsAll_55 rfl rfl rfl (by decide) (by decide) rfl rfl ?_
        rw [Option.some.inj g25]
        refine mr_aload_n (pc' := 59) dX11_readsAll_58 rfl rfl ?_
        obtain ⟨q27, g28, h29⟩ := Option.bind_eq_some_iff.mp h26
        refine mr_cv (pc' := 62) (a := 145) (d1 := 10) dX11_readsAll_59 rfl rfl rfl rfl rfl rfl (by decide) rfl (by decide) (ok_X11_clauseHere hR  g28) ?_
        show mr X _ _ 62 _ [.int q27.1] (MM RR q27.2) _
        refine mr_istore_n (pc' := 63) (lv' := [(1, .int q27.1), (0, .ref 145)]) dX11_readsAll_62 rfl (by decide) rfl ?_
        refine mr_goto (t := 35) dX11_readsAll_63 (by decide) ?_
        exact mr_sub [(0, .ref 145), (1, .int q27.1)] ⟨rfl, rfl, trivial⟩ rfl (ih _ _  h29)
      · rw [if_neg c23] at h22
        refine mr_icmp_ne_t (t := 66) dX11_readsAll_45 (by decide) c23 ?_
        exact mr_sub [(0, .ref 145), (1, .int p1)] ⟨rfl, rfl, trivial⟩ rfl (hK _ _  h22)
def f_X11_readsAll  (S : fS) : Option (Int32 × fS) :=
  (sI S 148 7 (S.1 145 16) (0 : Int32)).bind fun S1 =>
  (some (pI S1 145 19 (0 : Int32))).bind fun S4 =>
  (some (pI S4 145 13 (0 : Int32))).bind fun S7 =>
  (some (pI S7 145 14 (0 : Int32))).bind fun S10 =>
  (some (pI S10 145 17 (0 : Int32))).bind fun S13 =>
  (f_X11_clauseHere  S13).bind fun q16 =>
  lp_X11_readsAll_35  (fun u30 S31 => if u30 = (0 : Int32) then (if u30 = (0 : Int32) then ((some (pI S31 145 1 (0 : Int32))).bind fun S35 =>
  if (S35.1 145 14) = (0 : Int32) then (some ((1 : Int32), S35)) else
  (some ((0 : Int32), S35))) else
  (if (S31.1 145 16) = (6 : Int32) then (if (S31.1 145 7) = (0 : Int32) then ((f_X11_fails (0 : Int32) (S31.1 145 13) S31).bind fun q49 =>
  (some (pI q49.2 145 1 (0 : Int32))).bind fun S52 =>
  if (S52.1 145 14) = (0 : Int32) then (some ((1 : Int32), S52)) else
  (some ((0 : Int32), S52))) else
  ((some (pI S31 145 1 (0 : Int32))).bind fun S45 =>
  if (S45.1 145 14) = (0 : Int32) then (some ((1 : Int32), S45)) else
  (some ((0 : Int32), S45)))) else
  ((some (pI S31 145 1 (0 : Int32))).bind fun S40 =>
  if (S40.1 145 14) = (0 : Int32) then (some ((1 : Int32), S40)) else
  (some ((0 : Int32), S40))))) else
  ((f_X11_see  S31).bind fun q56 =>
  if q56.1 = (-1 : Int32) then (if u30 = (0 : Int32) then ((some (pI q56.2 145 1 (0 : Int32))).bind fun S61 =>
  if (S61.1 145 14) = (0 : Int32) then (some ((1 : Int32), S61)) else
  (some ((0 : Int32), S61))) else
  (if (q56.2.1 145 16) = (6 : Int32) then (if (q56.2.1 145 7) = (0 : Int32) then ((f_X11_fails (0 : Int32) (q56.2.1 145 13) q56.2).bind fun q75 =>
  (some (pI q75.2 145 1 (0 : Int32))).bind fun S78 =>
  if (S78.1 145 14) = (0 : Int32) then (some ((1 : Int32), S78)) else
  (some ((0 : Int32), S78))) else
  ((some (pI q56.2 145 1 (0 : Int32))).bind fun S71 =>
  if (S71.1 145 14) = (0 : Int32) then (some ((1 : Int32), S71)) else
  (some ((0 : Int32), S71)))) else
  ((some (pI q56.2 145 1 (0 : Int32))).bind fun S66 =>
  if (S66.1 145 14) = (0 : Int32) then (some ((1 : Int32), S66)) else
  (some ((0 : Int32), S66))))) else
  ((f_X11_fails (0 : Int32) (q56.2.1 145 13) q56.2).bind fun q82 =>
  if q82.1 = (0 : Int32) then ((some (pI q82.2 145 1 (0 : Int32))).bind fun S86 =>
  if (S86.1 145 14) = (0 : Int32) then (some ((1 : Int32), S86)) else
  (some ((0 : Int32), S86))) else
  (if (q82.2.1 145 16) = (6 : Int32) then (if (q82.2.1 145 7) = (0 : Int32) then ((f_X11_fails (0 : Int32) (q82.2.1 145 13) q82.2).bind fun q100 =>
  (some (pI q100.2 145 1 (0 : Int32))).bind fun S103 =>
  if (S103.1 145 14) = (0 : Int32) then (some ((1 : Int32), S103)) else
  (some ((0 : Int32), S103))) else
  ((some (pI q82.2 145 1 (0 : Int32))).bind fun S96 =>
  if (S96.1 145 14) = (0 : Int32) then (some ((1 : Int32), S96)) else
  (some ((0 : Int32), S96)))) else
  ((some (pI q82.2 145 1 (0 : Int32))).bind fun S91 =>
  if (S91.1 145 14) = (0 : Int32) then (some ((1 : Int32), S91)) else
  (some ((0 : Int32), S91))))))) FU q16.1 q16.2
set_option maxHeartbeats 4000000 in
set_option maxRecDepth 100000 in
theorem ok_X11_readsAll {X : mm_C} {RR : Nat → Nat → Option Nat} (hR : RRok RR)   {S : fS} {r : Int32 × fS} (h : f_X11_readsAll  S = some r) : mr X 11 mY_X11_readsAll 0 (lv_args 0 [.ref 145]) [] (MM RR S) (some (.int r.1), MM RR r.2) := by
  unfold f_X11_readsAll at h
  show mr X _ _ 0 [(0, .ref 145)] [] (MM RR S) _
  refine mr_aload_n (pc' := 1) dX11_readsAll_0 rfl rfl ?_
  refine mr_getR (pc' := 4) (ci := 11) (j := 4) (b := 148) hR dX11_readsAll_1 rfl rfl rfl (by decide) (by decide) (by decide) rfl rfl ?_
  refine mr_aload_n (pc' := 5) dX11_readsAll_4 rfl rfl ?_
  refine mr_getI (pc' := 8) (ci := 11) (j := 16) dX11_readsAll_5 rfl rfl rfl (by decide) (by decide) rfl ?_
  refine mr_iconst (pc' := 9) (v := (0 : Int32)) dX11_readsAll_8 rfl (by decide) ?_
  obtain ⟨S1, g2, h3⟩ := Option.bind_eq_some_iff.mp h
  refine mr_iast (pc' := 10) dX11_readsAll_9 rfl rfl rfl g2 ?_
  refine mr_aload_n (pc' := 11) dX11_readsAll_10 rfl rfl ?_
  refine mr_iconst (pc' := 12) (v := (0 : Int32)) dX11_readsAll_11 rfl (by decide) ?_
  obtain ⟨S4, g5, h6⟩ := Option.bind_eq_some_iff.mp h3
  refine mr_putI (pc' := 15) (ci := 11) (j := 19) dX11_readsAll_12 rfl rfl rfl (by decide) (by decide) rfl rfl ?_
  rw [Option.some.inj g5]
  refine mr_aload_n (pc' := 16) dX11_readsAll_15 rfl rfl ?_
  refine mr_iconst (pc' := 17) (v := (0 : Int32)) dX11_readsAll_16 rfl (by decide) ?_
  obtain ⟨S7, g8, h9⟩ := Option.bind_eq_some_iff.mp h6
  refine mr_putI (pc' := 20) (ci := 11) (j := 13) dX11_readsAll_17 rfl rfl rfl (by decide) (by decide) rfl rfl ?_
  rw [Option.some.inj g8]
  refine mr_aload_n (pc' := 21) dX11_readsAll_20 rfl rfl ?_
  refine mr_iconst (pc' := 22) (v := (0 : Int32)) dX11_readsAll_21 rfl (by decide) ?_
  obtain ⟨S10, g11, h12⟩ := Option.bind_eq_some_iff.mp h9
  refine mr_putI (pc' := 25) (ci := 11) (j := 14) dX11_readsAll_22 rfl rfl rfl (by decide) (by decide) rfl rfl ?_
  rw [Option.some.inj g11]
  refine mr_aload_n (pc' := 26) dX11_readsAll_25 rfl rfl ?_
  refine mr_iconst (pc' := 27) (v := (0 : Int32)) dX11_readsAll_26 rfl (by decide) ?_
  obtain ⟨S13, g14, h15⟩ := Option.bind_eq_some_iff.mp h12
  refine mr_putI (pc' := 30) (ci := 11) (j := 17) dX11_readsAll_27 rfl rfl rfl (by decide) (by decide) rfl rfl ?_
  rw [Option.some.inj g14]
  refine mr_aload_n (pc' := 31) dX11_readsAll_30 rfl rfl ?_
  obtain ⟨q16, g17, h18⟩ := Option.bind_eq_some_iff.mp h15
  refine mr_cv (pc' := 34) (a := 145) (d1 := 10) dX11_readsAll_31 rfl rfl rfl rfl rfl rfl (by decide) rfl (by decide) (ok_X11_clauseHere hR  g17) ?_
  show mr X _ _ 34 _ [.int q16.1] (MM RR q16.2) _
  refine mr_istore_n (pc' := 35) (lv' := [(1, .int q16.1), (0, .ref 145)]) dX11_readsAll_34 rfl (by decide) rfl ?_
  refine mr_sub [(0, .ref 145), (1, .int q16.1)] ⟨rfl, rfl, trivial⟩ rfl ?_
  refine ok_lp_X11_readsAll_35 hR  (fun u30 S31 h32 => ?_) FU _ _  h18
  refine mr_iload_n (pc' := 67) dX11_readsAll_66 rfl rfl ?_
  by_cases c33 : u30 = (0 : Int32)
  · rw [if_pos c33] at h32
    refine mr_if_eq_t (t := 88) dX11_readsAll_67 (by decide) c33 ?_
    refine mr_iload_n (pc' := 89) dX11_readsAll_88 rfl rfl ?_
    by_cases c34 : u30 = (0 : Int32)
    · rw [if_pos c34] at h32
      refine mr_if_eq_t (t := 118) dX11_readsAll_89 (by decide) c34 ?_
      refine mr_aload_n (pc' := 119) dX11_readsAll_118 rfl rfl ?_
      refine mr_iconst (pc' := 120) (v := (0 : Int32)) dX11_readsAll_119 rfl (by decide) ?_
      obtain ⟨S35, g36, h37⟩ := Option.bind_eq_some_iff.mp h32
      refine mr_putI (pc' := 123) (ci := 11) (j := 1) dX11_readsAll_120 rfl rfl rfl (by decide) (by decide) rfl rfl ?_
      rw [Option.some.inj g36]
      refine mr_aload_n (pc' := 124) dX11_readsAll_123 rfl rfl ?_
      refine mr_getI (pc' := 127) (ci := 11) (j := 14) dX11_readsAll_124 rfl rfl rfl (by decide) (by decide) rfl ?_
      by_cases c38 : (S35.1 145 14) = (0 : Int32)
      · rw [if_pos c38] at h37
        refine mr_if_ne_f (t := 134) (pc' := 130) dX11_readsAll_127 (by decide) rfl (not_not_intro c38) ?_
        refine mr_iconst (pc' := 131) (v := (1 : Int32)) dX11_readsAll_130 rfl (by decide) ?_
        refine mr_goto (t := 135) dX11_readsAll_131 (by decide) ?_
        obtain rfl := Option.some.inj h37
        exact mr_zreturn dX11_readsAll_135 rfl (by decide)
      · rw [if_neg c38] at h37
        refine mr_if_ne_t (t := 134) dX11_readsAll_127 (by decide) c38 ?_
        refine mr_iconst (pc' := 135) (v := (0 : Int32)) dX11_readsAll_134 rfl (by decide) ?_
        obtain rfl := Option.some.inj h37
        exact mr_zreturn dX11_readsAll_135 rfl (by decide)
    · rw [if_neg c34] at h32
      refine mr_if_eq_f (t := 118) (pc' := 92) dX11_readsAll_89 (by decide) rfl c34 ?_
      refine mr_aload_n (pc' := 93) dX11_readsAll_92 rfl rfl ?_
      refine mr_getI (pc' := 96) (ci := 11) (j := 16) dX11_readsAll_93 rfl rfl rfl (by decide) (by decide) rfl ?_
      refine mr_bipush (pc' := 98) (v := (6 : Int32)) dX11_readsAll_96 rfl (by decide) ?_
      by_cases c39 : (S31.1 145 16) = (6 : Int32)
      · rw [if_pos c39] at h32
        refine mr_icmp_ne_f (t := 118) (pc' := 101) dX11_readsAll_98 (by decide) rfl (not_not_intro c39) ?_
        refine mr_aload_n (pc' := 102) dX11_readsAll_101 rfl rfl ?_
        refine mr_getI (pc' := 105) (ci := 11) (j := 7) dX11_readsAll_102 rfl rfl rfl (by decide) (by decide) rfl ?_
        by_cases c44 : (S31.1 145 7) = (0 : Int32)
        · rw [if_pos c44] at h32
          refine mr_if_ne_f (t := 118) (pc' := 108) dX11_readsAll_105 (by decide) rfl (not_not_intro c44) ?_
          refine mr_aload_n (pc' := 109) dX11_readsAll_108 rfl rfl ?_
          refine mr_iconst (pc' := 110) (v := (0 : Int32)) dX11_readsAll_109 rfl (by decide) ?_
          refine mr_aload_n (pc' := 111) dX11_readsAll_110 rfl rfl ?_
          refine mr_getI (pc' := 114) (ci := 11) (j := 13) dX11_readsAll_111 rfl rfl rfl (by decide) (by decide) rfl ?_
          obtain ⟨q49, g50, h51⟩ := Option.bind_eq_some_iff.mp h32
          refine mr_cv (pc' := 117) (a := 145) (d1 := 0) dX11_readsAll_114 rfl rfl rfl rfl rfl rfl (by decide) rfl (by decide) (ok_X11_fails hR  g50) ?_
          show mr X _ _ 117 _ [.int q49.1] (MM RR q49.2) _
          refine mr_pop_int (pc' := 118) dX11_readsAll_117 rfl ?_
          refine mr_aload_n (pc' := 119) dX11_readsAll_118 rfl rfl ?_
          refine mr_iconst (pc' := 120) (v := (0 : Int32)) dX11_readsAll_119 rfl (by decide) ?_
          obtain ⟨S52, g53, h54⟩ := Option.bind_eq_some_iff.mp h51
          refine mr_putI (pc' := 123) (ci := 11) (j := 1) dX11_readsAll_120 rfl rfl rfl (by decide) (by decide) rfl rfl ?_
          rw [Option.some.inj g53]
          refine mr_aload_n (pc' := 124) dX11_readsAll_123 rfl rfl ?_
          refine mr_getI (pc' := 127) (ci := 11) (j := 14) dX11_readsAll_124 rfl rfl rfl (by decide) (by decide) rfl ?_
          by_cases c55 : (S52.1 145 14) = (0 : Int32)
          · rw [if_pos c55] at h54
            refine mr_if_ne_f (t := 134) (pc' := 130) dX11_readsAll_127 (by decide) rfl (not_not_intro c55) ?_
            refine mr_iconst (pc' := 131) (v := (1 : Int32)) dX11_readsAll_130 rfl (by decide) ?_
            refine mr_goto (t := 135) dX11_readsAll_131 (by decide) ?_
            obtain rfl := Option.some.inj h54
            exact mr_zreturn dX11_readsAll_135 rfl (by decide)
          · rw [if_neg c55] at h54
            refine mr_if_ne_t (t := 134) dX11_readsAll_127 (by decide) c55 ?_
            refine mr_iconst (pc' := 135) (v := (0 : Int32)) dX11_readsAll_134 rfl (by decide) ?_
            obtain rfl := Option.some.inj h54
            exact mr_zreturn dX11_readsAll_135 rfl (by decide)
        · rw [if_neg c44] at h32
          refine mr_if_ne_t (t := 118) dX11_readsAll_105 (by decide) c44 ?_
          refine mr_aload_n (pc' := 119) dX11_readsAll_118 rfl rfl ?_
          refine mr_iconst (pc' := 120) (v := (0 : Int32)) dX11_readsAll_119 rfl (by decide) ?_
          obtain ⟨S45, g46, h47⟩ := Option.bind_eq_some_iff.mp h32
          refine mr_putI (pc' := 123) (ci := 11) (j := 1) dX11_readsAll_120 rfl rfl rfl (by decide) (by decide) rfl rfl ?_
          rw [Option.some.inj g46]
          refine mr_aload_n (pc' := 124) dX11_readsAll_123 rfl rfl ?_
          refine mr_getI (pc' := 127) (ci := 11) (j := 14) dX11_readsAll_124 rfl rfl rfl (by decide) (by decide) rfl ?_
          by_cases c48 : (S45.1 145 14) = (0 : Int32)
          · rw [if_pos c48] at h47
            refine mr_if_ne_f (t := 134) (pc' := 130) dX11_readsAll_127 (by decide) rfl (not_not_intro c48) ?_
            refine mr_iconst (pc' := 131) (v := (1 : Int32)) dX11_readsAll_130 rfl (by decide) ?_
            refine mr_goto (t := 135) dX11_readsAll_131 (by decide) ?_
            obtain rfl := Option.some.inj h47
            exact mr_zreturn dX11_readsAll_135 rfl (by decide)
          · rw [if_neg c48] at h47
            refine mr_if_ne_t (t := 134) dX11_readsAll_127 (by decide) c48 ?_
            refine mr_iconst (pc' := 135) (v := (0 : Int32)) dX11_readsAll_134 rfl (by decide) ?_
            obtain rfl := Option.some.inj h47
            exact mr_zreturn dX11_readsAll_135 rfl (by decide)
      · rw [if_neg c39] at h32
        refine mr_icmp_ne_t (t := 118) dX11_readsAll_98 (by decide) c39 ?_
        refine mr_aload_n (pc' := 119) dX11_readsAll_118 rfl rfl ?_
        refine mr_iconst (pc' := 120) (v := (0 : Int32)) dX11_readsAll_119 rfl (by decide) ?_
        obtain ⟨S40, g41, h42⟩ := Option.bind_eq_some_iff.mp h32
        refine mr_putI (pc' := 123) (ci := 11) (j := 1) dX11_readsAll_120 rfl rfl rfl (by decide) (by decide) rfl rfl ?_
        rw [Option.some.inj g41]
        refine mr_aload_n (pc' := 124) dX11_readsAll_123 rfl rfl ?_
        refine mr_getI (pc' := 127) (ci := 11) (j := 14) dX11_readsAll_124 rfl rfl rfl (by decide) (by decide) rfl ?_
        by_cases c43 : (S40.1 145 14) = (0 : Int32)
        · rw [if_pos c43] at h42
          refine mr_if_ne_f (t := 134) (pc' := 130) dX11_readsAll_127 (by decide) rfl (not_not_intro c43) ?_
          refine mr_iconst (pc' := 131) (v := (1 : Int32)) dX11_readsAll_130 rfl (by decide) ?_
          refine mr_goto (t := 135) dX11_readsAll_131 (by decide) ?_
          obtain rfl := Option.some.inj h42
          exact mr_zreturn dX11_readsAll_135 rfl (by decide)
        · rw [if_neg c43] at h42
          refine mr_if_ne_t (t := 134) dX11_readsAll_127 (by decide) c43 ?_
          refine mr_iconst (pc' := 135) (v := (0 : Int32)) dX11_readsAll_134 rfl (by decide) ?_
          obtain rfl := Option.some.inj h42
          exact mr_zreturn dX11_readsAll_135 rfl (by decide)
  · rw [if_neg c33] at h32
    refine mr_if_eq_f (t := 88) (pc' := 70) dX11_readsAll_67 (by decide) rfl c33 ?_
    refine mr_aload_n (pc' := 71) dX11_readsAll_70 rfl rfl ?_
    obtain ⟨q56, g57, h58⟩ := Option.bind_eq_some_iff.mp h32
    refine mr_cv (pc' := 74) (a := 145) (d1 := 0) dX11_readsAll_71 rfl rfl rfl rfl rfl rfl (by decide) rfl (by decide) (ok_X11_see hR  g57) ?_
    show mr X _ _ 74 _ [.int q56.1] (MM RR q56.2) _
    refine mr_iconst (pc' := 75) (v := (-1 : Int32)) dX11_readsAll_74 rfl (by decide) ?_
    by_cases c59 : q56.1 = (-1 : Int32)
    · rw [if_pos c59] at h58
      refine mr_icmp_eq_t (t := 88) dX11_readsAll_75 (by decide) c59 ?_
      refine mr_iload_n (pc' := 89) dX11_readsAll_88 rfl rfl ?_
      by_cases c60 : u30 = (0 : Int32)
      · rw [if_pos c60] at h58
        refine mr_if_eq_t (t := 118) dX11_readsAll_89 (by decide) c60 ?_
        refine mr_aload_n (pc' := 119) dX11_readsAll_118 rfl rfl ?_
        refine mr_iconst (pc' := 120) (v := (0 : Int32)) dX11_readsAll_119 rfl (by decide) ?_
        obtain ⟨S61, g62, h63⟩ := Option.bind_eq_some_iff.mp h58
        refine mr_putI (pc' := 123) (ci := 11) (j := 1) dX11_readsAll_120 rfl rfl rfl (by decide) (by decide) rfl rfl ?_
        rw [Option.some.inj g62]
        refine mr_aload_n (pc' := 124) dX11_readsAll_123 rfl rfl ?_
        refine mr_getI (pc' := 127) (ci := 11) (j := 14) dX11_readsAll_124 rfl rfl rfl (by decide) (by decide) rfl ?_
        by_cases c64 : (S61.1 145 14) = (0 : Int32)
        · rw [if_pos c64] at h63
          refine mr_if_ne_f (t := 134) (pc' := 130) dX11_readsAll_127 (by decide) rfl (not_not_intro c64) ?_
          refine mr_iconst (pc' := 131) (v := (1 : Int32)) dX11_readsAll_130 rfl (by decide) ?_
          refine mr_goto (t := 135) dX11_readsAll_131 (by decide) ?_
          obtain rfl := Option.some.inj h63
          exact mr_zreturn dX11_readsAll_135 rfl (by decide)
        · rw [if_neg c64] at h63
          refine mr_if_ne_t (t := 134) dX11_readsAll_127 (by decide) c64 ?_
          refine mr_iconst (pc' := 135) (v := (0 : Int32)) dX11_readsAll_134 rfl (by decide) ?_
          obtain rfl := Option.some.inj h63
          exact mr_zreturn dX11_readsAll_135 rfl (by decide)
      · rw [if_neg c60] at h58
        refine mr_if_eq_f (t := 118) (pc' := 92) dX11_readsAll_89 (by decide) rfl c60 ?_
        refine mr_aload_n (pc' := 93) dX11_readsAll_92 rfl rfl ?_
        refine mr_getI (pc' := 96) (ci := 11) (j := 16) dX11_readsAll_93 rfl rfl rfl (by decide) (by decide) rfl ?_
        refine mr_bipush (pc' := 98) (v := (6 : Int32)) dX11_readsAll_96 rfl (by decide) ?_
        by_cases c65 : (q56.2.1 145 16) = (6 : Int32)
        · rw [if_pos c65] at h58
          refine mr_icmp_ne_f (t := 118) (pc' := 101) dX11_readsAll_98 (by decide) rfl (not_not_intro c65) ?_
          refine mr_aload_n (pc' := 102) dX11_readsAll_101 rfl rfl ?_
          refine mr_getI (pc' := 105) (ci := 11) (j := 7) dX11_readsAll_102 rfl rfl rfl (by decide) (by decide) rfl ?_
          by_cases c70 : (q56.2.1 145 7) = (0 : Int32)
          · rw [if_pos c70] at h58
            refine mr_if_ne_f (t := 118) (pc' := 108) dX11_readsAll_105 (by decide) rfl (not_not_intro c70) ?_
            refine mr_aload_n (pc' := 109) dX11_readsAll_108 rfl rfl ?_
            refine mr_iconst (pc' := 110) (v := (0 : Int32)) dX11_readsAll_109 rfl (by decide) ?_
            refine mr_aload_n (pc' := 111) dX11_readsAll_110 rfl rfl ?_
            refine mr_getI (pc' := 114) (ci := 11) (j := 13) dX11_readsAll_111 rfl rfl rfl (by decide) (by decide) rfl ?_
            obtain ⟨q75, g76, h77⟩ := Option.bind_eq_some_iff.mp h58
            refine mr_cv (pc' := 117) (a := 145) (d1 := 0) dX11_readsAll_114 rfl rfl rfl rfl rfl rfl (by decide) rfl (by decide) (ok_X11_fails hR  g76) ?_
            show mr X _ _ 117 _ [.int q75.1] (MM RR q75.2) _
            refine mr_pop_int (pc' := 118) dX11_readsAll_117 rfl ?_
            refine mr_aload_n (pc' := 119) dX11_readsAll_118 rfl rfl ?_
            refine mr_iconst (pc' := 120) (v := (0 : Int32)) dX11_readsAll_119 rfl (by decide) ?_
            obtain ⟨S78, g79, h80⟩ := Option.bind_eq_some_iff.mp h77
            refine mr_putI (pc' := 123) (ci := 11) (j := 1) dX11_readsAll_120 rfl rfl rfl (by decide) (by decide) rfl rfl ?_
            rw [Option.some.inj g79]
            refine mr_aload_n (pc' := 124) dX11_readsAll_123 rfl rfl ?_
            refine mr_getI (pc' := 127) (ci := 11) (j := 14) dX11_readsAll_124 rfl rfl rfl (by decide) (by decide) rfl ?_
            by_cases c81 : (S78.1 145 14) = (0 : Int32)
            · rw [if_pos c81] at h80
              refine mr_if_ne_f (t := 134) (pc' := 130) dX11_readsAll_127 (by decide) rfl (not_not_intro c81) ?_
              refine mr_iconst (pc' := 131) (v := (1 : Int32)) dX11_readsAll_130 rfl (by decide) ?_
              refine mr_goto (t := 135) dX11_readsAll_131 (by decide) ?_
              obtain rfl := Option.some.inj h80
              exact mr_zreturn dX11_readsAll_135 rfl (by decide)
            · rw [if_neg c81] at h80
              refine mr_if_ne_t (t := 134) dX11_readsAll_127 (by decide) c81 ?_
              refine mr_iconst (pc' := 135) (v := (0 : Int32)) dX11_readsAll_134 rfl (by decide) ?_
              obtain rfl := Option.some.inj h80
              exact mr_zreturn dX11_readsAll_135 rfl (by decide)
          · rw [if_neg c70] at h58
            refine mr_if_ne_t (t := 118) dX11_readsAll_105 (by decide) c70 ?_
            refine mr_aload_n (pc' := 119) dX11_readsAll_118 rfl rfl ?_
            refine mr_iconst (pc' := 120) (v := (0 : Int32)) dX11_readsAll_119 rfl (by decide) ?_
            obtain ⟨S71, g72, h73⟩ := Option.bind_eq_some_iff.mp h58
            refine mr_putI (pc' := 123) (ci := 11) (j := 1) dX11_readsAll_120 rfl rfl rfl (by decide) (by decide) rfl rfl ?_
            rw [Option.some.inj g72]
            refine mr_aload_n (pc' := 124) dX11_readsAll_123 rfl rfl ?_
            refine mr_getI (pc' := 127) (ci := 11) (j := 14) dX11_readsAll_124 rfl rfl rfl (by decide) (by decide) rfl ?_
            by_cases c74 : (S71.1 145 14) = (0 : Int32)
            · rw [if_pos c74] at h73
              refine mr_if_ne_f (t := 134) (pc' := 130) dX11_readsAll_127 (by decide) rfl (not_not_intro c74) ?_
              refine mr_iconst (pc' := 131) (v := (1 : Int32)) dX11_readsAll_130 rfl (by decide) ?_
              refine mr_goto (t := 135) dX11_readsAll_131 (by decide) ?_
              obtain rfl := Option.some.inj h73
              exact mr_zreturn dX11_readsAll_135 rfl (by decide)
            · rw [if_neg c74] at h73
              refine mr_if_ne_t (t := 134) dX11_readsAll_127 (by decide) c74 ?_
              refine mr_iconst (pc' := 135) (v := (0 : Int32)) dX11_readsAll_134 rfl (by decide) ?_
              obtain rfl := Option.some.inj h73
              exact mr_zreturn dX11_readsAll_135 rfl (by decide)
        · rw [if_neg c65] at h58
          refine mr_icmp_ne_t (t := 118) dX11_readsAll_98 (by decide) c65 ?_
          refine mr_aload_n (pc' := 119) dX11_readsAll_118 rfl rfl ?_
          refine mr_iconst (pc' := 120) (v := (0 : Int32)) dX11_readsAll_119 rfl (by decide) ?_
          obtain ⟨S66, g67, h68⟩ := Option.bind_eq_some_iff.mp h58
          refine mr_putI (pc' := 123) (ci := 11) (j := 1) dX11_readsAll_120 rfl rfl rfl (by decide) (by decide) rfl rfl ?_
          rw [Option.some.inj g67]
          refine mr_aload_n (pc' := 124) dX11_readsAll_123 rfl rfl ?_
          refine mr_getI (pc' := 127) (ci := 11) (j := 14) dX11_readsAll_124 rfl rfl rfl (by decide) (by decide) rfl ?_
          by_cases c69 : (S66.1 145 14) = (0 : Int32)
          · rw [if_pos c69] at h68
            refine mr_if_ne_f (t := 134) (pc' := 130) dX11_readsAll_127 (by decide) rfl (not_not_intro c69) ?_
            refine mr_iconst (pc' := 131) (v := (1 : Int32)) dX11_readsAll_130 rfl (by decide) ?_
            refine mr_goto (t := 135) dX11_readsAll_131 (by decide) ?_
            obtain rfl := Option.some.inj h68
            exact mr_zreturn dX11_readsAll_135 rfl (by decide)
          · rw [if_neg c69] at h68
            refine mr_if_ne_t (t := 134) dX11_readsAll_127 (by decide) c69 ?_
            refine mr_iconst (pc' := 135) (v := (0 : Int32)) dX11_readsAll_134 rfl (by decide) ?_
            obtain rfl := Option.some.inj h68
            exact mr_zreturn dX11_readsAll_135 rfl (by decide)
    · rw [if_neg c59] at h58
      refine mr_icmp_eq_f (t := 88) (pc' := 78) dX11_readsAll_75 (by decide) rfl c59 ?_
      refine mr_aload_n (pc' := 79) dX11_readsAll_78 rfl rfl ?_
      refine mr_iconst (pc' := 80) (v := (0 : Int32)) dX11_readsAll_79 rfl (by decide) ?_
      refine mr_aload_n (pc' := 81) dX11_readsAll_80 rfl rfl ?_
      refine mr_getI (pc' := 84) (ci := 11) (j := 13) dX11_readsAll_81 rfl rfl rfl (by decide) (by decide) rfl ?_
      obtain ⟨q82, g83, h84⟩ := Option.bind_eq_some_iff.mp h58
      refine mr_cv (pc' := 87) (a := 145) (d1 := 0) dX11_readsAll_84 rfl rfl rfl rfl rfl rfl (by decide) rfl (by decide) (ok_X11_fails hR  g83) ?_
      show mr X _ _ 87 _ [.int q82.1] (MM RR q82.2) _
      refine mr_istore_n (pc' := 88) (lv' := [(1, .int q82.1), (0, .ref 145)]) dX11_readsAll_87 rfl (by decide) rfl ?_
      refine mr_iload_n (pc' := 89) dX11_readsAll_88 rfl rfl ?_
      by_cases c85 : q82.1 = (0 : Int32)
      · rw [if_pos c85] at h84
        refine mr_if_eq_t (t := 118) dX11_readsAll_89 (by decide) c85 ?_
        refine mr_aload_n (pc' := 119) dX11_readsAll_118 rfl rfl ?_
        refine mr_iconst (pc' := 120) (v := (0 : Int32)) dX11_readsAll_119 rfl (by decide) ?_
        obtain ⟨S86, g87, h88⟩ := Option.bind_eq_some_iff.mp h84
        refine mr_putI (pc' := 123) (ci := 11) (j := 1) dX11_readsAll_120 rfl rfl rfl (by decide) (by decide) rfl rfl ?_
        rw [Option.some.inj g87]
        refine mr_aload_n (pc' := 124) dX11_readsAll_123 rfl rfl ?_
        refine mr_getI (pc' := 127) (ci := 11) (j := 14) dX11_readsAll_124 rfl rfl rfl (by decide) (by decide) rfl ?_
        by_cases c89 : (S86.1 145 14) = (0 : Int32)
        · rw [if_pos c89] at h88
          refine mr_if_ne_f (t := 134) (pc' := 130) dX11_readsAll_127 (by decide) rfl (not_not_intro c89) ?_
          refine mr_iconst (pc' := 131) (v := (1 : Int32)) dX11_readsAll_130 rfl (by decide) ?_
          refine mr_goto (t := 135) dX11_readsAll_131 (by decide) ?_
          obtain rfl := Option.some.inj h88
          exact mr_zreturn dX11_readsAll_135 rfl (by decide)
        · rw [if_neg c89] at h88
          refine mr_if_ne_t (t := 134) dX11_readsAll_127 (by decide) c89 ?_
          refine mr_iconst (pc' := 135) (v := (0 : Int32)) dX11_readsAll_134 rfl (by decide) ?_
          obtain rfl := Option.some.inj h88
          exact mr_zreturn dX11_readsAll_135 rfl (by decide)
      · rw [if_neg c85] at h84
        refine mr_if_eq_f (t := 118) (pc' := 92) dX11_readsAll_89 (by decide) rfl c85 ?_
        refine mr_aload_n (pc' := 93) dX11_readsAll_92 rfl rfl ?_
        refine mr_getI (pc' := 96) (ci := 11) (j := 16) dX11_readsAll_93 rfl rfl rfl (by decide) (by decide) rfl ?_
        refine mr_bipush (pc' := 98) (v := (6 : Int32)) dX11_readsAll_96 rfl (by decide) ?_
        by_cases c90 : (q82.2.1 145 16) = (6 : Int32)
        · rw [if_pos c90] at h84
          refine mr_icmp_ne_f (t := 118) (pc' := 101) dX11_readsAll_98 (by decide) rfl (not_not_intro c90) ?_
          refine mr_aload_n (pc' := 102) dX11_readsAll_101 rfl rfl ?_
          refine mr_getI (pc' := 105) (ci := 11) (j := 7) dX11_readsAll_102 rfl rfl rfl (by decide) (by decide) rfl ?_
          by_cases c95 : (q82.2.1 145 7) = (0 : Int32)
          · rw [if_pos c95] at h84
            refine mr_if_ne_f (t := 118) (pc' := 108) dX11_readsAll_105 (by decide) rfl (not_not_intro c95) ?_
            refine mr_aload_n (pc' := 109) dX11_readsAll_108 rfl rfl ?_
            refine mr_iconst (pc' := 110) (v := (0 : Int32)) dX11_readsAll_109 rfl (by decide) ?_
            refine mr_aload_n (pc' := 111) dX11_readsAll_110 rfl rfl ?_
            refine mr_getI (pc' := 114) (ci := 11) (j := 13) dX11_readsAll_111 rfl rfl rfl (by decide) (by decide) rfl ?_
            obtain ⟨q100, g101, h102⟩ := Option.bind_eq_some_iff.mp h84
            refine mr_cv (pc' := 117) (a := 145) (d1 := 0) dX11_readsAll_114 rfl rfl rfl rfl rfl rfl (by decide) rfl (by decide) (ok_X11_fails hR  g101) ?_
            show mr X _ _ 117 _ [.int q100.1] (MM RR q100.2) _
            refine mr_pop_int (pc' := 118) dX11_readsAll_117 rfl ?_
            refine mr_aload_n (pc' := 119) dX11_readsAll_118 rfl rfl ?_
            refine mr_iconst (pc' := 120) (v := (0 : Int32)) dX11_readsAll_119 rfl (by decide) ?_
            obtain ⟨S103, g104, h105⟩ := Option.bind_eq_some_iff.mp h102
            refine mr_putI (pc' := 123) (ci := 11) (j := 1) dX11_readsAll_120 rfl rfl rfl (by decide) (by decide) rfl rfl ?_
            rw [Option.some.inj g104]
            refine mr_aload_n (pc' := 124) dX11_readsAll_123 rfl rfl ?_
            refine mr_getI (pc' := 127) (ci := 11) (j := 14) dX11_readsAll_124 rfl rfl rfl (by decide) (by decide) rfl ?_
            by_cases c106 : (S103.1 145 14) = (0 : Int32)
            · rw [if_pos c106] at h105
              refine mr_if_ne_f (t := 134) (pc' := 130) dX11_readsAll_127 (by decide) rfl (not_not_intro c106) ?_
              refine mr_iconst (pc' := 131) (v := (1 : Int32)) dX11_readsAll_130 rfl (by decide) ?_
              refine mr_goto (t := 135) dX11_readsAll_131 (by decide) ?_
              obtain rfl := Option.some.inj h105
              exact mr_zreturn dX11_readsAll_135 rfl (by decide)
            · rw [if_neg c106] at h105
              refine mr_if_ne_t (t := 134) dX11_readsAll_127 (by decide) c106 ?_
              refine mr_iconst (pc' := 135) (v := (0 : Int32)) dX11_readsAll_134 rfl (by decide) ?_
              obtain rfl := Option.some.inj h105
              exact mr_zreturn dX11_readsAll_135 rfl (by decide)
          · rw [if_neg c95] at h84
            refine mr_if_ne_t (t := 118) dX11_readsAll_105 (by decide) c95 ?_
            refine mr_aload_n (pc' := 119) dX11_readsAll_118 rfl rfl ?_
            refine mr_iconst (pc' := 120) (v := (0 : Int32)) dX11_readsAll_119 rfl (by decide) ?_
            obtain ⟨S96, g97, h98⟩ := Option.bind_eq_some_iff.mp h84
            refine mr_putI (pc' := 123) (ci := 11) (j := 1) dX11_readsAll_120 rfl rfl rfl (by decide) (by decide) rfl rfl ?_
            rw [Option.some.inj g97]
            refine mr_aload_n (pc' := 124) dX11_readsAll_123 rfl rfl ?_
            refine mr_getI (pc' := 127) (ci := 11) (j := 14) dX11_readsAll_124 rfl rfl rfl (by decide) (by decide) rfl ?_
            by_cases c99 : (S96.1 145 14) = (0 : Int32)
            · rw [if_pos c99] at h98
              refine mr_if_ne_f (t := 134) (pc' := 130) dX11_readsAll_127 (by decide) rfl (not_not_intro c99) ?_
              refine mr_iconst (pc' := 131) (v := (1 : Int32)) dX11_readsAll_130 rfl (by decide) ?_
              refine mr_goto (t := 135) dX11_readsAll_131 (by decide) ?_
              obtain rfl := Option.some.inj h98
              exact mr_zreturn dX11_readsAll_135 rfl (by decide)
            · rw [if_neg c99] at h98
              refine mr_if_ne_t (t := 134) dX11_readsAll_127 (by decide) c99 ?_
              refine mr_iconst (pc' := 135) (v := (0 : Int32)) dX11_readsAll_134 rfl (by decide) ?_
              obtain rfl := Option.some.inj h98
              exact mr_zreturn dX11_readsAll_135 rfl (by decide)
        · rw [if_neg c90] at h84
          refine mr_icmp_ne_t (t := 118) dX11_readsAll_98 (by decide) c90 ?_
          refine mr_aload_n (pc' := 119) dX11_readsAll_118 rfl rfl ?_
          refine mr_iconst (pc' := 120) (v := (0 : Int32)) dX11_readsAll_119 rfl (by decide) ?_
          obtain ⟨S91, g92, h93⟩ := Option.bind_eq_some_iff.mp h84
          refine mr_putI (pc' := 123) (ci := 11) (j := 1) dX11_readsAll_120 rfl rfl rfl (by decide) (by decide) rfl rfl ?_
          rw [Option.some.inj g92]
          refine mr_aload_n (pc' := 124) dX11_readsAll_123 rfl rfl ?_
          refine mr_getI (pc' := 127) (ci := 11) (j := 14) dX11_readsAll_124 rfl rfl rfl (by decide) (by decide) rfl ?_
          by_cases c94 : (S91.1 145 14) = (0 : Int32)
          · rw [if_pos c94] at h93
            refine mr_if_ne_f (t := 134) (pc' := 130) dX11_readsAll_127 (by decide) rfl (not_not_intro c94) ?_
            refine mr_iconst (pc' := 131) (v := (1 : Int32)) dX11_readsAll_130 rfl (by decide) ?_
            refine mr_goto (t := 135) dX11_readsAll_131 (by decide) ?_
            obtain rfl := Option.some.inj h93
            exact mr_zreturn dX11_readsAll_135 rfl (by decide)
          · rw [if_neg c94] at h93
            refine mr_if_ne_t (t := 134) dX11_readsAll_127 (by decide) c94 ?_
            refine mr_iconst (pc' := 135) (v := (0 : Int32)) dX11_readsAll_134 rfl (by decide) ?_
            obtain rfl := Option.some.inj h93
            exact mr_zreturn dX11_readsAll_135 rfl (by decide)
def f_X11_rule  (S : fS) : Option (Int32 × fS) :=
  if (S.1 145 2) = (6 : Int32) then (some ((-1 : Int32), S)) else
  ((some (pI S 145 16 (S.1 145 2))).bind fun S2 =>
  (sI S2 150 6 (S2.1 145 16) (0 : Int32)).bind fun S5 =>
  (f_X11_readsAll  S5).bind fun q8 =>
  if q8.1 = (0 : Int32) then (some (((-2 : Int32) - (q8.2.1 145 14)), q8.2)) else
  ((some (pI q8.2 145 2 ((q8.2.1 145 2) + (1 : Int32)))).bind fun S12 =>
  some (((S12.1 145 2) - (1 : Int32)), S12)))
set_option maxHeartbeats 4000000 in
set_option maxRecDepth 100000 in
theorem ok_X11_rule {X : mm_C} {RR : Nat → Nat → Option Nat} (hR : RRok RR)   {S : fS} {r : Int32 × fS} (h : f_X11_rule  S = some r) : mr X 12 mY_X11_rule 0 (lv_args 0 [.ref 145]) [] (MM RR S) (some (.int r.1), MM RR r.2) := by
  unfold f_X11_rule at h
  show mr X _ _ 0 [(0, .ref 145)] [] (MM RR S) _
  refine mr_aload_n (pc' := 1) dX11_rule_0 rfl rfl ?_
  refine mr_getI (pc' := 4) (ci := 11) (j := 2) dX11_rule_1 rfl rfl rfl (by decide) (by decide) rfl ?_
  refine mr_bipush (pc' := 6) (v := (6 : Int32)) dX11_rule_4 rfl (by decide) ?_
  by_cases c1 : (S.1 145 2) = (6 : Int32)
  · rw [if_pos c1] at h
    refine mr_icmp_ne_f (t := 11) (pc' := 9) dX11_rule_6 (by decide) rfl (not_not_intro c1) ?_
    refine mr_iconst (pc' := 10) (v := (-1 : Int32)) dX11_rule_9 rfl (by decide) ?_
    obtain rfl := Option.some.inj h
    exact mr_ireturn dX11_rule_10 rfl
  · rw [if_neg c1] at h
    refine mr_icmp_ne_t (t := 11) dX11_rule_6 (by decide) c1 ?_
    refine mr_aload_n (pc' := 12) dX11_rule_11 rfl rfl ?_
    refine mr_aload_n (pc' := 13) dX11_rule_12 rfl rfl ?_
    refine mr_getI (pc' := 16) (ci := 11) (j := 2) dX11_rule_13 rfl rfl rfl (by decide) (by decide) rfl ?_
    obtain ⟨S2, g3, h4⟩ := Option.bind_eq_some_iff.mp h
    refine mr_putI (pc' := 19) (ci := 11) (j := 16) dX11_rule_16 rfl rfl rfl (by decide) (by decide) rfl rfl ?_
    rw [Option.some.inj g3]
    refine mr_aload_n (pc' := 20) dX11_rule_19 rfl rfl ?_
    refine mr_getR (pc' := 23) (ci := 11) (j := 6) (b := 150) hR dX11_rule_20 rfl rfl rfl (by decide) (by decide) (by decide) rfl rfl ?_
    refine mr_aload_n (pc' := 24) dX11_rule_23 rfl rfl ?_
    refine mr_getI (pc' := 27) (ci := 11) (j := 16) dX11_rule_24 rfl rfl rfl (by decide) (by decide) rfl ?_
    refine mr_iconst (pc' := 28) (v := (0 : Int32)) dX11_rule_27 rfl (by decide) ?_
    obtain ⟨S5, g6, h7⟩ := Option.bind_eq_some_iff.mp h4
    refine mr_iast (pc' := 29) dX11_rule_28 rfl rfl rfl g6 ?_
    refine mr_aload_n (pc' := 30) dX11_rule_29 rfl rfl ?_
    obtain ⟨q8, g9, h10⟩ := Option.bind_eq_some_iff.mp h7
    refine mr_cv (pc' := 33) (a := 145) (d1 := 11) dX11_rule_30 rfl rfl rfl rfl rfl rfl (by decide) rfl (by decide) (ok_X11_readsAll hR  g9) ?_
    show mr X _ _ 33 _ [.int q8.1] (MM RR q8.2) _
    by_cases c11 : q8.1 = (0 : Int32)
    · rw [if_pos c11] at h10
      refine mr_if_ne_f (t := 44) (pc' := 36) dX11_rule_33 (by decide) rfl (not_not_intro c11) ?_
      refine mr_bipush (pc' := 38) (v := (-2 : Int32)) dX11_rule_36 rfl (by decide) ?_
      refine mr_aload_n (pc' := 39) dX11_rule_38 rfl rfl ?_
      refine mr_getI (pc' := 42) (ci := 11) (j := 14) dX11_rule_39 rfl rfl rfl (by decide) (by decide) rfl ?_
      refine mr_isub (pc' := 43) dX11_rule_42 rfl ?_
      obtain rfl := Option.some.inj h10
      exact mr_ireturn dX11_rule_43 rfl
    · rw [if_neg c11] at h10
      refine mr_if_ne_t (t := 44) dX11_rule_33 (by decide) c11 ?_
      refine mr_aload_n (pc' := 45) dX11_rule_44 rfl rfl ?_
      refine mr_dup_ref (pc' := 46) dX11_rule_45 rfl ?_
      refine mr_getI (pc' := 49) (ci := 11) (j := 2) dX11_rule_46 rfl rfl rfl (by decide) (by decide) rfl ?_
      refine mr_iconst (pc' := 50) (v := (1 : Int32)) dX11_rule_49 rfl (by decide) ?_
      refine mr_iadd (pc' := 51) dX11_rule_50 rfl ?_
      obtain ⟨S12, g13, h14⟩ := Option.bind_eq_some_iff.mp h10
      refine mr_putI (pc' := 54) (ci := 11) (j := 2) dX11_rule_51 rfl rfl rfl (by decide) (by decide) rfl rfl ?_
      rw [Option.some.inj g13]
      refine mr_aload_n (pc' := 55) dX11_rule_54 rfl rfl ?_
      refine mr_getI (pc' := 58) (ci := 11) (j := 2) dX11_rule_55 rfl rfl rfl (by decide) (by decide) rfl ?_
      refine mr_iconst (pc' := 59) (v := (1 : Int32)) dX11_rule_58 rfl (by decide) ?_
      refine mr_isub (pc' := 60) dX11_rule_59 rfl ?_
      obtain rfl := Option.some.inj h14
      exact mr_ireturn dX11_rule_60 rfl
def f_X11_stands (v1 : Int32) (v2 : Int32) (S : fS) : Option (fS) :=
  (sI S 157 158 ((90 : Int32) + ((4 : Int32) * v1)) v2).bind fun S1 =>
  (sI S1 157 158 (((90 : Int32) + ((4 : Int32) * v1)) + (1 : Int32)) (-1 : Int32)).bind fun S4 =>
  (sI S4 157 158 (((90 : Int32) + ((4 : Int32) * v1)) + (2 : Int32)) (0 : Int32)).bind fun S7 =>
  (sI S7 157 158 (((90 : Int32) + ((4 : Int32) * v1)) + (3 : Int32)) (-1 : Int32)).bind fun S10 =>
  some S10
set_option maxHeartbeats 4000000 in
set_option maxRecDepth 100000 in
theorem ok_X11_stands {X : mm_C} {RR : Nat → Nat → Option Nat} (hR : RRok RR) {v1 : Int32} {v2 : Int32}  {S : fS} {r : fS} (h : f_X11_stands v1 v2 S = some r) : mr X 0 mY_X11_stands 0 (lv_args 0 [.ref 145, .int v1, .int v2]) [] (MM RR S) (none, MM RR r) := by
  unfold f_X11_stands at h
  show mr X _ _ 0 [(0, .ref 145), (1, .int v1), (2, .int v2)] [] (MM RR S) _
  refine mr_bipush (pc' := 2) (v := (90 : Int32)) dX11_stands_0 rfl (by decide) ?_
  refine mr_iconst (pc' := 3) (v := (4 : Int32)) dX11_stands_2 rfl (by decide) ?_
  refine mr_iload_n (pc' := 4) dX11_stands_3 rfl rfl ?_
  refine mr_imul (pc' := 5) dX11_stands_4 rfl ?_
  refine mr_iadd (pc' := 6) dX11_stands_5 rfl ?_
  refine mr_istore_n (pc' := 7) (lv' := [(3, .int ((90 : Int32) + ((4 : Int32) * v1))), (0, .ref 145), (1, .int v1), (2, .int v2)]) dX11_stands_6 rfl (by decide) rfl ?_
  refine mr_aload_n (pc' := 8) dX11_stands_7 rfl rfl ?_
  refine mr_getR (pc' := 11) (ci := 11) (j := 25) (b := 157) hR dX11_stands_8 rfl rfl rfl (by decide) (by decide) (by decide) rfl rfl ?_
  refine mr_iload_n (pc' := 12) dX11_stands_11 rfl rfl ?_
  refine mr_iload_n (pc' := 13) dX11_stands_12 rfl rfl ?_
  obtain ⟨S1, g2, h3⟩ := Option.bind_eq_some_iff.mp h
  refine mr_iast (pc' := 14) dX11_stands_13 rfl rfl rfl g2 ?_
  refine mr_aload_n (pc' := 15) dX11_stands_14 rfl rfl ?_
  refine mr_getR (pc' := 18) (ci := 11) (j := 25) (b := 157) hR dX11_stands_15 rfl rfl rfl (by decide) (by decide) (by decide) rfl rfl ?_
  refine mr_iload_n (pc' := 19) dX11_stands_18 rfl rfl ?_
  refine mr_iconst (pc' := 20) (v := (1 : Int32)) dX11_stands_19 rfl (by decide) ?_
  refine mr_iadd (pc' := 21) dX11_stands_20 rfl ?_
  refine mr_iconst (pc' := 22) (v := (-1 : Int32)) dX11_stands_21 rfl (by decide) ?_
  obtain ⟨S4, g5, h6⟩ := Option.bind_eq_some_iff.mp h3
  refine mr_iast (pc' := 23) dX11_stands_22 rfl rfl rfl g5 ?_
  refine mr_aload_n (pc' := 24) dX11_stands_23 rfl rfl ?_
  refine mr_getR (pc' := 27) (ci := 11) (j := 25) (b := 157) hR dX11_stands_24 rfl rfl rfl (by decide) (by decide) (by decide) rfl rfl ?_
  refine mr_iload_n (pc' := 28) dX11_stands_27 rfl rfl ?_
  refine mr_iconst (pc' := 29) (v := (2 : Int32)) dX11_stands_28 rfl (by decide) ?_
  refine mr_iadd (pc' := 30) dX11_stands_29 rfl ?_
  refine mr_iconst (pc' := 31) (v := (0 : Int32)) dX11_stands_30 rfl (by decide) ?_
  obtain ⟨S7, g8, h9⟩ := Option.bind_eq_some_iff.mp h6
  refine mr_iast (pc' := 32) dX11_stands_31 rfl rfl rfl g8 ?_
  refine mr_aload_n (pc' := 33) dX11_stands_32 rfl rfl ?_
  refine mr_getR (pc' := 36) (ci := 11) (j := 25) (b := 157) hR dX11_stands_33 rfl rfl rfl (by decide) (by decide) (by decide) rfl rfl ?_
  refine mr_iload_n (pc' := 37) dX11_stands_36 rfl rfl ?_
  refine mr_iconst (pc' := 38) (v := (3 : Int32)) dX11_stands_37 rfl (by decide) ?_
  refine mr_iadd (pc' := 39) dX11_stands_38 rfl ?_
  refine mr_iconst (pc' := 40) (v := (-1 : Int32)) dX11_stands_39 rfl (by decide) ?_
  obtain ⟨S10, g11, h12⟩ := Option.bind_eq_some_iff.mp h9
  refine mr_iast (pc' := 41) dX11_stands_40 rfl rfl rfl g11 ?_
  obtain rfl := Option.some.inj h12
  exact mr_return dX11_stands_41 rfl
def f_X11_stairOf (v1 : Int32) (v2 : Int32) (S : fS) : Option (Int32) :=
  (gI S 157 158 (((30 : Int32) + ((5 : Int32) * v1)) + v2)).bind fun a1 =>
  some a1
set_option maxHeartbeats 4000000 in
set_option maxRecDepth 100000 in
theorem ok_X11_stairOf {X : mm_C} {RR : Nat → Nat → Option Nat} (hR : RRok RR) {v1 : Int32} {v2 : Int32}  {S : fS} {r : Int32} (h : f_X11_stairOf v1 v2 S = some r) : mr X 0 mY_X11_stairOf 0 (lv_args 0 [.ref 145, .int v1, .int v2]) [] (MM RR S) (some (.int r), MM RR S) := by
  unfold f_X11_stairOf at h
  show mr X _ _ 0 [(0, .ref 145), (1, .int v1), (2, .int v2)] [] (MM RR S) _
  refine mr_aload_n (pc' := 1) dX11_stairOf_0 rfl rfl ?_
  refine mr_getR (pc' := 4) (ci := 11) (j := 25) (b := 157) hR dX11_stairOf_1 rfl rfl rfl (by decide) (by decide) (by decide) rfl rfl ?_
  refine mr_bipush (pc' := 6) (v := (30 : Int32)) dX11_stairOf_4 rfl (by decide) ?_
  refine mr_iconst (pc' := 7) (v := (5 : Int32)) dX11_stairOf_6 rfl (by decide) ?_
  refine mr_iload_n (pc' := 8) dX11_stairOf_7 rfl rfl ?_
  refine mr_imul (pc' := 9) dX11_stairOf_8 rfl ?_
  refine mr_iadd (pc' := 10) dX11_stairOf_9 rfl ?_
  refine mr_iload_n (pc' := 11) dX11_stairOf_10 rfl rfl ?_
  refine mr_iadd (pc' := 12) dX11_stairOf_11 rfl ?_
  obtain ⟨a1, g2, h3⟩ := Option.bind_eq_some_iff.mp h
  refine mr_iald (pc' := 13) dX11_stairOf_12 rfl rfl rfl g2 ?_
  obtain rfl := Option.some.inj h3
  exact mr_ireturn dX11_stairOf_13 rfl
def lp_X11_spreads_10 (p1 : Int32) (K : fS → Option (fS)) : Nat → Int32 → fS → Option (fS)
  | 0, _, _ => none
  | n + 1, p2, S0 =>
    if (10 : Int32) ≤ p2 then (K S0) else
    (if p1 = p2 then ((sL S0 161 100 (((10 : Int32) * p1) + p2) (0 : Int64)).bind fun S7 =>
    lp_X11_spreads_10 p1 K n (p2 + (1 : Int32)) S7) else
    ((sL S0 161 100 (((10 : Int32) * p1) + p2) (99999 : Int64)).bind fun S4 =>
    lp_X11_spreads_10 p1 K n (p2 + (1 : Int32)) S4))
set_option maxHeartbeats 4000000 in
set_option maxRecDepth 100000 in
theorem ok_lp_X11_spreads_10 {X : mm_C} {RR : Nat → Nat → Option Nat} (hR : RRok RR) {p1 : Int32}  {K : fS → Option (fS)} {r : fS} (hK : ∀ (Sk : fS), K Sk = some r → mr X 1 mY_X11_spreads 45 [(0, .ref 145), (1, .int p1)] [] (MM RR Sk) (none, MM RR r)) : ∀ (n : Nat) (p2 : Int32) (S0 : fS), lp_X11_spreads_10 p1 K n p2 S0 = some r → mr X 1 mY_X11_spreads 10 [(0, .ref 145), (1, .int p1), (2, .int p2)] [] (MM RR S0) (none, MM RR r) := by
  intro n
  induction n with
  | zero => intro p2 S0 h; exact mm_no h
  | succ n ih =>
    intro p2 S0 h
    unfold lp_X11_spreads_10 at h
    refine mr_iload_n (pc' := 11) dX11_spreads_10 rfl rfl ?_
    refine mr_bipush (pc' := 13) (v := (10 : Int32)) dX11_spreads_11 rfl (by decide) ?_
    by_cases c2 : (10 : Int32) ≤ p2
    · rw [if_pos c2] at h
      refine mr_icmp_ge_t (t := 45) dX11_spreads_13 (by decide) c2 ?_
      exact mr_sub [(0, .ref 145), (1, .int p1)] ⟨rfl, rfl, trivial⟩ rfl (hK _  h)
    · rw [if_neg c2] at h
      refine mr_icmp_ge_f (t := 45) (pc' := 16) dX11_spreads_13 (by decide) rfl c2 ?_
      refine mr_aload_n (pc' := 17) dX11_spreads_16 rfl rfl ?_
      refine mr_getR (pc' := 20) (ci := 11) (j := 29) (b := 161) hR dX11_spreads_17 rfl rfl rfl (by decide) (by decide) (by decide) rfl rfl ?_
      refine mr_bipush (pc' := 22) (v := (10 : Int32)) dX11_spreads_20 rfl (by decide) ?_
      refine mr_iload_n (pc' := 23) dX11_spreads_22 rfl rfl ?_
      refine mr_imul (pc' := 24) dX11_spreads_23 rfl ?_
      refine mr_iload_n (pc' := 25) dX11_spreads_24 rfl rfl ?_
      refine mr_iadd (pc' := 26) dX11_spreads_25 rfl ?_
      refine mr_iload_n (pc' := 27) dX11_spreads_26 rfl rfl ?_
      refine mr_iload_n (pc' := 28) dX11_spreads_27 rfl rfl ?_
      by_cases c3 : p1 = p2
      · rw [if_pos c3] at h
        refine mr_icmp_ne_f (t := 35) (pc' := 31) dX11_spreads_28 (by decide) rfl (not_not_intro c3) ?_
        refine mr_lconst (pc' := 32) (v := (0 : Int64)) dX11_spreads_31 rfl (by decide) ?_
        refine mr_goto (t := 38) dX11_spreads_32 (by decide) ?_
        obtain ⟨S7, g8, h9⟩ := Option.bind_eq_some_iff.mp h
        refine mr_last (pc' := 39) dX11_spreads_38 rfl rfl rfl g8 ?_
        refine mr_iinc (pc' := 42) (x' := (p2 + (1 : Int32))) (lv' := [(2, .int (p2 + (1 : Int32))), (0, .ref 145), (1, .int p1)]) dX11_spreads_39 rfl (by decide) rfl rfl rfl ?_
        refine mr_goto (t := 10) dX11_spreads_42 (by decide) ?_
        exact mr_sub [(0, .ref 145), (1, .int p1), (2, .int (p2 + (1 : Int32)))] ⟨rfl, rfl, rfl, trivial⟩ rfl (ih _ _  h9)
      · rw [if_neg c3] at h
        refine mr_icmp_ne_t (t := 35) dX11_spreads_28 (by decide) c3 ?_
        refine mr_ldc2 (pc' := 38) (v := (99999 : Int64)) dX11_spreads_35 rfl rfl ?_
        obtain ⟨S4, g5, h6⟩ := Option.bind_eq_some_iff.mp h
        refine mr_last (pc' := 39) dX11_spreads_38 rfl rfl rfl g5 ?_
        refine mr_iinc (pc' := 42) (x' := (p2 + (1 : Int32))) (lv' := [(2, .int (p2 + (1 : Int32))), (0, .ref 145), (1, .int p1)]) dX11_spreads_39 rfl (by decide) rfl rfl rfl ?_
        refine mr_goto (t := 10) dX11_spreads_42 (by decide) ?_
        exact mr_sub [(0, .ref 145), (1, .int p1), (2, .int (p2 + (1 : Int32)))] ⟨rfl, rfl, rfl, trivial⟩ rfl (ih _ _  h6)
def lp_X11_spreads_2  (K : fS → Option (fS)) : Nat → Int32 → fS → Option (fS)
  | 0, _, _ => none
  | n + 1, p1, S0 =>
    if (10 : Int32) ≤ p1 then (K S0) else
    (lp_X11_spreads_10 p1 (fun S10 => lp_X11_spreads_2  K n (p1 + (1 : Int32)) S10) FU (0 : Int32) S0)
set_option maxHeartbeats 4000000 in
set_option maxRecDepth 100000 in
theorem ok_lp_X11_spreads_2 {X : mm_C} {RR : Nat → Nat → Option Nat} (hR : RRok RR)   {K : fS → Option (fS)} {r : fS} (hK : ∀ (Sk : fS), K Sk = some r → mr X 1 mY_X11_spreads 51 [(0, .ref 145)] [] (MM RR Sk) (none, MM RR r)) : ∀ (n : Nat) (p1 : Int32) (S0 : fS), lp_X11_spreads_2  K n p1 S0 = some r → mr X 1 mY_X11_spreads 2 [(0, .ref 145), (1, .int p1)] [] (MM RR S0) (none, MM RR r) := by
  intro n
  induction n with
  | zero => intro p1 S0 h; exact mm_no h
  | succ n ih =>
    intro p1 S0 h
    unfold lp_X11_spreads_2 at h
    refine mr_iload_n (pc' := 3) dX11_spreads_2 rfl rfl ?_
    refine mr_bipush (pc' := 5) (v := (10 : Int32)) dX11_spreads_3 rfl (by decide) ?_
    by_cases c1 : (10 : Int32) ≤ p1
    · rw [if_pos c1] at h
      refine mr_icmp_ge_t (t := 51) dX11_spreads_5 (by decide) c1 ?_
      exact mr_sub [(0, .ref 145)] ⟨rfl, trivial⟩ rfl (hK _  h)
    · rw [if_neg c1] at h
      refine mr_icmp_ge_f (t := 51) (pc' := 8) dX11_spreads_5 (by decide) rfl c1 ?_
      refine mr_iconst (pc' := 9) (v := (0 : Int32)) dX11_spreads_8 rfl (by decide) ?_
      refine mr_istore_n (pc' := 10) (lv' := [(2, .int (0 : Int32)), (0, .ref 145), (1, .int p1)]) dX11_spreads_9 rfl (by decide) rfl ?_
      refine mr_sub [(0, .ref 145), (1, .int p1), (2, .int (0 : Int32))] ⟨rfl, rfl, rfl, trivial⟩ rfl ?_
      refine ok_lp_X11_spreads_10 hR  (fun S10 h11 => ?_) FU _ _  h
      refine mr_iinc (pc' := 48) (x' := (p1 + (1 : Int32))) (lv' := [(1, .int (p1 + (1 : Int32))), (0, .ref 145)]) dX11_spreads_45 rfl (by decide) rfl rfl rfl ?_
      refine mr_goto (t := 2) dX11_spreads_48 (by decide) ?_
      exact mr_sub [(0, .ref 145), (1, .int (p1 + (1 : Int32)))] ⟨rfl, rfl, trivial⟩ rfl (ih _ _  h11)
def lp_X11_spreads_53  (K : fS → Option (fS)) : Nat → Int32 → fS → Option (fS)
  | 0, _, _ => none
  | n + 1, p1, S0 =>
    (gI S0 157 158 (1 : Int32)).bind fun a14 =>
    if a14 ≤ p1 then (K S0) else
    ((f_X11_stairOf p1 (0 : Int32) S0).bind fun q18 =>
    (f_X11_stairOf p1 (1 : Int32) S0).bind fun q21 =>
    (f_X11_stairOf p1 (2 : Int32) S0).bind fun q24 =>
    (gL S0 161 100 (((10 : Int32) * q18) + q21)).bind fun a27 =>
    if (Int32.toInt64 q24) < a27 then ((f_X11_stairOf p1 (2 : Int32) S0).bind fun q31 =>
    (sL S0 161 100 (((10 : Int32) * q18) + q21) (Int32.toInt64 q31)).bind fun S34 =>
    (f_X11_stairOf p1 (2 : Int32) S34).bind fun q37 =>
    (sL S34 161 100 (((10 : Int32) * q21) + q18) (Int32.toInt64 q37)).bind fun S40 =>
    lp_X11_spreads_53  K n (p1 + (1 : Int32)) S40) else
    (lp_X11_spreads_53  K n (p1 + (1 : Int32)) S0))
set_option maxHeartbeats 4000000 in
set_option maxRecDepth 100000 in
theorem ok_lp_X11_spreads_53 {X : mm_C} {RR : Nat → Nat → Option Nat} (hR : RRok RR)   {K : fS → Option (fS)} {r : fS} (hK : ∀ (Sk : fS), K Sk = some r → mr X 1 mY_X11_spreads 144 [(0, .ref 145)] [] (MM RR Sk) (none, MM RR r)) : ∀ (n : Nat) (p1 : Int32) (S0 : fS), lp_X11_spreads_53  K n p1 S0 = some r → mr X 1 mY_X11_spreads 53 [(0, .ref 145), (1, .int p1)] [] (MM RR S0) (none, MM RR r) := by
  intro n
  induction n with
  | zero => intro p1 S0 h; exact mm_no h
  | succ n ih =>
    intro p1 S0 h
    unfold lp_X11_spreads_53 at h
    refine mr_iload_n (pc' := 54) dX11_spreads_53 rfl rfl ?_
    refine mr_aload_n (pc' := 55) dX11_spreads_54 rfl rfl ?_
    refine mr_getR (pc' := 58) (ci := 11) (j := 25) (b := 157) hR dX11_spreads_55 rfl rfl rfl (by decide) (by decide) (by decide) rfl rfl ?_
    refine mr_iconst (pc' := 59) (v := (1 : Int32)) dX11_spreads_58 rfl (by decide) ?_
    obtain ⟨a14, g15, h16⟩ := Option.bind_eq_some_iff.mp h
    refine mr_iald (pc' := 60) dX11_spreads_59 rfl rfl rfl g15 ?_
    by_cases c17 : a14 ≤ p1
    · rw [if_pos c17] at h16
      refine mr_icmp_ge_t (t := 144) dX11_spreads_60 (by decide) c17 ?_
      exact mr_sub [(0, .ref 145)] ⟨rfl, trivial⟩ rfl (hK _  h16)
    · rw [if_neg c17] at h16
      refine mr_icmp_ge_f (t := 144) (pc' := 63) dX11_spreads_60 (by decide) rfl c17 ?_
      refine mr_aload_n (pc' := 64) dX11_spreads_63 rfl rfl ?_
      refine mr_iload_n (pc' := 65) dX11_spreads_64 rfl rfl ?_
      refine mr_iconst (pc' := 66) (v := (0 : Int32)) dX11_spreads_65 rfl (by decide) ?_
      obtain ⟨q18, g19, h20⟩ := Option.bind_eq_some_iff.mp h16
      refine mr_cv (pc' := 69) (a := 145) (d1 := 0) dX11_spreads_66 rfl rfl rfl rfl rfl rfl (by decide) rfl (by decide) (ok_X11_stairOf hR  g19) ?_
      show mr X _ _ 69 _ [.int q18] (MM RR S0) _
      refine mr_istore_n (pc' := 70) (lv' := [(2, .int q18), (0, .ref 145), (1, .int p1)]) dX11_spreads_69 rfl (by decide) rfl ?_
      refine mr_aload_n (pc' := 71) dX11_spreads_70 rfl rfl ?_
      refine mr_iload_n (pc' := 72) dX11_spreads_71 rfl rfl ?_
      refine mr_iconst (pc' := 73) (v := (1 : Int32)) dX11_spreads_72 rfl (by decide) ?_
      obtain ⟨q21, g22, h23⟩ := Option.bind_eq_some_iff.mp h20
      refine mr_cv (pc' := 76) (a := 145) (d1 := 0) dX11_spreads_73 rfl rfl rfl rfl rfl rfl (by decide) rfl (by decide) (ok_X11_stairOf hR  g22) ?_
      show mr X _ _ 76 _ [.int q21] (MM RR S0) _
      refine mr_istore_n (pc' := 77) (lv' := [(3, .int q21), (2, .int q18), (0, .ref 145), (1, .int p1)]) dX11_spreads_76 rfl (by decide) rfl ?_
      refine mr_aload_n (pc' := 78) dX11_spreads_77 rfl rfl ?_
      refine mr_iload_n (pc' := 79) dX11_spreads_78 rfl rfl ?_
      refine mr_iconst (pc' := 80) (v := (2 : Int32)) dX11_spreads_79 rfl (by decide) ?_
      obtain ⟨q24, g25, h26⟩ := Option.bind_eq_some_iff.mp h23
      refine mr_cv (pc' := 83) (a := 145) (d1 := 0) dX11_spreads_80 rfl rfl rfl rfl rfl rfl (by decide) rfl (by decide) (ok_X11_stairOf hR  g25) ?_
      show mr X _ _ 83 _ [.int q24] (MM RR S0) _
      refine mr_i2l (pc' := 84) dX11_spreads_83 rfl ?_
      refine mr_aload_n (pc' := 85) dX11_spreads_84 rfl rfl ?_
      refine mr_getR (pc' := 88) (ci := 11) (j := 29) (b := 161) hR dX11_spreads_85 rfl rfl rfl (by decide) (by decide) (by decide) rfl rfl ?_
      refine mr_bipush (pc' := 90) (v := (10 : Int32)) dX11_spreads_88 rfl (by decide) ?_
      refine mr_iload_n (pc' := 91) dX11_spreads_90 rfl rfl ?_
      refine mr_imul (pc' := 92) dX11_spreads_91 rfl ?_
      refine mr_iload_n (pc' := 93) dX11_spreads_92 rfl rfl ?_
      refine mr_iadd (pc' := 94) dX11_spreads_93 rfl ?_
      obtain ⟨a27, g28, h29⟩ := Option.bind_eq_some_iff.mp h26
      refine mr_lald (pc' := 95) dX11_spreads_94 rfl rfl rfl g28 ?_
      by_cases c30 : (Int32.toInt64 q24) < a27
      · rw [if_pos c30] at h29
        refine mr_lcmp_lt_t (t := 102) dX11_spreads_95 rfl dX11_spreads_96 (by decide) c30 ?_
        refine mr_aload_n (pc' := 103) dX11_spreads_102 rfl rfl ?_
        refine mr_getR (pc' := 106) (ci := 11) (j := 29) (b := 161) hR dX11_spreads_103 rfl rfl rfl (by decide) (by decide) (by decide) rfl rfl ?_
        refine mr_bipush (pc' := 108) (v := (10 : Int32)) dX11_spreads_106 rfl (by decide) ?_
        refine mr_iload_n (pc' := 109) dX11_spreads_108 rfl rfl ?_
        refine mr_imul (pc' := 110) dX11_spreads_109 rfl ?_
        refine mr_iload_n (pc' := 111) dX11_spreads_110 rfl rfl ?_
        refine mr_iadd (pc' := 112) dX11_spreads_111 rfl ?_
        refine mr_aload_n (pc' := 113) dX11_spreads_112 rfl rfl ?_
        refine mr_iload_n (pc' := 114) dX11_spreads_113 rfl rfl ?_
        refine mr_iconst (pc' := 115) (v := (2 : Int32)) dX11_spreads_114 rfl (by decide) ?_
        obtain ⟨q31, g32, h33⟩ := Option.bind_eq_some_iff.mp h29
        refine mr_cv (pc' := 118) (a := 145) (d1 := 0) dX11_spreads_115 rfl rfl rfl rfl rfl rfl (by decide) rfl (by decide) (ok_X11_stairOf hR  g32) ?_
        show mr X _ _ 118 _ [.int q31, .int (((10 : Int32) * q18) + q21), .ref 161] (MM RR S0) _
        refine mr_i2l (pc' := 119) dX11_spreads_118 rfl ?_
        obtain ⟨S34, g35, h36⟩ := Option.bind_eq_some_iff.mp h33
        refine mr_last (pc' := 120) dX11_spreads_119 rfl rfl rfl g35 ?_
        refine mr_aload_n (pc' := 121) dX11_spreads_120 rfl rfl ?_
        refine mr_getR (pc' := 124) (ci := 11) (j := 29) (b := 161) hR dX11_spreads_121 rfl rfl rfl (by decide) (by decide) (by decide) rfl rfl ?_
        refine mr_bipush (pc' := 126) (v := (10 : Int32)) dX11_spreads_124 rfl (by decide) ?_
        refine mr_iload_n (pc' := 127) dX11_spreads_126 rfl rfl ?_
        refine mr_imul (pc' := 128) dX11_spreads_127 rfl ?_
        refine mr_iload_n (pc' := 129) dX11_spreads_128 rfl rfl ?_
        refine mr_iadd (pc' := 130) dX11_spreads_129 rfl ?_
        refine mr_aload_n (pc' := 131) dX11_spreads_130 rfl rfl ?_
        refine mr_iload_n (pc' := 132) dX11_spreads_131 rfl rfl ?_
        refine mr_iconst (pc' := 133) (v := (2 : Int32)) dX11_spreads_132 rfl (by decide) ?_
        obtain ⟨q37, g38, h39⟩ := Option.bind_eq_some_iff.mp h36
        refine mr_cv (pc' := 136) (a := 145) (d1 := 0) dX11_spreads_133 rfl rfl rfl rfl rfl rfl (by decide) rfl (by decide) (ok_X11_stairOf hR  g38) ?_
        show mr X _ _ 136 _ [.int q37, .int (((10 : Int32) * q21) + q18), .ref 161] (MM RR S34) _
        refine mr_i2l (pc' := 137) dX11_spreads_136 rfl ?_
        obtain ⟨S40, g41, h42⟩ := Option.bind_eq_some_iff.mp h39
        refine mr_last (pc' := 138) dX11_spreads_137 rfl rfl rfl g41 ?_
        refine mr_iinc (pc' := 141) (x' := (p1 + (1 : Int32))) (lv' := [(1, .int (p1 + (1 : Int32))), (3, .int q21), (2, .int q18), (0, .ref 145)]) dX11_spreads_138 rfl (by decide) rfl rfl rfl ?_
        refine mr_goto (t := 53) dX11_spreads_141 (by decide) ?_
        exact mr_sub [(0, .ref 145), (1, .int (p1 + (1 : Int32)))] ⟨rfl, rfl, trivial⟩ rfl (ih _ _  h42)
      · rw [if_neg c30] at h29
        refine mr_lcmp_lt_f (t := 102) (pc' := 99) dX11_spreads_95 rfl dX11_spreads_96 (by decide) rfl c30 ?_
        refine mr_goto (t := 138) dX11_spreads_99 (by decide) ?_
        refine mr_iinc (pc' := 141) (x' := (p1 + (1 : Int32))) (lv' := [(1, .int (p1 + (1 : Int32))), (3, .int q21), (2, .int q18), (0, .ref 145)]) dX11_spreads_138 rfl (by decide) rfl rfl rfl ?_
        refine mr_goto (t := 53) dX11_spreads_141 (by decide) ?_
        exact mr_sub [(0, .ref 145), (1, .int (p1 + (1 : Int32)))] ⟨rfl, rfl, trivial⟩ rfl (ih _ _  h29)
def lp_X11_spreads_162 (p1 : Int32) (p2 : Int32) (K : fS → Option (fS)) : Nat → Int32 → fS → Option (fS)
  | 0, _, _ => none
  | n + 1, p3, S0 =>
    if (10 : Int32) ≤ p3 then (K S0) else
    ((gL S0 161 100 (((10 : Int32) * p2) + p1)).bind fun a48 =>
    (gL S0 161 100 (((10 : Int32) * p1) + p3)).bind fun a51 =>
    (gL S0 161 100 (((10 : Int32) * p2) + p3)).bind fun a54 =>
    if a54 ≤ (a48 + a51) then (lp_X11_spreads_162 p1 p2 K n (p3 + (1 : Int32)) S0) else
    ((gL S0 161 100 (((10 : Int32) * p2) + p1)).bind fun a58 =>
    (gL S0 161 100 (((10 : Int32) * p1) + p3)).bind fun a61 =>
    (sL S0 161 100 (((10 : Int32) * p2) + p3) (a58 + a61)).bind fun S64 =>
    lp_X11_spreads_162 p1 p2 K n (p3 + (1 : Int32)) S64))
set_option maxHeartbeats 4000000 in
set_option maxRecDepth 100000 in
theorem ok_lp_X11_spreads_162 {X : mm_C} {RR : Nat → Nat → Option Nat} (hR : RRok RR) {p1 : Int32} {p2 : Int32}  {K : fS → Option (fS)} {r : fS} (hK : ∀ (Sk : fS), K Sk = some r → mr X 1 mY_X11_spreads 246 [(0, .ref 145), (1, .int p1), (2, .int p2)] [] (MM RR Sk) (none, MM RR r)) : ∀ (n : Nat) (p3 : Int32) (S0 : fS), lp_X11_spreads_162 p1 p2 K n p3 S0 = some r → mr X 1 mY_X11_spreads 162 [(0, .ref 145), (1, .int p1), (2, .int p2), (3, .int p3)] [] (MM RR S0) (none, MM RR r) := by
  intro n
  induction n with
  | zero => intro p3 S0 h; exact mm_no h
  | succ n ih =>
    intro p3 S0 h
    unfold lp_X11_spreads_162 at h
    refine mr_iload_n (pc' := 163) dX11_spreads_162 rfl rfl ?_
    refine mr_bipush (pc' := 165) (v := (10 : Int32)) dX11_spreads_163 rfl (by decide) ?_
    by_cases c47 : (10 : Int32) ≤ p3
    · rw [if_pos c47] at h
      refine mr_icmp_ge_t (t := 246) dX11_spreads_165 (by decide) c47 ?_
      exact mr_sub [(0, .ref 145), (1, .int p1), (2, .int p2)] ⟨rfl, rfl, rfl, trivial⟩ rfl (hK _  h)
    · rw [if_neg c47] at h
      refine mr_icmp_ge_f (t := 246) (pc' := 168) dX11_spreads_165 (by decide) rfl c47 ?_
      refine mr_aload_n (pc' := 169) dX11_spreads_168 rfl rfl ?_
      refine mr_getR (pc' := 172) (ci := 11) (j := 29) (b := 161) hR dX11_spreads_169 rfl rfl rfl (by decide) (by decide) (by decide) rfl rfl ?_
      refine mr_bipush (pc' := 174) (v := (10 : Int32)) dX11_spreads_172 rfl (by decide) ?_
      refine mr_iload_n (pc' := 175) dX11_spreads_174 rfl rfl ?_
      refine mr_imul (pc' := 176) dX11_spreads_175 rfl ?_
      refine mr_iload_n (pc' := 177) dX11_spreads_176 rfl rfl ?_
      refine mr_iadd (pc' := 178) dX11_spreads_177 rfl ?_
      obtain ⟨a48, g49, h50⟩ := Option.bind_eq_some_iff.mp h
      refine mr_lald (pc' := 179) dX11_spreads_178 rfl rfl rfl g49 ?_
      refine mr_aload_n (pc' := 180) dX11_spreads_179 rfl rfl ?_
      refine mr_getR (pc' := 183) (ci := 11) (j := 29) (b := 161) hR dX11_spreads_180 rfl rfl rfl (by decide) (by decide) (by decide) rfl rfl ?_
      refine mr_bipush (pc' := 185) (v := (10 : Int32)) dX11_spreads_183 rfl (by decide) ?_
      refine mr_iload_n (pc' := 186) dX11_spreads_185 rfl rfl ?_
      refine mr_imul (pc' := 187) dX11_spreads_186 rfl ?_
      refine mr_iload_n (pc' := 188) dX11_spreads_187 rfl rfl ?_
      refine mr_iadd (pc' := 189) dX11_spreads_188 rfl ?_
      obtain ⟨a51, g52, h53⟩ := Option.bind_eq_some_iff.mp h50
      refine mr_lald (pc' := 190) dX11_spreads_189 rfl rfl rfl g52 ?_
      refine mr_ladd (pc' := 191) dX11_spreads_190 rfl ?_
      refine mr_aload_n (pc' := 192) dX11_spreads_191 rfl rfl ?_
      refine mr_getR (pc' := 195) (ci := 11) (j := 29) (b := 161) hR dX11_spreads_192 rfl rfl rfl (by decide) (by decide) (by decide) rfl rfl ?_
      refine mr_bipush (pc' := 197) (v := (10 : Int32)) dX11_spreads_195 rfl (by decide) ?_
      refine mr_iload_n (pc' := 198) dX11_spreads_197 rfl rfl ?_
      refine mr_imul (pc' := 199) dX11_spreads_198 rfl ?_
      refine mr_iload_n (pc' := 200) dX11_spreads_199 rfl rfl ?_
      refine mr_iadd (pc' := 201) dX11_spreads_200 rfl ?_
      obtain ⟨a54, g55, h56⟩ := Option.bind_eq_some_iff.mp h53
      refine mr_lald (pc' := 202) dX11_spreads_201 rfl rfl rfl g55 ?_
      by_cases c57 : a54 ≤ (a48 + a51)
      · rw [if_pos c57] at h56
        refine mr_lcmp_ge_t (t := 240) dX11_spreads_202 rfl dX11_spreads_203 (by decide) c57 ?_
        refine mr_iinc (pc' := 243) (x' := (p3 + (1 : Int32))) (lv' := [(3, .int (p3 + (1 : Int32))), (0, .ref 145), (1, .int p1), (2, .int p2)]) dX11_spreads_240 rfl (by decide) rfl rfl rfl ?_
        refine mr_goto (t := 162) dX11_spreads_243 (by decide) ?_
        exact mr_sub [(0, .ref 145), (1, .int p1), (2, .int p2), (3, .int (p3 + (1 : Int32)))] ⟨rfl, rfl, rfl, rfl, trivial⟩ rfl (ih _ _  h56)
      · rw [if_neg c57] at h56
        refine mr_lcmp_ge_f (t := 240) (pc' := 206) dX11_spreads_202 rfl dX11_spreads_203 (by decide) rfl c57 ?_
        refine mr_aload_n (pc' := 207) dX11_spreads_206 rfl rfl ?_
        refine mr_getR (pc' := 210) (ci := 11) (j := 29) (b := 161) hR dX11_spreads_207 rfl rfl rfl (by decide) (by decide) (by decide) rfl rfl ?_
        refine mr_bipush (pc' := 212) (v := (10 : Int32)) dX11_spreads_210 rfl (by decide) ?_
        refine mr_iload_n (pc' := 213) dX11_spreads_212 rfl rfl ?_
        refine mr_imul (pc' := 214) dX11_spreads_213 rfl ?_
        refine mr_iload_n (pc' := 215) dX11_spreads_214 rfl rfl ?_
        refine mr_iadd (pc' := 216) dX11_spreads_215 rfl ?_
        refine mr_aload_n (pc' := 217) dX11_spreads_216 rfl rfl ?_
        refine mr_getR (pc' := 220) (ci := 11) (j := 29) (b := 161) hR dX11_spreads_217 rfl rfl rfl (by decide) (by decide) (by decide) rfl rfl ?_
        refine mr_bipush (pc' := 222) (v := (10 : Int32)) dX11_spreads_220 rfl (by decide) ?_
        refine mr_iload_n (pc' := 223) dX11_spreads_222 rfl rfl ?_
        refine mr_imul (pc' := 224) dX11_spreads_223 rfl ?_
        refine mr_iload_n (pc' := 225) dX11_spreads_224 rfl rfl ?_
        refine mr_iadd (pc' := 226) dX11_spreads_225 rfl ?_
        obtain ⟨a58, g59, h60⟩ := Option.bind_eq_some_iff.mp h56
        refine mr_lald (pc' := 227) dX11_spreads_226 rfl rfl rfl g59 ?_
        refine mr_aload_n (pc' := 228) dX11_spreads_227 rfl rfl ?_
        refine mr_getR (pc' := 231) (ci := 11) (j := 29) (b := 161) hR dX11_spreads_228 rfl rfl rfl (by decide) (by decide) (by decide) rfl rfl ?_
        refine mr_bipush (pc' := 233) (v := (10 : Int32)) dX11_spreads_231 rfl (by decide) ?_
        refine mr_iload_n (pc' := 234) dX11_spreads_233 rfl rfl ?_
        refine mr_imul (pc' := 235) dX11_spreads_234 rfl ?_
        refine mr_iload_n (pc' := 236) dX11_spreads_235 rfl rfl ?_
        refine mr_iadd (pc' := 237) dX11_spreads_236 rfl ?_
        obtain ⟨a61, g62, h63⟩ := Option.bind_eq_some_iff.mp h60
        refine mr_lald (pc' := 238) dX11_spreads_237 rfl rfl rfl g62 ?_
        refine mr_ladd (pc' := 239) dX11_spreads_238 rfl ?_
        obtain ⟨S64, g65, h66⟩ := Option.bind_eq_some_iff.mp h63
        refine mr_last (pc' := 240) dX11_spreads_239 rfl rfl rfl g65 ?_
        refine mr_iinc (pc' := 243) (x' := (p3 + (1 : Int32))) (lv' := [(3, .int (p3 + (1 : Int32))), (0, .ref 145), (1, .int p1), (2, .int p2)]) dX11_spreads_240 rfl (by decide) rfl rfl rfl ?_
        refine mr_goto (t := 162) dX11_spreads_243 (by decide) ?_
        exact mr_sub [(0, .ref 145), (1, .int p1), (2, .int p2), (3, .int (p3 + (1 : Int32)))] ⟨rfl, rfl, rfl, rfl, trivial⟩ rfl (ih _ _  h66)
def lp_X11_spreads_154 (p1 : Int32) (K : fS → Option (fS)) : Nat → Int32 → fS → Option (fS)
  | 0, _, _ => none
  | n + 1, p2, S0 =>
    if (10 : Int32) ≤ p2 then (K S0) else
    (lp_X11_spreads_162 p1 p2 (fun S67 => lp_X11_spreads_154 p1 K n (p2 + (1 : Int32)) S67) FU (0 : Int32) S0)
set_option maxHeartbeats 4000000 in
set_option maxRecDepth 100000 in
theorem ok_lp_X11_spreads_154 {X : mm_C} {RR : Nat → Nat → Option Nat} (hR : RRok RR) {p1 : Int32}  {K : fS → Option (fS)} {r : fS} (hK : ∀ (Sk : fS), K Sk = some r → mr X 1 mY_X11_spreads 252 [(0, .ref 145), (1, .int p1)] [] (MM RR Sk) (none, MM RR r)) : ∀ (n : Nat) (p2 : Int32) (S0 : fS), lp_X11_spreads_154 p1 K n p2 S0 = some r → mr X 1 mY_X11_spreads 154 [(0, .ref 145), (1, .int p1), (2, .int p2)] [] (MM RR S0) (none, MM RR r) := by
  intro n
  induction n with
  | zero => intro p2 S0 h; exact mm_no h
  | succ n ih =>
    intro p2 S0 h
    unfold lp_X11_spreads_154 at h
    refine mr_iload_n (pc' := 155) dX11_spreads_154 rfl rfl ?_
    refine mr_bipush (pc' := 157) (v := (10 : Int32)) dX11_spreads_155 rfl (by decide) ?_
    by_cases c46 : (10 : Int32) ≤ p2
    · rw [if_pos c46] at h
      refine mr_icmp_ge_t (t := 252) dX11_spreads_157 (by decide) c46 ?_
      exact mr_sub [(0, .ref 145), (1, .int p1)] ⟨rfl, rfl, trivial⟩ rfl (hK _  h)
    · rw [if_neg c46] at h
      refine mr_icmp_ge_f (t := 252) (pc' := 160) dX11_spreads_157 (by decide) rfl c46 ?_
      refine mr_iconst (pc' := 161) (v := (0 : Int32)) dX11_spreads_160 rfl (by decide) ?_
      refine mr_istore_n (pc' := 162) (lv' := [(3, .int (0 : Int32)), (0, .ref 145), (1, .int p1), (2, .int p2)]) dX11_spreads_161 rfl (by decide) rfl ?_
      refine mr_sub [(0, .ref 145), (1, .int p1), (2, .int p2), (3, .int (0 : Int32))] ⟨rfl, rfl, rfl, rfl, trivial⟩ rfl ?_
      refine ok_lp_X11_spreads_162 hR  (fun S67 h68 => ?_) FU _ _  h
      refine mr_iinc (pc' := 249) (x' := (p2 + (1 : Int32))) (lv' := [(2, .int (p2 + (1 : Int32))), (0, .ref 145), (1, .int p1)]) dX11_spreads_246 rfl (by decide) rfl rfl rfl ?_
      refine mr_goto (t := 154) dX11_spreads_249 (by decide) ?_
      exact mr_sub [(0, .ref 145), (1, .int p1), (2, .int (p2 + (1 : Int32)))] ⟨rfl, rfl, rfl, trivial⟩ rfl (ih _ _  h68)
def lp_X11_spreads_146  (K : fS → Option (fS)) : Nat → Int32 → fS → Option (fS)
  | 0, _, _ => none
  | n + 1, p1, S0 =>
    if (10 : Int32) ≤ p1 then (K S0) else
    (lp_X11_spreads_154 p1 (fun S69 => lp_X11_spreads_146  K n (p1 + (1 : Int32)) S69) FU (0 : Int32) S0)
set_option maxHeartbeats 4000000 in
set_option maxRecDepth 100000 in
theorem ok_lp_X11_spreads_146 {X : mm_C} {RR : Nat → Nat → Option Nat} (hR : RRok RR)   {K : fS → Option (fS)} {r : fS} (hK : ∀ (Sk : fS), K Sk = some r → mr X 1 mY_X11_spreads 258 [] [] (MM RR Sk) (none, MM RR r)) : ∀ (n : Nat) (p1 : Int32) (S0 : fS), lp_X11_spreads_146  K n p1 S0 = some r → mr X 1 mY_X11_spreads 146 [(0, .ref 145), (1, .int p1)] [] (MM RR S0) (none, MM RR r) := by
  intro n
  induction n with
  | zero => intro p1 S0 h; exact mm_no h
  | succ n ih =>
    intro p1 S0 h
    unfold lp_X11_spreads_146 at h
    refine mr_iload_n (pc' := 147) dX11_spreads_146 rfl rfl ?_
    refine mr_bipush (pc' := 149) (v := (10 : Int32)) dX11_spreads_147 rfl (by decide) ?_
    by_cases c45 : (10 : Int32) ≤ p1
    · rw [if_pos c45] at h
      refine mr_icmp_ge_t (t := 258) dX11_spreads_149 (by decide) c45 ?_
      exact mr_sub [] trivial rfl (hK _  h)
    · rw [if_neg c45] at h
      refine mr_icmp_ge_f (t := 258) (pc' := 152) dX11_spreads_149 (by decide) rfl c45 ?_
      refine mr_iconst (pc' := 153) (v := (0 : Int32)) dX11_spreads_152 rfl (by decide) ?_
      refine mr_istore_n (pc' := 154) (lv' := [(2, .int (0 : Int32)), (0, .ref 145), (1, .int p1)]) dX11_spreads_153 rfl (by decide) rfl ?_
      refine mr_sub [(0, .ref 145), (1, .int p1), (2, .int (0 : Int32))] ⟨rfl, rfl, rfl, trivial⟩ rfl ?_
      refine ok_lp_X11_spreads_154 hR  (fun S69 h70 => ?_) FU _ _  h
      refine mr_iinc (pc' := 255) (x' := (p1 + (1 : Int32))) (lv' := [(1, .int (p1 + (1 : Int32))), (0, .ref 145)]) dX11_spreads_252 rfl (by decide) rfl rfl rfl ?_
      refine mr_goto (t := 146) dX11_spreads_255 (by decide) ?_
      exact mr_sub [(0, .ref 145), (1, .int (p1 + (1 : Int32)))] ⟨rfl, rfl, trivial⟩ rfl (ih _ _  h70)
def f_X11_spreads  (S : fS) : Option (fS) :=
  lp_X11_spreads_2  (fun S12 => lp_X11_spreads_53  (fun S43 => lp_X11_spreads_146  (fun S71 => some S71) FU (0 : Int32) S43) FU (0 : Int32) S12) FU (0 : Int32) S
set_option maxHeartbeats 4000000 in
set_option maxRecDepth 100000 in
theorem ok_X11_spreads {X : mm_C} {RR : Nat → Nat → Option Nat} (hR : RRok RR)   {S : fS} {r : fS} (h : f_X11_spreads  S = some r) : mr X 1 mY_X11_spreads 0 (lv_args 0 [.ref 145]) [] (MM RR S) (none, MM RR r) := by
  unfold f_X11_spreads at h
  show mr X _ _ 0 [(0, .ref 145)] [] (MM RR S) _
  refine mr_iconst (pc' := 1) (v := (0 : Int32)) dX11_spreads_0 rfl (by decide) ?_
  refine mr_istore_n (pc' := 2) (lv' := [(1, .int (0 : Int32)), (0, .ref 145)]) dX11_spreads_1 rfl (by decide) rfl ?_
  refine mr_sub [(0, .ref 145), (1, .int (0 : Int32))] ⟨rfl, rfl, trivial⟩ rfl ?_
  refine ok_lp_X11_spreads_2 hR  (fun S12 h13 => ?_) FU _ _  h
  refine mr_iconst (pc' := 52) (v := (0 : Int32)) dX11_spreads_51 rfl (by decide) ?_
  refine mr_istore_n (pc' := 53) (lv' := [(1, .int (0 : Int32)), (0, .ref 145)]) dX11_spreads_52 rfl (by decide) rfl ?_
  refine mr_sub [(0, .ref 145), (1, .int (0 : Int32))] ⟨rfl, rfl, trivial⟩ rfl ?_
  refine ok_lp_X11_spreads_53 hR  (fun S43 h44 => ?_) FU _ _  h13
  refine mr_iconst (pc' := 145) (v := (0 : Int32)) dX11_spreads_144 rfl (by decide) ?_
  refine mr_istore_n (pc' := 146) (lv' := [(1, .int (0 : Int32)), (0, .ref 145)]) dX11_spreads_145 rfl (by decide) rfl ?_
  refine mr_sub [(0, .ref 145), (1, .int (0 : Int32))] ⟨rfl, rfl, trivial⟩ rfl ?_
  refine ok_lp_X11_spreads_146 hR  (fun S71 h72 => ?_) FU _ _  h44
  obtain rfl := Option.some.inj h72
  exact mr_return dX11_spreads_258 rfl
def lp_X11_tower_82  (K : fS → Option (Int32 × fS)) : Nat → Int32 → fS → Option (Int32 × fS)
  | 0, _, _ => none
  | n + 1, p1, S0 =>
    if ((2 : Int32) * (S0.1 145 7)) ≤ p1 then (K S0) else
    ((gI S0 151 20 p1).bind fun a33 =>
    (sI S0 157 158 ((10 : Int32) + p1) a33).bind fun S36 =>
    lp_X11_tower_82  K n (p1 + (1 : Int32)) S36)
set_option maxHeartbeats 4000000 in
set_option maxRecDepth 100000 in
theorem ok_lp_X11_tower_82 {X : mm_C} {RR : Nat → Nat → Option Nat} (hR : RRok RR)   {K : fS → Option (Int32 × fS)} {r : Int32 × fS} (hK : ∀ (Sk : fS), K Sk = some r → mr X 12 mY_X11_tower 113 [(0, .ref 145)] [] (MM RR Sk) (some (.int r.1), MM RR r.2)) : ∀ (n : Nat) (p1 : Int32) (S0 : fS), lp_X11_tower_82  K n p1 S0 = some r → mr X 12 mY_X11_tower 82 [(0, .ref 145), (1, .int p1)] [] (MM RR S0) (some (.int r.1), MM RR r.2) := by
  intro n
  induction n with
  | zero => intro p1 S0 h; exact mm_no h
  | succ n ih =>
    intro p1 S0 h
    unfold lp_X11_tower_82 at h
    refine mr_iload_n (pc' := 83) dX11_tower_82 rfl rfl ?_
    refine mr_iconst (pc' := 84) (v := (2 : Int32)) dX11_tower_83 rfl (by decide) ?_
    refine mr_aload_n (pc' := 85) dX11_tower_84 rfl rfl ?_
    refine mr_getI (pc' := 88) (ci := 11) (j := 7) dX11_tower_85 rfl rfl rfl (by decide) (by decide) rfl ?_
    refine mr_imul (pc' := 89) dX11_tower_88 rfl ?_
    by_cases c32 : ((2 : Int32) * (S0.1 145 7)) ≤ p1
    · rw [if_pos c32] at h
      refine mr_icmp_ge_t (t := 113) dX11_tower_89 (by decide) c32 ?_
      exact mr_sub [(0, .ref 145)] ⟨rfl, trivial⟩ rfl (hK _  h)
    · rw [if_neg c32] at h
      refine mr_icmp_ge_f (t := 113) (pc' := 92) dX11_tower_89 (by decide) rfl c32 ?_
      refine mr_aload_n (pc' := 93) dX11_tower_92 rfl rfl ?_
      refine mr_getR (pc' := 96) (ci := 11) (j := 25) (b := 157) hR dX11_tower_93 rfl rfl rfl (by decide) (by decide) (by decide) rfl rfl ?_
      refine mr_bipush (pc' := 98) (v := (10 : Int32)) dX11_tower_96 rfl (by decide) ?_
      refine mr_iload_n (pc' := 99) dX11_tower_98 rfl rfl ?_
      refine mr_iadd (pc' := 100) dX11_tower_99 rfl ?_
      refine mr_aload_n (pc' := 101) dX11_tower_100 rfl rfl ?_
      refine mr_getR (pc' := 104) (ci := 11) (j := 10) (b := 151) hR dX11_tower_101 rfl rfl rfl (by decide) (by decide) (by decide) rfl rfl ?_
      refine mr_iload_n (pc' := 105) dX11_tower_104 rfl rfl ?_
      obtain ⟨a33, g34, h35⟩ := Option.bind_eq_some_iff.mp h
      refine mr_iald (pc' := 106) dX11_tower_105 rfl rfl rfl g34 ?_
      obtain ⟨S36, g37, h38⟩ := Option.bind_eq_some_iff.mp h35
      refine mr_iast (pc' := 107) dX11_tower_106 rfl rfl rfl g37 ?_
      refine mr_iinc (pc' := 110) (x' := (p1 + (1 : Int32))) (lv' := [(1, .int (p1 + (1 : Int32))), (0, .ref 145)]) dX11_tower_107 rfl (by decide) rfl rfl rfl ?_
      refine mr_goto (t := 82) dX11_tower_110 (by decide) ?_
      exact mr_sub [(0, .ref 145), (1, .int (p1 + (1 : Int32)))] ⟨rfl, rfl, trivial⟩ rfl (ih _ _  h38)
def lp_X11_tower_115  (K : fS → Option (Int32 × fS)) : Nat → Int32 → fS → Option (Int32 × fS)
  | 0, _, _ => none
  | n + 1, p1, S0 =>
    if ((5 : Int32) * (S0.1 145 8)) ≤ p1 then (K S0) else
    ((gI S0 152 60 p1).bind fun a42 =>
    (sI S0 157 158 ((30 : Int32) + p1) a42).bind fun S45 =>
    lp_X11_tower_115  K n (p1 + (1 : Int32)) S45)
set_option maxHeartbeats 4000000 in
set_option maxRecDepth 100000 in
theorem ok_lp_X11_tower_115 {X : mm_C} {RR : Nat → Nat → Option Nat} (hR : RRok RR)   {K : fS → Option (Int32 × fS)} {r : Int32 × fS} (hK : ∀ (Sk : fS), K Sk = some r → mr X 12 mY_X11_tower 146 [(0, .ref 145)] [] (MM RR Sk) (some (.int r.1), MM RR r.2)) : ∀ (n : Nat) (p1 : Int32) (S0 : fS), lp_X11_tower_115  K n p1 S0 = some r → mr X 12 mY_X11_tower 115 [(0, .ref 145), (1, .int p1)] [] (MM RR S0) (some (.int r.1), MM RR r.2) := by
  intro n
  induction n with
  | zero => intro p1 S0 h; exact mm_no h
  | succ n ih =>
    intro p1 S0 h
    unfold lp_X11_tower_115 at h
    refine mr_iload_n (pc' := 116) dX11_tower_115 rfl rfl ?_
    refine mr_iconst (pc' := 117) (v := (5 : Int32)) dX11_tower_116 rfl (by decide) ?_
    refine mr_aload_n (pc' := 118) dX11_tower_117 rfl rfl ?_
    refine mr_getI (pc' := 121) (ci := 11) (j := 8) dX11_tower_118 rfl rfl rfl (by decide) (by decide) rfl ?_
    refine mr_imul (pc' := 122) dX11_tower_121 rfl ?_
    by_cases c41 : ((5 : Int32) * (S0.1 145 8)) ≤ p1
    · rw [if_pos c41] at h
      refine mr_icmp_ge_t (t := 146) dX11_tower_122 (by decide) c41 ?_
      exact mr_sub [(0, .ref 145)] ⟨rfl, trivial⟩ rfl (hK _  h)
    · rw [if_neg c41] at h
      refine mr_icmp_ge_f (t := 146) (pc' := 125) dX11_tower_122 (by decide) rfl c41 ?_
      refine mr_aload_n (pc' := 126) dX11_tower_125 rfl rfl ?_
      refine mr_getR (pc' := 129) (ci := 11) (j := 25) (b := 157) hR dX11_tower_126 rfl rfl rfl (by decide) (by decide) (by decide) rfl rfl ?_
      refine mr_bipush (pc' := 131) (v := (30 : Int32)) dX11_tower_129 rfl (by decide) ?_
      refine mr_iload_n (pc' := 132) dX11_tower_131 rfl rfl ?_
      refine mr_iadd (pc' := 133) dX11_tower_132 rfl ?_
      refine mr_aload_n (pc' := 134) dX11_tower_133 rfl rfl ?_
      refine mr_getR (pc' := 137) (ci := 11) (j := 11) (b := 152) hR dX11_tower_134 rfl rfl rfl (by decide) (by decide) (by decide) rfl rfl ?_
      refine mr_iload_n (pc' := 138) dX11_tower_137 rfl rfl ?_
      obtain ⟨a42, g43, h44⟩ := Option.bind_eq_some_iff.mp h
      refine mr_iald (pc' := 139) dX11_tower_138 rfl rfl rfl g43 ?_
      obtain ⟨S45, g46, h47⟩ := Option.bind_eq_some_iff.mp h44
      refine mr_iast (pc' := 140) dX11_tower_139 rfl rfl rfl g46 ?_
      refine mr_iinc (pc' := 143) (x' := (p1 + (1 : Int32))) (lv' := [(1, .int (p1 + (1 : Int32))), (0, .ref 145)]) dX11_tower_140 rfl (by decide) rfl rfl rfl ?_
      refine mr_goto (t := 115) dX11_tower_143 (by decide) ?_
      exact mr_sub [(0, .ref 145), (1, .int (p1 + (1 : Int32)))] ⟨rfl, rfl, trivial⟩ rfl (ih _ _  h47)
def lp_X11_tower_148  (K : fS → Option (Int32 × fS)) : Nat → Int32 → fS → Option (Int32 × fS)
  | 0, _, _ => none
  | n + 1, p1, S0 =>
    if (S0.1 145 9) ≤ p1 then (K S0) else
    ((gI S0 153 8 p1).bind fun a51 =>
    (f_X11_stands p1 a51 S0).bind fun q54 =>
    (sL q54 158 8 p1 (0 : Int64)).bind fun S57 =>
    lp_X11_tower_148  K n (p1 + (1 : Int32)) S57)
set_option maxHeartbeats 4000000 in
set_option maxRecDepth 100000 in
theorem ok_lp_X11_tower_148 {X : mm_C} {RR : Nat → Nat → Option Nat} (hR : RRok RR)   {K : fS → Option (Int32 × fS)} {r : Int32 × fS} (hK : ∀ (Sk : fS), K Sk = some r → mr X 12 mY_X11_tower 180 [(0, .ref 145)] [] (MM RR Sk) (some (.int r.1), MM RR r.2)) : ∀ (n : Nat) (p1 : Int32) (S0 : fS), lp_X11_tower_148  K n p1 S0 = some r → mr X 12 mY_X11_tower 148 [(0, .ref 145), (1, .int p1)] [] (MM RR S0) (some (.int r.1), MM RR r.2) := by
  intro n
  induction n with
  | zero => intro p1 S0 h; exact mm_no h
  | succ n ih =>
    intro p1 S0 h
    unfold lp_X11_tower_148 at h
    refine mr_iload_n (pc' := 149) dX11_tower_148 rfl rfl ?_
    refine mr_aload_n (pc' := 150) dX11_tower_149 rfl rfl ?_
    refine mr_getI (pc' := 153) (ci := 11) (j := 9) dX11_tower_150 rfl rfl rfl (by decide) (by decide) rfl ?_
    by_cases c50 : (S0.1 145 9) ≤ p1
    · rw [if_pos c50] at h
      refine mr_icmp_ge_t (t := 180) dX11_tower_153 (by decide) c50 ?_
      exact mr_sub [(0, .ref 145)] ⟨rfl, trivial⟩ rfl (hK _  h)
    · rw [if_neg c50] at h
      refine mr_icmp_ge_f (t := 180) (pc' := 156) dX11_tower_153 (by decide) rfl c50 ?_
      refine mr_aload_n (pc' := 157) dX11_tower_156 rfl rfl ?_
      refine mr_iload_n (pc' := 158) dX11_tower_157 rfl rfl ?_
      refine mr_aload_n (pc' := 159) dX11_tower_158 rfl rfl ?_
      refine mr_getR (pc' := 162) (ci := 11) (j := 12) (b := 153) hR dX11_tower_159 rfl rfl rfl (by decide) (by decide) (by decide) rfl rfl ?_
      refine mr_iload_n (pc' := 163) dX11_tower_162 rfl rfl ?_
      obtain ⟨a51, g52, h53⟩ := Option.bind_eq_some_iff.mp h
      refine mr_iald (pc' := 164) dX11_tower_163 rfl rfl rfl g52 ?_
      obtain ⟨q54, g55, h56⟩ := Option.bind_eq_some_iff.mp h53
      refine mr_cv (pc' := 167) (a := 145) (d1 := 0) dX11_tower_164 rfl rfl rfl rfl rfl rfl (by decide) rfl (by decide) (ok_X11_stands hR  g55) ?_
      show mr X _ _ 167 _ [] (MM RR q54) _
      refine mr_aload_n (pc' := 168) dX11_tower_167 rfl rfl ?_
      refine mr_getR (pc' := 171) (ci := 11) (j := 26) (b := 158) hR dX11_tower_168 rfl rfl rfl (by decide) (by decide) (by decide) rfl rfl ?_
      refine mr_iload_n (pc' := 172) dX11_tower_171 rfl rfl ?_
      refine mr_lconst (pc' := 173) (v := (0 : Int64)) dX11_tower_172 rfl (by decide) ?_
      obtain ⟨S57, g58, h59⟩ := Option.bind_eq_some_iff.mp h56
      refine mr_last (pc' := 174) dX11_tower_173 rfl rfl rfl g58 ?_
      refine mr_iinc (pc' := 177) (x' := (p1 + (1 : Int32))) (lv' := [(1, .int (p1 + (1 : Int32))), (0, .ref 145)]) dX11_tower_174 rfl (by decide) rfl rfl rfl ?_
      refine mr_goto (t := 148) dX11_tower_177 (by decide) ?_
      exact mr_sub [(0, .ref 145), (1, .int (p1 + (1 : Int32)))] ⟨rfl, rfl, trivial⟩ rfl (ih _ _  h59)
def f_X11_tower  (S : fS) : Option (Int32 × fS) :=
  (some (pI S 145 16 (6 : Int32))).bind fun S1 =>
  (some (pI S1 145 7 (0 : Int32))).bind fun S4 =>
  (some (pI S4 145 8 (0 : Int32))).bind fun S7 =>
  (some (pI S7 145 9 (0 : Int32))).bind fun S10 =>
  (f_X11_readsAll  S10).bind fun q13 =>
  if q13.1 = (0 : Int32) then (some (((-2 : Int32) - (q13.2.1 145 14)), q13.2)) else
  ((sI q13.2 157 158 (0 : Int32) (q13.2.1 145 7)).bind fun S17 =>
  (sI S17 157 158 (1 : Int32) (S17.1 145 8)).bind fun S20 =>
  (sI S20 157 158 (2 : Int32) (S20.1 145 9)).bind fun S23 =>
  (sI S23 157 158 (3 : Int32) (0 : Int32)).bind fun S26 =>
  (sI S26 157 158 (4 : Int32) (0 : Int32)).bind fun S29 =>
  lp_X11_tower_82  (fun S39 => lp_X11_tower_115  (fun S48 => lp_X11_tower_148  (fun S60 => (f_X11_spreads  S60).bind fun q62 =>
  some ((q62.1 145 7), q62)) FU (0 : Int32) S48) FU (0 : Int32) S39) FU (0 : Int32) S29)
set_option maxHeartbeats 4000000 in
set_option maxRecDepth 100000 in
theorem ok_X11_tower {X : mm_C} {RR : Nat → Nat → Option Nat} (hR : RRok RR)   {S : fS} {r : Int32 × fS} (h : f_X11_tower  S = some r) : mr X 12 mY_X11_tower 0 (lv_args 0 [.ref 145]) [] (MM RR S) (some (.int r.1), MM RR r.2) := by
  unfold f_X11_tower at h
  show mr X _ _ 0 [(0, .ref 145)] [] (MM RR S) _
  refine mr_aload_n (pc' := 1) dX11_tower_0 rfl rfl ?_
  refine mr_bipush (pc' := 3) (v := (6 : Int32)) dX11_tower_1 rfl (by decide) ?_
  obtain ⟨S1, g2, h3⟩ := Option.bind_eq_some_iff.mp h
  refine mr_putI (pc' := 6) (ci := 11) (j := 16) dX11_tower_3 rfl rfl rfl (by decide) (by decide) rfl rfl ?_
  rw [Option.some.inj g2]
  refine mr_aload_n (pc' := 7) dX11_tower_6 rfl rfl ?_
  refine mr_iconst (pc' := 8) (v := (0 : Int32)) dX11_tower_7 rfl (by decide) ?_
  obtain ⟨S4, g5, h6⟩ := Option.bind_eq_some_iff.mp h3
  refine mr_putI (pc' := 11) (ci := 11) (j := 7) dX11_tower_8 rfl rfl rfl (by decide) (by decide) rfl rfl ?_
  rw [Option.some.inj g5]
  refine mr_aload_n (pc' := 12) dX11_tower_11 rfl rfl ?_
  refine mr_iconst (pc' := 13) (v := (0 : Int32)) dX11_tower_12 rfl (by decide) ?_
  obtain ⟨S7, g8, h9⟩ := Option.bind_eq_some_iff.mp h6
  refine mr_putI (pc' := 16) (ci := 11) (j := 8) dX11_tower_13 rfl rfl rfl (by decide) (by decide) rfl rfl ?_
  rw [Option.some.inj g8]
  refine mr_aload_n (pc' := 17) dX11_tower_16 rfl rfl ?_
  refine mr_iconst (pc' := 18) (v := (0 : Int32)) dX11_tower_17 rfl (by decide) ?_
  obtain ⟨S10, g11, h12⟩ := Option.bind_eq_some_iff.mp h9
  refine mr_putI (pc' := 21) (ci := 11) (j := 9) dX11_tower_18 rfl rfl rfl (by decide) (by decide) rfl rfl ?_
  rw [Option.some.inj g11]
  refine mr_aload_n (pc' := 22) dX11_tower_21 rfl rfl ?_
  obtain ⟨q13, g14, h15⟩ := Option.bind_eq_some_iff.mp h12
  refine mr_cv (pc' := 25) (a := 145) (d1 := 11) dX11_tower_22 rfl rfl rfl rfl rfl rfl (by decide) rfl (by decide) (ok_X11_readsAll hR  g14) ?_
  show mr X _ _ 25 _ [.int q13.1] (MM RR q13.2) _
  by_cases c16 : q13.1 = (0 : Int32)
  · rw [if_pos c16] at h15
    refine mr_if_ne_f (t := 36) (pc' := 28) dX11_tower_25 (by decide) rfl (not_not_intro c16) ?_
    refine mr_bipush (pc' := 30) (v := (-2 : Int32)) dX11_tower_28 rfl (by decide) ?_
    refine mr_aload_n (pc' := 31) dX11_tower_30 rfl rfl ?_
    refine mr_getI (pc' := 34) (ci := 11) (j := 14) dX11_tower_31 rfl rfl rfl (by decide) (by decide) rfl ?_
    refine mr_isub (pc' := 35) dX11_tower_34 rfl ?_
    obtain rfl := Option.some.inj h15
    exact mr_ireturn dX11_tower_35 rfl
  · rw [if_neg c16] at h15
    refine mr_if_ne_t (t := 36) dX11_tower_25 (by decide) c16 ?_
    refine mr_aload_n (pc' := 37) dX11_tower_36 rfl rfl ?_
    refine mr_getR (pc' := 40) (ci := 11) (j := 25) (b := 157) hR dX11_tower_37 rfl rfl rfl (by decide) (by decide) (by decide) rfl rfl ?_
    refine mr_iconst (pc' := 41) (v := (0 : Int32)) dX11_tower_40 rfl (by decide) ?_
    refine mr_aload_n (pc' := 42) dX11_tower_41 rfl rfl ?_
    refine mr_getI (pc' := 45) (ci := 11) (j := 7) dX11_tower_42 rfl rfl rfl (by decide) (by decide) rfl ?_
    obtain ⟨S17, g18, h19⟩ := Option.bind_eq_some_iff.mp h15
    refine mr_iast (pc' := 46) dX11_tower_45 rfl rfl rfl g18 ?_
    refine mr_aload_n (pc' := 47) dX11_tower_46 rfl rfl ?_
    refine mr_getR (pc' := 50) (ci := 11) (j := 25) (b := 157) hR dX11_tower_47 rfl rfl rfl (by decide) (by decide) (by decide) rfl rfl ?_
    refine mr_iconst (pc' := 51) (v := (1 : Int32)) dX11_tower_50 rfl (by decide) ?_
    refine mr_aload_n (pc' := 52) dX11_tower_51 rfl rfl ?_
    refine mr_getI (pc' := 55) (ci := 11) (j := 8) dX11_tower_52 rfl rfl rfl (by decide) (by decide) rfl ?_
    obtain ⟨S20, g21, h22⟩ := Option.bind_eq_some_iff.mp h19
    refine mr_iast (pc' := 56) dX11_tower_55 rfl rfl rfl g21 ?_
    refine mr_aload_n (pc' := 57) dX11_tower_56 rfl rfl ?_
    refine mr_getR (pc' := 60) (ci := 11) (j := 25) (b := 157) hR dX11_tower_57 rfl rfl rfl (by decide) (by decide) (by decide) rfl rfl ?_
    refine mr_iconst (pc' := 61) (v := (2 : Int32)) dX11_tower_60 rfl (by decide) ?_
    refine mr_aload_n (pc' := 62) dX11_tower_61 rfl rfl ?_
    refine mr_getI (pc' := 65) (ci := 11) (j := 9) dX11_tower_62 rfl rfl rfl (by decide) (by decide) rfl ?_
    obtain ⟨S23, g24, h25⟩ := Option.bind_eq_some_iff.mp h22
    refine mr_iast (pc' := 66) dX11_tower_65 rfl rfl rfl g24 ?_
    refine mr_aload_n (pc' := 67) dX11_tower_66 rfl rfl ?_
    refine mr_getR (pc' := 70) (ci := 11) (j := 25) (b := 157) hR dX11_tower_67 rfl rfl rfl (by decide) (by decide) (by decide) rfl rfl ?_
    refine mr_iconst (pc' := 71) (v := (3 : Int32)) dX11_tower_70 rfl (by decide) ?_
    refine mr_iconst (pc' := 72) (v := (0 : Int32)) dX11_tower_71 rfl (by decide) ?_
    obtain ⟨S26, g27, h28⟩ := Option.bind_eq_some_iff.mp h25
    refine mr_iast (pc' := 73) dX11_tower_72 rfl rfl rfl g27 ?_
    refine mr_aload_n (pc' := 74) dX11_tower_73 rfl rfl ?_
    refine mr_getR (pc' := 77) (ci := 11) (j := 25) (b := 157) hR dX11_tower_74 rfl rfl rfl (by decide) (by decide) (by decide) rfl rfl ?_
    refine mr_iconst (pc' := 78) (v := (4 : Int32)) dX11_tower_77 rfl (by decide) ?_
    refine mr_iconst (pc' := 79) (v := (0 : Int32)) dX11_tower_78 rfl (by decide) ?_
    obtain ⟨S29, g30, h31⟩ := Option.bind_eq_some_iff.mp h28
    refine mr_iast (pc' := 80) dX11_tower_79 rfl rfl rfl g30 ?_
    refine mr_iconst (pc' := 81) (v := (0 : Int32)) dX11_tower_80 rfl (by decide) ?_
    refine mr_istore_n (pc' := 82) (lv' := [(1, .int (0 : Int32)), (0, .ref 145)]) dX11_tower_81 rfl (by decide) rfl ?_
    refine mr_sub [(0, .ref 145), (1, .int (0 : Int32))] ⟨rfl, rfl, trivial⟩ rfl ?_
    refine ok_lp_X11_tower_82 hR  (fun S39 h40 => ?_) FU _ _  h31
    refine mr_iconst (pc' := 114) (v := (0 : Int32)) dX11_tower_113 rfl (by decide) ?_
    refine mr_istore_n (pc' := 115) (lv' := [(1, .int (0 : Int32)), (0, .ref 145)]) dX11_tower_114 rfl (by decide) rfl ?_
    refine mr_sub [(0, .ref 145), (1, .int (0 : Int32))] ⟨rfl, rfl, trivial⟩ rfl ?_
    refine ok_lp_X11_tower_115 hR  (fun S48 h49 => ?_) FU _ _  h40
    refine mr_iconst (pc' := 147) (v := (0 : Int32)) dX11_tower_146 rfl (by decide) ?_
    refine mr_istore_n (pc' := 148) (lv' := [(1, .int (0 : Int32)), (0, .ref 145)]) dX11_tower_147 rfl (by decide) rfl ?_
    refine mr_sub [(0, .ref 145), (1, .int (0 : Int32))] ⟨rfl, rfl, trivial⟩ rfl ?_
    refine ok_lp_X11_tower_148 hR  (fun S60 h61 => ?_) FU _ _  h49
    refine mr_aload_n (pc' := 181) dX11_tower_180 rfl rfl ?_
    obtain ⟨q62, g63, h64⟩ := Option.bind_eq_some_iff.mp h61
    refine mr_cv (pc' := 184) (a := 145) (d1 := 1) dX11_tower_181 rfl rfl rfl rfl rfl rfl (by decide) rfl (by decide) (ok_X11_spreads hR  g63) ?_
    show mr X _ _ 184 _ [] (MM RR q62) _
    refine mr_aload_n (pc' := 185) dX11_tower_184 rfl rfl ?_
    refine mr_getI (pc' := 188) (ci := 11) (j := 7) dX11_tower_185 rfl rfl rfl (by decide) (by decide) rfl ?_
    obtain rfl := Option.some.inj h64
    exact mr_ireturn dX11_tower_188 rfl
def f_X11_isFloor (v1 : Int32) (S : fS) : Option (Int32) :=
  if v1 < (0 : Int32) then (some (0 : Int32)) else
  ((gI S 157 158 (0 : Int32)).bind fun a2 =>
  if a2 ≤ v1 then (some (0 : Int32)) else
  (some (1 : Int32)))
set_option maxHeartbeats 4000000 in
set_option maxRecDepth 100000 in
theorem ok_X11_isFloor {X : mm_C} {RR : Nat → Nat → Option Nat} (hR : RRok RR) {v1 : Int32}  {S : fS} {r : Int32} (h : f_X11_isFloor v1 S = some r) : mr X 0 mY_X11_isFloor 0 (lv_args 0 [.ref 145, .int v1]) [] (MM RR S) (some (.int r), MM RR S) := by
  unfold f_X11_isFloor at h
  show mr X _ _ 0 [(0, .ref 145), (1, .int v1)] [] (MM RR S) _
  refine mr_iload_n (pc' := 1) dX11_isFloor_0 rfl rfl ?_
  by_cases c1 : v1 < (0 : Int32)
  · rw [if_pos c1] at h
    refine mr_if_lt_t (t := 18) dX11_isFloor_1 (by decide) c1 ?_
    refine mr_iconst (pc' := 19) (v := (0 : Int32)) dX11_isFloor_18 rfl (by decide) ?_
    obtain rfl := Option.some.inj h
    exact mr_zreturn dX11_isFloor_19 rfl (by decide)
  · rw [if_neg c1] at h
    refine mr_if_lt_f (t := 18) (pc' := 4) dX11_isFloor_1 (by decide) rfl c1 ?_
    refine mr_iload_n (pc' := 5) dX11_isFloor_4 rfl rfl ?_
    refine mr_aload_n (pc' := 6) dX11_isFloor_5 rfl rfl ?_
    refine mr_getR (pc' := 9) (ci := 11) (j := 25) (b := 157) hR dX11_isFloor_6 rfl rfl rfl (by decide) (by decide) (by decide) rfl rfl ?_
    refine mr_iconst (pc' := 10) (v := (0 : Int32)) dX11_isFloor_9 rfl (by decide) ?_
    obtain ⟨a2, g3, h4⟩ := Option.bind_eq_some_iff.mp h
    refine mr_iald (pc' := 11) dX11_isFloor_10 rfl rfl rfl g3 ?_
    by_cases c5 : a2 ≤ v1
    · rw [if_pos c5] at h4
      refine mr_icmp_ge_t (t := 18) dX11_isFloor_11 (by decide) c5 ?_
      refine mr_iconst (pc' := 19) (v := (0 : Int32)) dX11_isFloor_18 rfl (by decide) ?_
      obtain rfl := Option.some.inj h4
      exact mr_zreturn dX11_isFloor_19 rfl (by decide)
    · rw [if_neg c5] at h4
      refine mr_icmp_ge_f (t := 18) (pc' := 14) dX11_isFloor_11 (by decide) rfl c5 ?_
      refine mr_iconst (pc' := 15) (v := (1 : Int32)) dX11_isFloor_14 rfl (by decide) ?_
      refine mr_goto (t := 19) dX11_isFloor_15 (by decide) ?_
      obtain rfl := Option.some.inj h4
      exact mr_zreturn dX11_isFloor_19 rfl (by decide)
def f_X11_thingOf (v1 : Int32) (v2 : Int32) (S : fS) : Option (Int32) :=
  (gI S 157 158 (((90 : Int32) + ((4 : Int32) * v1)) + v2)).bind fun a1 =>
  some a1
set_option maxHeartbeats 4000000 in
set_option maxRecDepth 100000 in
theorem ok_X11_thingOf {X : mm_C} {RR : Nat → Nat → Option Nat} (hR : RRok RR) {v1 : Int32} {v2 : Int32}  {S : fS} {r : Int32} (h : f_X11_thingOf v1 v2 S = some r) : mr X 0 mY_X11_thingOf 0 (lv_args 0 [.ref 145, .int v1, .int v2]) [] (MM RR S) (some (.int r), MM RR S) := by
  unfold f_X11_thingOf at h
  show mr X _ _ 0 [(0, .ref 145), (1, .int v1), (2, .int v2)] [] (MM RR S) _
  refine mr_aload_n (pc' := 1) dX11_thingOf_0 rfl rfl ?_
  refine mr_getR (pc' := 4) (ci := 11) (j := 25) (b := 157) hR dX11_thingOf_1 rfl rfl rfl (by decide) (by decide) (by decide) rfl rfl ?_
  refine mr_bipush (pc' := 6) (v := (90 : Int32)) dX11_thingOf_4 rfl (by decide) ?_
  refine mr_iconst (pc' := 7) (v := (4 : Int32)) dX11_thingOf_6 rfl (by decide) ?_
  refine mr_iload_n (pc' := 8) dX11_thingOf_7 rfl rfl ?_
  refine mr_imul (pc' := 9) dX11_thingOf_8 rfl ?_
  refine mr_iadd (pc' := 10) dX11_thingOf_9 rfl ?_
  refine mr_iload_n (pc' := 11) dX11_thingOf_10 rfl rfl ?_
  refine mr_iadd (pc' := 12) dX11_thingOf_11 rfl ?_
  obtain ⟨a1, g2, h3⟩ := Option.bind_eq_some_iff.mp h
  refine mr_iald (pc' := 13) dX11_thingOf_12 rfl rfl rfl g2 ?_
  obtain rfl := Option.some.inj h3
  exact mr_ireturn dX11_thingOf_13 rfl
def lp_X11_standing_4 (p1 : Int32) (S : fS) (K : Int32 → Option (Int32)) : Nat → Int32 → Int32 → Option (Int32)
  | 0, _, _ => none
  | n + 1, p2, p3 =>
    (gI S 157 158 (2 : Int32)).bind fun a1 =>
    if a1 ≤ p3 then (K p2) else
    ((f_X11_thingOf p3 (0 : Int32) S).bind fun q5 =>
    if q5 = p1 then (lp_X11_standing_4 p1 S K n (p2 + (1 : Int32)) (p3 + (1 : Int32))) else
    (lp_X11_standing_4 p1 S K n (p2 + (0 : Int32)) (p3 + (1 : Int32))))
set_option maxHeartbeats 4000000 in
set_option maxRecDepth 100000 in
theorem ok_lp_X11_standing_4 {X : mm_C} {RR : Nat → Nat → Option Nat} (hR : RRok RR) {p1 : Int32}  {S : fS} {K : Int32 → Option (Int32)} {r : Int32} (hK : ∀ (k2 : Int32), K k2 = some r → mr X 1 mY_X11_standing 38 [(2, .int k2)] [] (MM RR S) (some (.int r), MM RR S)) : ∀ (n : Nat) (p2 : Int32) (p3 : Int32), lp_X11_standing_4 p1 S K n p2 p3 = some r → mr X 1 mY_X11_standing 4 [(0, .ref 145), (1, .int p1), (2, .int p2), (3, .int p3)] [] (MM RR S) (some (.int r), MM RR S) := by
  intro n
  induction n with
  | zero => intro p2 p3 h; exact mm_no h
  | succ n ih =>
    intro p2 p3 h
    unfold lp_X11_standing_4 at h
    refine mr_iload_n (pc' := 5) dX11_standing_4 rfl rfl ?_
    refine mr_aload_n (pc' := 6) dX11_standing_5 rfl rfl ?_
    refine mr_getR (pc' := 9) (ci := 11) (j := 25) (b := 157) hR dX11_standing_6 rfl rfl rfl (by decide) (by decide) (by decide) rfl rfl ?_
    refine mr_iconst (pc' := 10) (v := (2 : Int32)) dX11_standing_9 rfl (by decide) ?_
    obtain ⟨a1, g2, h3⟩ := Option.bind_eq_some_iff.mp h
    refine mr_iald (pc' := 11) dX11_standing_10 rfl rfl rfl g2 ?_
    by_cases c4 : a1 ≤ p3
    · rw [if_pos c4] at h3
      refine mr_icmp_ge_t (t := 38) dX11_standing_11 (by decide) c4 ?_
      exact mr_sub [(2, .int p2)] ⟨rfl, trivial⟩ rfl (hK _  h3)
    · rw [if_neg c4] at h3
      refine mr_icmp_ge_f (t := 38) (pc' := 14) dX11_standing_11 (by decide) rfl c4 ?_
      refine mr_iload_n (pc' := 15) dX11_standing_14 rfl rfl ?_
      refine mr_aload_n (pc' := 16) dX11_standing_15 rfl rfl ?_
      refine mr_iload_n (pc' := 17) dX11_standing_16 rfl rfl ?_
      refine mr_iconst (pc' := 18) (v := (0 : Int32)) dX11_standing_17 rfl (by decide) ?_
      obtain ⟨q5, g6, h7⟩ := Option.bind_eq_some_iff.mp h3
      refine mr_cv (pc' := 21) (a := 145) (d1 := 0) dX11_standing_18 rfl rfl rfl rfl rfl rfl (by decide) rfl (by decide) (ok_X11_thingOf hR  g6) ?_
      show mr X _ _ 21 _ [.int q5, .int p2] (MM RR S) _
      refine mr_iload_n (pc' := 22) dX11_standing_21 rfl rfl ?_
      by_cases c8 : q5 = p1
      · rw [if_pos c8] at h7
        refine mr_icmp_ne_f (t := 29) (pc' := 25) dX11_standing_22 (by decide) rfl (not_not_intro c8) ?_
        refine mr_iconst (pc' := 26) (v := (1 : Int32)) dX11_standing_25 rfl (by decide) ?_
        refine mr_goto (t := 30) dX11_standing_26 (by decide) ?_
        refine mr_iadd (pc' := 31) dX11_standing_30 rfl ?_
        refine mr_istore_n (pc' := 32) (lv' := [(2, .int (p2 + (1 : Int32))), (0, .ref 145), (1, .int p1), (3, .int p3)]) dX11_standing_31 rfl (by decide) rfl ?_
        refine mr_iinc (pc' := 35) (x' := (p3 + (1 : Int32))) (lv' := [(3, .int (p3 + (1 : Int32))), (2, .int (p2 + (1 : Int32))), (0, .ref 145), (1, .int p1)]) dX11_standing_32 rfl (by decide) rfl rfl rfl ?_
        refine mr_goto (t := 4) dX11_standing_35 (by decide) ?_
        exact mr_sub [(0, .ref 145), (1, .int p1), (2, .int (p2 + (1 : Int32))), (3, .int (p3 + (1 : Int32)))] ⟨rfl, rfl, rfl, rfl, trivial⟩ rfl (ih _ _  h7)
      · rw [if_neg c8] at h7
        refine mr_icmp_ne_t (t := 29) dX11_standing_22 (by decide) c8 ?_
        refine mr_iconst (pc' := 30) (v := (0 : Int32)) dX11_standing_29 rfl (by decide) ?_
        refine mr_iadd (pc' := 31) dX11_standing_30 rfl ?_
        refine mr_istore_n (pc' := 32) (lv' := [(2, .int (p2 + (0 : Int32))), (0, .ref 145), (1, .int p1), (3, .int p3)]) dX11_standing_31 rfl (by decide) rfl ?_
        refine mr_iinc (pc' := 35) (x' := (p3 + (1 : Int32))) (lv' := [(3, .int (p3 + (1 : Int32))), (2, .int (p2 + (0 : Int32))), (0, .ref 145), (1, .int p1)]) dX11_standing_32 rfl (by decide) rfl rfl rfl ?_
        refine mr_goto (t := 4) dX11_standing_35 (by decide) ?_
        exact mr_sub [(0, .ref 145), (1, .int p1), (2, .int (p2 + (0 : Int32))), (3, .int (p3 + (1 : Int32)))] ⟨rfl, rfl, rfl, rfl, trivial⟩ rfl (ih _ _  h7)
def f_X11_standing (v1 : Int32) (S : fS) : Option (Int32) :=
  lp_X11_standing_4 v1 S (fun u9 => some u9) FU (0 : Int32) (0 : Int32)
set_option maxHeartbeats 4000000 in
set_option maxRecDepth 100000 in
theorem ok_X11_standing {X : mm_C} {RR : Nat → Nat → Option Nat} (hR : RRok RR) {v1 : Int32}  {S : fS} {r : Int32} (h : f_X11_standing v1 S = some r) : mr X 1 mY_X11_standing 0 (lv_args 0 [.ref 145, .int v1]) [] (MM RR S) (some (.int r), MM RR S) := by
  unfold f_X11_standing at h
  show mr X _ _ 0 [(0, .ref 145), (1, .int v1)] [] (MM RR S) _
  refine mr_iconst (pc' := 1) (v := (0 : Int32)) dX11_standing_0 rfl (by decide) ?_
  refine mr_istore_n (pc' := 2) (lv' := [(2, .int (0 : Int32)), (0, .ref 145), (1, .int v1)]) dX11_standing_1 rfl (by decide) rfl ?_
  refine mr_iconst (pc' := 3) (v := (0 : Int32)) dX11_standing_2 rfl (by decide) ?_
  refine mr_istore_n (pc' := 4) (lv' := [(3, .int (0 : Int32)), (2, .int (0 : Int32)), (0, .ref 145), (1, .int v1)]) dX11_standing_3 rfl (by decide) rfl ?_
  refine mr_sub [(0, .ref 145), (1, .int v1), (2, .int (0 : Int32)), (3, .int (0 : Int32))] ⟨rfl, rfl, rfl, rfl, trivial⟩ rfl ?_
  refine ok_lp_X11_standing_4 hR  (fun u9 h10 => ?_) FU _ _  h
  refine mr_iload_n (pc' := 39) dX11_standing_38 rfl rfl ?_
  obtain rfl := Option.some.inj h10
  exact mr_ireturn dX11_standing_39 rfl
def lp_X11_divisor_28  (S : fS) (K : Int64 → Option (Int64)) : Nat → Int64 → Int64 → Option (Int64)
  | 0, _, _ => none
  | n + 1, p4, p6 =>
    if p6 = (0 : Int64) then (K p4) else
    ((rL p4 p6).bind fun a4 =>
    lp_X11_divisor_28  S K n p6 a4)
set_option maxHeartbeats 4000000 in
set_option maxRecDepth 100000 in
theorem ok_lp_X11_divisor_28 {X : mm_C} {RR : Nat → Nat → Option Nat} (hR : RRok RR)   {S : fS} {K : Int64 → Option (Int64)} {r : Int64} (hK : ∀ (k4 : Int64), K k4 = some r → mr X 0 mY_X11_divisor 53 [(4, .long k4)] [] (MM RR S) (some (.long r), MM RR S)) : ∀ (n : Nat) (p4 : Int64) (p6 : Int64), lp_X11_divisor_28  S K n p4 p6 = some r → mr X 0 mY_X11_divisor 28 [(4, .long p4), (6, .long p6)] [] (MM RR S) (some (.long r), MM RR S) := by
  intro n
  induction n with
  | zero => intro p4 p6 h; exact mm_no h
  | succ n ih =>
    intro p4 p6 h
    unfold lp_X11_divisor_28 at h
    refine mr_lload (pc' := 30) dX11_divisor_28 rfl rfl ?_
    refine mr_lconst (pc' := 31) (v := (0 : Int64)) dX11_divisor_30 rfl (by decide) ?_
    by_cases c3 : p6 = (0 : Int64)
    · rw [if_pos c3] at h
      refine mr_lcmp_eq_t (t := 53) dX11_divisor_31 rfl dX11_divisor_32 (by decide) c3 ?_
      exact mr_sub [(4, .long p4)] ⟨rfl, trivial⟩ rfl (hK _  h)
    · rw [if_neg c3] at h
      refine mr_lcmp_eq_f (t := 53) (pc' := 35) dX11_divisor_31 rfl dX11_divisor_32 (by decide) rfl c3 ?_
      refine mr_lload (pc' := 37) dX11_divisor_35 rfl rfl ?_
      refine mr_lload (pc' := 39) dX11_divisor_37 rfl rfl ?_
      obtain ⟨a4, g5, h6⟩ := Option.bind_eq_some_iff.mp h
      refine mr_lrem (pc' := 40) dX11_divisor_39 rfl g5 ?_
      refine mr_lstore (pc' := 42) (lv' := [(8, .long a4), (4, .long p4), (6, .long p6)]) dX11_divisor_40 rfl (by decide) rfl ?_
      refine mr_lload (pc' := 44) dX11_divisor_42 rfl rfl ?_
      refine mr_lstore (pc' := 46) (lv' := [(4, .long p6), (8, .long a4), (6, .long p6)]) dX11_divisor_44 rfl (by decide) rfl ?_
      refine mr_lload (pc' := 48) dX11_divisor_46 rfl rfl ?_
      refine mr_lstore (pc' := 50) (lv' := [(6, .long a4), (4, .long p6), (8, .long a4)]) dX11_divisor_48 rfl (by decide) rfl ?_
      refine mr_goto (t := 28) dX11_divisor_50 (by decide) ?_
      exact mr_sub [(4, .long p6), (6, .long a4)] ⟨rfl, rfl, trivial⟩ rfl (ih _ _  h6)
def f_X11_divisor (v0 : Int64) (v2 : Int64) (S : fS) : Option (Int64) :=
  if (0 : Int64) ≤ v0 then (if (0 : Int64) ≤ v2 then (lp_X11_divisor_28  S (fun u7 => some u7) FU v0 v2) else
  (lp_X11_divisor_28  S (fun u9 => some u9) FU v0 (-v2))) else
  (if (0 : Int64) ≤ v2 then (lp_X11_divisor_28  S (fun u12 => some u12) FU (-v0) v2) else
  (lp_X11_divisor_28  S (fun u14 => some u14) FU (-v0) (-v2)))
set_option maxHeartbeats 4000000 in
set_option maxRecDepth 100000 in
theorem ok_X11_divisor {X : mm_C} {RR : Nat → Nat → Option Nat} (hR : RRok RR) {v0 : Int64} {v2 : Int64}  {S : fS} {r : Int64} (h : f_X11_divisor v0 v2 S = some r) : mr X 0 mY_X11_divisor 0 (lv_args 0 [.long v0, .long v2]) [] (MM RR S) (some (.long r), MM RR S) := by
  unfold f_X11_divisor at h
  show mr X _ _ 0 [(0, .long v0), (2, .long v2)] [] (MM RR S) _
  refine mr_lload_n (pc' := 1) dX11_divisor_0 rfl rfl ?_
  refine mr_lconst (pc' := 2) (v := (0 : Int64)) dX11_divisor_1 rfl (by decide) ?_
  by_cases c1 : (0 : Int64) ≤ v0
  · rw [if_pos c1] at h
    refine mr_lcmp_ge_t (t := 11) dX11_divisor_2 rfl dX11_divisor_3 (by decide) c1 ?_
    refine mr_lload_n (pc' := 12) dX11_divisor_11 rfl rfl ?_
    refine mr_lstore (pc' := 14) (lv' := [(4, .long v0), (0, .long v0), (2, .long v2)]) dX11_divisor_12 rfl (by decide) rfl ?_
    refine mr_lload_n (pc' := 15) dX11_divisor_14 rfl rfl ?_
    refine mr_lconst (pc' := 16) (v := (0 : Int64)) dX11_divisor_15 rfl (by decide) ?_
    by_cases c2 : (0 : Int64) ≤ v2
    · rw [if_pos c2] at h
      refine mr_lcmp_ge_t (t := 25) dX11_divisor_16 rfl dX11_divisor_17 (by decide) c2 ?_
      refine mr_lload_n (pc' := 26) dX11_divisor_25 rfl rfl ?_
      refine mr_lstore (pc' := 28) (lv' := [(6, .long v2), (4, .long v0), (0, .long v0), (2, .long v2)]) dX11_divisor_26 rfl (by decide) rfl ?_
      refine mr_sub [(4, .long v0), (6, .long v2)] ⟨rfl, rfl, trivial⟩ rfl ?_
      refine ok_lp_X11_divisor_28 hR  (fun u7 h8 => ?_) FU _ _  h
      refine mr_lload (pc' := 55) dX11_divisor_53 rfl rfl ?_
      obtain rfl := Option.some.inj h8
      exact mr_lreturn dX11_divisor_55 rfl
    · rw [if_neg c2] at h
      refine mr_lcmp_ge_f (t := 25) (pc' := 20) dX11_divisor_16 rfl dX11_divisor_17 (by decide) rfl c2 ?_
      refine mr_lload_n (pc' := 21) dX11_divisor_20 rfl rfl ?_
      refine mr_lneg (pc' := 22) dX11_divisor_21 rfl ?_
      refine mr_goto (t := 26) dX11_divisor_22 (by decide) ?_
      refine mr_lstore (pc' := 28) (lv' := [(6, .long (-v2)), (4, .long v0), (0, .long v0), (2, .long v2)]) dX11_divisor_26 rfl (by decide) rfl ?_
      refine mr_sub [(4, .long v0), (6, .long (-v2))] ⟨rfl, rfl, trivial⟩ rfl ?_
      refine ok_lp_X11_divisor_28 hR  (fun u9 h10 => ?_) FU _ _  h
      refine mr_lload (pc' := 55) dX11_divisor_53 rfl rfl ?_
      obtain rfl := Option.some.inj h10
      exact mr_lreturn dX11_divisor_55 rfl
  · rw [if_neg c1] at h
    refine mr_lcmp_ge_f (t := 11) (pc' := 6) dX11_divisor_2 rfl dX11_divisor_3 (by decide) rfl c1 ?_
    refine mr_lload_n (pc' := 7) dX11_divisor_6 rfl rfl ?_
    refine mr_lneg (pc' := 8) dX11_divisor_7 rfl ?_
    refine mr_goto (t := 12) dX11_divisor_8 (by decide) ?_
    refine mr_lstore (pc' := 14) (lv' := [(4, .long (-v0)), (0, .long v0), (2, .long v2)]) dX11_divisor_12 rfl (by decide) rfl ?_
    refine mr_lload_n (pc' := 15) dX11_divisor_14 rfl rfl ?_
    refine mr_lconst (pc' := 16) (v := (0 : Int64)) dX11_divisor_15 rfl (by decide) ?_
    by_cases c11 : (0 : Int64) ≤ v2
    · rw [if_pos c11] at h
      refine mr_lcmp_ge_t (t := 25) dX11_divisor_16 rfl dX11_divisor_17 (by decide) c11 ?_
      refine mr_lload_n (pc' := 26) dX11_divisor_25 rfl rfl ?_
      refine mr_lstore (pc' := 28) (lv' := [(6, .long v2), (4, .long (-v0)), (0, .long v0), (2, .long v2)]) dX11_divisor_26 rfl (by decide) rfl ?_
      refine mr_sub [(4, .long (-v0)), (6, .long v2)] ⟨rfl, rfl, trivial⟩ rfl ?_
      refine ok_lp_X11_divisor_28 hR  (fun u12 h13 => ?_) FU _ _  h
      refine mr_lload (pc' := 55) dX11_divisor_53 rfl rfl ?_
      obtain rfl := Option.some.inj h13
      exact mr_lreturn dX11_divisor_55 rfl
    · rw [if_neg c11] at h
      refine mr_lcmp_ge_f (t := 25) (pc' := 20) dX11_divisor_16 rfl dX11_divisor_17 (by decide) rfl c11 ?_
      refine mr_lload_n (pc' := 21) dX11_divisor_20 rfl rfl ?_
      refine mr_lneg (pc' := 22) dX11_divisor_21 rfl ?_
      refine mr_goto (t := 26) dX11_divisor_22 (by decide) ?_
      refine mr_lstore (pc' := 28) (lv' := [(6, .long (-v2)), (4, .long (-v0)), (0, .long v0), (2, .long v2)]) dX11_divisor_26 rfl (by decide) rfl ?_
      refine mr_sub [(4, .long (-v0)), (6, .long (-v2))] ⟨rfl, rfl, trivial⟩ rfl ?_
      refine ok_lp_X11_divisor_28 hR  (fun u14 h15 => ?_) FU _ _  h
      refine mr_lload (pc' := 55) dX11_divisor_53 rfl rfl ?_
      obtain rfl := Option.some.inj h15
      exact mr_lreturn dX11_divisor_55 rfl
def f_X11_lowest (v0 : Int64) (v2 : Int64) (v4 : Int32) (S : fS) : Option (Int64) :=
  (f_X11_divisor v0 v2 S).bind fun q1 =>
  if v4 = (0 : Int32) then ((dL v0 q1).bind fun a8 =>
  some a8) else
  ((dL v2 q1).bind fun a5 =>
  some a5)
set_option maxHeartbeats 4000000 in
set_option maxRecDepth 100000 in
theorem ok_X11_lowest {X : mm_C} {RR : Nat → Nat → Option Nat} (hR : RRok RR) {v0 : Int64} {v2 : Int64} {v4 : Int32}  {S : fS} {r : Int64} (h : f_X11_lowest v0 v2 v4 S = some r) : mr X 1 mY_X11_lowest 0 (lv_args 0 [.long v0, .long v2, .int v4]) [] (MM RR S) (some (.long r), MM RR S) := by
  unfold f_X11_lowest at h
  show mr X _ _ 0 [(0, .long v0), (2, .long v2), (4, .int v4)] [] (MM RR S) _
  refine mr_lload_n (pc' := 1) dX11_lowest_0 rfl rfl ?_
  refine mr_lload_n (pc' := 2) dX11_lowest_1 rfl rfl ?_
  obtain ⟨q1, g2, h3⟩ := Option.bind_eq_some_iff.mp h
  refine mr_cs (pc' := 5) (d1 := 0) dX11_lowest_2 rfl rfl rfl rfl (by decide) (Nat.le_of_ble_eq_true rfl) rfl rfl rfl (by decide) (ok_X11_divisor hR  g2) ?_
  show mr X _ _ 5 _ [.long q1] (MM RR S) _
  refine mr_lstore (pc' := 7) (lv' := [(5, .long q1), (0, .long v0), (2, .long v2), (4, .int v4)]) dX11_lowest_5 rfl (by decide) rfl ?_
  refine mr_iload (pc' := 9) dX11_lowest_7 rfl rfl ?_
  by_cases c4 : v4 = (0 : Int32)
  · rw [if_pos c4] at h3
    refine mr_if_ne_f (t := 19) (pc' := 12) dX11_lowest_9 (by decide) rfl (not_not_intro c4) ?_
    refine mr_lload_n (pc' := 13) dX11_lowest_12 rfl rfl ?_
    refine mr_lload (pc' := 15) dX11_lowest_13 rfl rfl ?_
    obtain ⟨a8, g9, h10⟩ := Option.bind_eq_some_iff.mp h3
    refine mr_ldiv (pc' := 16) dX11_lowest_15 rfl g9 ?_
    refine mr_goto (t := 23) dX11_lowest_16 (by decide) ?_
    obtain rfl := Option.some.inj h10
    exact mr_lreturn dX11_lowest_23 rfl
  · rw [if_neg c4] at h3
    refine mr_if_ne_t (t := 19) dX11_lowest_9 (by decide) c4 ?_
    refine mr_lload_n (pc' := 20) dX11_lowest_19 rfl rfl ?_
    refine mr_lload (pc' := 22) dX11_lowest_20 rfl rfl ?_
    obtain ⟨a5, g6, h7⟩ := Option.bind_eq_some_iff.mp h3
    refine mr_ldiv (pc' := 23) dX11_lowest_22 rfl g6 ?_
    obtain rfl := Option.some.inj h7
    exact mr_lreturn dX11_lowest_23 rfl
def f_X11_floor (v1 : Int32) (v2 : Int32) (S : fS) : Option (Int32) :=
  (f_X11_isFloor v1 S).bind fun q1 =>
  if q1 = (0 : Int32) then (some (-1 : Int32)) else
  ((f_X11_in (Int32.toInt64 v2) (0 : Int64) (2 : Int64) S).bind fun q5 =>
  if q5 = (0 : Int32) then (some (-1 : Int32)) else
  (if v2 = (2 : Int32) then ((f_X11_standing v1 S).bind fun q19 =>
  some q19) else
  ((gI S 157 158 ((10 : Int32) + ((2 : Int32) * v1))).bind fun a10 =>
  (gI S 157 158 (((10 : Int32) + ((2 : Int32) * v1)) + (1 : Int32))).bind fun a13 =>
  (f_X11_lowest (Int32.toInt64 a10) (Int32.toInt64 a13) v2 S).bind fun q16 =>
  some (Int64.toInt32 q16))))
set_option maxHeartbeats 4000000 in
set_option maxRecDepth 100000 in
theorem ok_X11_floor {X : mm_C} {RR : Nat → Nat → Option Nat} (hR : RRok RR) {v1 : Int32} {v2 : Int32}  {S : fS} {r : Int32} (h : f_X11_floor v1 v2 S = some r) : mr X 2 mY_X11_floor 0 (lv_args 0 [.ref 145, .int v1, .int v2]) [] (MM RR S) (some (.int r), MM RR S) := by
  unfold f_X11_floor at h
  show mr X _ _ 0 [(0, .ref 145), (1, .int v1), (2, .int v2)] [] (MM RR S) _
  refine mr_aload_n (pc' := 1) dX11_floor_0 rfl rfl ?_
  refine mr_iload_n (pc' := 2) dX11_floor_1 rfl rfl ?_
  obtain ⟨q1, g2, h3⟩ := Option.bind_eq_some_iff.mp h
  refine mr_cv (pc' := 5) (a := 145) (d1 := 0) dX11_floor_2 rfl rfl rfl rfl rfl rfl (by decide) rfl (by decide) (ok_X11_isFloor hR  g2) ?_
  show mr X _ _ 5 _ [.int q1] (MM RR S) _
  by_cases c4 : q1 = (0 : Int32)
  · rw [if_pos c4] at h3
    refine mr_if_eq_t (t := 20) dX11_floor_5 (by decide) c4 ?_
    refine mr_iconst (pc' := 21) (v := (-1 : Int32)) dX11_floor_20 rfl (by decide) ?_
    obtain rfl := Option.some.inj h3
    exact mr_ireturn dX11_floor_21 rfl
  · rw [if_neg c4] at h3
    refine mr_if_eq_f (t := 20) (pc' := 8) dX11_floor_5 (by decide) rfl c4 ?_
    refine mr_iload_n (pc' := 9) dX11_floor_8 rfl rfl ?_
    refine mr_i2l (pc' := 10) dX11_floor_9 rfl ?_
    refine mr_lconst (pc' := 11) (v := (0 : Int64)) dX11_floor_10 rfl (by decide) ?_
    refine mr_ldc2 (pc' := 14) (v := (2 : Int64)) dX11_floor_11 rfl rfl ?_
    obtain ⟨q5, g6, h7⟩ := Option.bind_eq_some_iff.mp h3
    refine mr_cs (pc' := 17) (d1 := 0) dX11_floor_14 rfl rfl rfl rfl (by decide) (Nat.le_of_ble_eq_true rfl) rfl rfl rfl (by decide) (ok_X11_in hR  g6) ?_
    show mr X _ _ 17 _ [.int q5] (MM RR S) _
    by_cases c8 : q5 = (0 : Int32)
    · rw [if_pos c8] at h7
      refine mr_if_ne_f (t := 22) (pc' := 20) dX11_floor_17 (by decide) rfl (not_not_intro c8) ?_
      refine mr_iconst (pc' := 21) (v := (-1 : Int32)) dX11_floor_20 rfl (by decide) ?_
      obtain rfl := Option.some.inj h7
      exact mr_ireturn dX11_floor_21 rfl
    · rw [if_neg c8] at h7
      refine mr_if_ne_t (t := 22) dX11_floor_17 (by decide) c8 ?_
      refine mr_iload_n (pc' := 23) dX11_floor_22 rfl rfl ?_
      refine mr_iconst (pc' := 24) (v := (2 : Int32)) dX11_floor_23 rfl (by decide) ?_
      by_cases c9 : v2 = (2 : Int32)
      · rw [if_pos c9] at h7
        refine mr_icmp_ne_f (t := 35) (pc' := 27) dX11_floor_24 (by decide) rfl (not_not_intro c9) ?_
        refine mr_aload_n (pc' := 28) dX11_floor_27 rfl rfl ?_
        refine mr_iload_n (pc' := 29) dX11_floor_28 rfl rfl ?_
        obtain ⟨q19, g20, h21⟩ := Option.bind_eq_some_iff.mp h7
        refine mr_cv (pc' := 32) (a := 145) (d1 := 1) dX11_floor_29 rfl rfl rfl rfl rfl rfl (by decide) rfl (by decide) (ok_X11_standing hR  g20) ?_
        show mr X _ _ 32 _ [.int q19] (MM RR S) _
        refine mr_goto (t := 66) dX11_floor_32 (by decide) ?_
        obtain rfl := Option.some.inj h21
        exact mr_ireturn dX11_floor_66 rfl
      · rw [if_neg c9] at h7
        refine mr_icmp_ne_t (t := 35) dX11_floor_24 (by decide) c9 ?_
        refine mr_aload_n (pc' := 36) dX11_floor_35 rfl rfl ?_
        refine mr_getR (pc' := 39) (ci := 11) (j := 25) (b := 157) hR dX11_floor_36 rfl rfl rfl (by decide) (by decide) (by decide) rfl rfl ?_
        refine mr_bipush (pc' := 41) (v := (10 : Int32)) dX11_floor_39 rfl (by decide) ?_
        refine mr_iconst (pc' := 42) (v := (2 : Int32)) dX11_floor_41 rfl (by decide) ?_
        refine mr_iload_n (pc' := 43) dX11_floor_42 rfl rfl ?_
        refine mr_imul (pc' := 44) dX11_floor_43 rfl ?_
        refine mr_iadd (pc' := 45) dX11_floor_44 rfl ?_
        obtain ⟨a10, g11, h12⟩ := Option.bind_eq_some_iff.mp h7
        refine mr_iald (pc' := 46) dX11_floor_45 rfl rfl rfl g11 ?_
        refine mr_i2l (pc' := 47) dX11_floor_46 rfl ?_
        refine mr_aload_n (pc' := 48) dX11_floor_47 rfl rfl ?_
        refine mr_getR (pc' := 51) (ci := 11) (j := 25) (b := 157) hR dX11_floor_48 rfl rfl rfl (by decide) (by decide) (by decide) rfl rfl ?_
        refine mr_bipush (pc' := 53) (v := (10 : Int32)) dX11_floor_51 rfl (by decide) ?_
        refine mr_iconst (pc' := 54) (v := (2 : Int32)) dX11_floor_53 rfl (by decide) ?_
        refine mr_iload_n (pc' := 55) dX11_floor_54 rfl rfl ?_
        refine mr_imul (pc' := 56) dX11_floor_55 rfl ?_
        refine mr_iadd (pc' := 57) dX11_floor_56 rfl ?_
        refine mr_iconst (pc' := 58) (v := (1 : Int32)) dX11_floor_57 rfl (by decide) ?_
        refine mr_iadd (pc' := 59) dX11_floor_58 rfl ?_
        obtain ⟨a13, g14, h15⟩ := Option.bind_eq_some_iff.mp h12
        refine mr_iald (pc' := 60) dX11_floor_59 rfl rfl rfl g14 ?_
        refine mr_i2l (pc' := 61) dX11_floor_60 rfl ?_
        refine mr_iload_n (pc' := 62) dX11_floor_61 rfl rfl ?_
        obtain ⟨q16, g17, h18⟩ := Option.bind_eq_some_iff.mp h15
        refine mr_cs (pc' := 65) (d1 := 1) dX11_floor_62 rfl rfl rfl rfl (by decide) (Nat.le_of_ble_eq_true rfl) rfl rfl rfl (by decide) (ok_X11_lowest hR  g17) ?_
        show mr X _ _ 65 _ [.long q16] (MM RR S) _
        refine mr_l2i (pc' := 66) dX11_floor_65 rfl ?_
        obtain rfl := Option.some.inj h18
        exact mr_ireturn dX11_floor_66 rfl
def f_X11_isStair (v1 : Int32) (S : fS) : Option (Int32) :=
  if v1 < (0 : Int32) then (some (0 : Int32)) else
  ((gI S 157 158 (1 : Int32)).bind fun a2 =>
  if a2 ≤ v1 then (some (0 : Int32)) else
  (some (1 : Int32)))
set_option maxHeartbeats 4000000 in
set_option maxRecDepth 100000 in
theorem ok_X11_isStair {X : mm_C} {RR : Nat → Nat → Option Nat} (hR : RRok RR) {v1 : Int32}  {S : fS} {r : Int32} (h : f_X11_isStair v1 S = some r) : mr X 0 mY_X11_isStair 0 (lv_args 0 [.ref 145, .int v1]) [] (MM RR S) (some (.int r), MM RR S) := by
  unfold f_X11_isStair at h
  show mr X _ _ 0 [(0, .ref 145), (1, .int v1)] [] (MM RR S) _
  refine mr_iload_n (pc' := 1) dX11_isStair_0 rfl rfl ?_
  by_cases c1 : v1 < (0 : Int32)
  · rw [if_pos c1] at h
    refine mr_if_lt_t (t := 18) dX11_isStair_1 (by decide) c1 ?_
    refine mr_iconst (pc' := 19) (v := (0 : Int32)) dX11_isStair_18 rfl (by decide) ?_
    obtain rfl := Option.some.inj h
    exact mr_zreturn dX11_isStair_19 rfl (by decide)
  · rw [if_neg c1] at h
    refine mr_if_lt_f (t := 18) (pc' := 4) dX11_isStair_1 (by decide) rfl c1 ?_
    refine mr_iload_n (pc' := 5) dX11_isStair_4 rfl rfl ?_
    refine mr_aload_n (pc' := 6) dX11_isStair_5 rfl rfl ?_
    refine mr_getR (pc' := 9) (ci := 11) (j := 25) (b := 157) hR dX11_isStair_6 rfl rfl rfl (by decide) (by decide) (by decide) rfl rfl ?_
    refine mr_iconst (pc' := 10) (v := (1 : Int32)) dX11_isStair_9 rfl (by decide) ?_
    obtain ⟨a2, g3, h4⟩ := Option.bind_eq_some_iff.mp h
    refine mr_iald (pc' := 11) dX11_isStair_10 rfl rfl rfl g3 ?_
    by_cases c5 : a2 ≤ v1
    · rw [if_pos c5] at h4
      refine mr_icmp_ge_t (t := 18) dX11_isStair_11 (by decide) c5 ?_
      refine mr_iconst (pc' := 19) (v := (0 : Int32)) dX11_isStair_18 rfl (by decide) ?_
      obtain rfl := Option.some.inj h4
      exact mr_zreturn dX11_isStair_19 rfl (by decide)
    · rw [if_neg c5] at h4
      refine mr_icmp_ge_f (t := 18) (pc' := 14) dX11_isStair_11 (by decide) rfl c5 ?_
      refine mr_iconst (pc' := 15) (v := (1 : Int32)) dX11_isStair_14 rfl (by decide) ?_
      refine mr_goto (t := 19) dX11_isStair_15 (by decide) ?_
      obtain rfl := Option.some.inj h4
      exact mr_zreturn dX11_isStair_19 rfl (by decide)
def f_X11_stair (v1 : Int32) (v2 : Int32) (S : fS) : Option (Int32) :=
  (f_X11_isStair v1 S).bind fun q1 =>
  if q1 = (0 : Int32) then (some (-1 : Int32)) else
  ((f_X11_in (Int32.toInt64 v2) (0 : Int64) (4 : Int64) S).bind fun q5 =>
  if q5 = (0 : Int32) then (some (-1 : Int32)) else
  (if (3 : Int32) ≤ v2 then ((f_X11_stairOf v1 (3 : Int32) S).bind fun q10 =>
  (f_X11_stairOf v1 (4 : Int32) S).bind fun q13 =>
  (f_X11_lowest (Int32.toInt64 q10) (Int32.toInt64 q13) (v2 - (3 : Int32)) S).bind fun q16 =>
  some (Int64.toInt32 q16)) else
  ((f_X11_stairOf v1 v2 S).bind fun q19 =>
  some q19)))
set_option maxHeartbeats 4000000 in
set_option maxRecDepth 100000 in
theorem ok_X11_stair {X : mm_C} {RR : Nat → Nat → Option Nat} (hR : RRok RR) {v1 : Int32} {v2 : Int32}  {S : fS} {r : Int32} (h : f_X11_stair v1 v2 S = some r) : mr X 2 mY_X11_stair 0 (lv_args 0 [.ref 145, .int v1, .int v2]) [] (MM RR S) (some (.int r), MM RR S) := by
  unfold f_X11_stair at h
  show mr X _ _ 0 [(0, .ref 145), (1, .int v1), (2, .int v2)] [] (MM RR S) _
  refine mr_aload_n (pc' := 1) dX11_stair_0 rfl rfl ?_
  refine mr_iload_n (pc' := 2) dX11_stair_1 rfl rfl ?_
  obtain ⟨q1, g2, h3⟩ := Option.bind_eq_some_iff.mp h
  refine mr_cv (pc' := 5) (a := 145) (d1 := 0) dX11_stair_2 rfl rfl rfl rfl rfl rfl (by decide) rfl (by decide) (ok_X11_isStair hR  g2) ?_
  show mr X _ _ 5 _ [.int q1] (MM RR S) _
  by_cases c4 : q1 = (0 : Int32)
  · rw [if_pos c4] at h3
    refine mr_if_eq_t (t := 20) dX11_stair_5 (by decide) c4 ?_
    refine mr_iconst (pc' := 21) (v := (-1 : Int32)) dX11_stair_20 rfl (by decide) ?_
    obtain rfl := Option.some.inj h3
    exact mr_ireturn dX11_stair_21 rfl
  · rw [if_neg c4] at h3
    refine mr_if_eq_f (t := 20) (pc' := 8) dX11_stair_5 (by decide) rfl c4 ?_
    refine mr_iload_n (pc' := 9) dX11_stair_8 rfl rfl ?_
    refine mr_i2l (pc' := 10) dX11_stair_9 rfl ?_
    refine mr_lconst (pc' := 11) (v := (0 : Int64)) dX11_stair_10 rfl (by decide) ?_
    refine mr_ldc2 (pc' := 14) (v := (4 : Int64)) dX11_stair_11 rfl rfl ?_
    obtain ⟨q5, g6, h7⟩ := Option.bind_eq_some_iff.mp h3
    refine mr_cs (pc' := 17) (d1 := 0) dX11_stair_14 rfl rfl rfl rfl (by decide) (Nat.le_of_ble_eq_true rfl) rfl rfl rfl (by decide) (ok_X11_in hR  g6) ?_
    show mr X _ _ 17 _ [.int q5] (MM RR S) _
    by_cases c8 : q5 = (0 : Int32)
    · rw [if_pos c8] at h7
      refine mr_if_ne_f (t := 22) (pc' := 20) dX11_stair_17 (by decide) rfl (not_not_intro c8) ?_
      refine mr_iconst (pc' := 21) (v := (-1 : Int32)) dX11_stair_20 rfl (by decide) ?_
      obtain rfl := Option.some.inj h7
      exact mr_ireturn dX11_stair_21 rfl
    · rw [if_neg c8] at h7
      refine mr_if_ne_t (t := 22) dX11_stair_17 (by decide) c8 ?_
      refine mr_iload_n (pc' := 23) dX11_stair_22 rfl rfl ?_
      refine mr_iconst (pc' := 24) (v := (3 : Int32)) dX11_stair_23 rfl (by decide) ?_
      by_cases c9 : (3 : Int32) ≤ v2
      · rw [if_pos c9] at h7
        refine mr_icmp_ge_t (t := 36) dX11_stair_24 (by decide) c9 ?_
        refine mr_aload_n (pc' := 37) dX11_stair_36 rfl rfl ?_
        refine mr_iload_n (pc' := 38) dX11_stair_37 rfl rfl ?_
        refine mr_iconst (pc' := 39) (v := (3 : Int32)) dX11_stair_38 rfl (by decide) ?_
        obtain ⟨q10, g11, h12⟩ := Option.bind_eq_some_iff.mp h7
        refine mr_cv (pc' := 42) (a := 145) (d1 := 0) dX11_stair_39 rfl rfl rfl rfl rfl rfl (by decide) rfl (by decide) (ok_X11_stairOf hR  g11) ?_
        show mr X _ _ 42 _ [.int q10] (MM RR S) _
        refine mr_i2l (pc' := 43) dX11_stair_42 rfl ?_
        refine mr_aload_n (pc' := 44) dX11_stair_43 rfl rfl ?_
        refine mr_iload_n (pc' := 45) dX11_stair_44 rfl rfl ?_
        refine mr_iconst (pc' := 46) (v := (4 : Int32)) dX11_stair_45 rfl (by decide) ?_
        obtain ⟨q13, g14, h15⟩ := Option.bind_eq_some_iff.mp h12
        refine mr_cv (pc' := 49) (a := 145) (d1 := 0) dX11_stair_46 rfl rfl rfl rfl rfl rfl (by decide) rfl (by decide) (ok_X11_stairOf hR  g14) ?_
        show mr X _ _ 49 _ [.int q13, .long (Int32.toInt64 q10)] (MM RR S) _
        refine mr_i2l (pc' := 50) dX11_stair_49 rfl ?_
        refine mr_iload_n (pc' := 51) dX11_stair_50 rfl rfl ?_
        refine mr_iconst (pc' := 52) (v := (3 : Int32)) dX11_stair_51 rfl (by decide) ?_
        refine mr_isub (pc' := 53) dX11_stair_52 rfl ?_
        obtain ⟨q16, g17, h18⟩ := Option.bind_eq_some_iff.mp h15
        refine mr_cs (pc' := 56) (d1 := 1) dX11_stair_53 rfl rfl rfl rfl (by decide) (Nat.le_of_ble_eq_true rfl) rfl rfl rfl (by decide) (ok_X11_lowest hR  g17) ?_
        show mr X _ _ 56 _ [.long q16] (MM RR S) _
        refine mr_l2i (pc' := 57) dX11_stair_56 rfl ?_
        obtain rfl := Option.some.inj h18
        exact mr_ireturn dX11_stair_57 rfl
      · rw [if_neg c9] at h7
        refine mr_icmp_ge_f (t := 36) (pc' := 27) dX11_stair_24 (by decide) rfl c9 ?_
        refine mr_aload_n (pc' := 28) dX11_stair_27 rfl rfl ?_
        refine mr_iload_n (pc' := 29) dX11_stair_28 rfl rfl ?_
        refine mr_iload_n (pc' := 30) dX11_stair_29 rfl rfl ?_
        obtain ⟨q19, g20, h21⟩ := Option.bind_eq_some_iff.mp h7
        refine mr_cv (pc' := 33) (a := 145) (d1 := 0) dX11_stair_30 rfl rfl rfl rfl rfl rfl (by decide) rfl (by decide) (ok_X11_stairOf hR  g20) ?_
        show mr X _ _ 33 _ [.int q19] (MM RR S) _
        refine mr_goto (t := 57) dX11_stair_33 (by decide) ?_
        obtain rfl := Option.some.inj h21
        exact mr_ireturn dX11_stair_57 rfl
def f_X11_isThing (v1 : Int32) (S : fS) : Option (Int32) :=
  if v1 < (0 : Int32) then (some (0 : Int32)) else
  ((gI S 157 158 (2 : Int32)).bind fun a2 =>
  if a2 ≤ v1 then (some (0 : Int32)) else
  (some (1 : Int32)))
set_option maxHeartbeats 4000000 in
set_option maxRecDepth 100000 in
theorem ok_X11_isThing {X : mm_C} {RR : Nat → Nat → Option Nat} (hR : RRok RR) {v1 : Int32}  {S : fS} {r : Int32} (h : f_X11_isThing v1 S = some r) : mr X 0 mY_X11_isThing 0 (lv_args 0 [.ref 145, .int v1]) [] (MM RR S) (some (.int r), MM RR S) := by
  unfold f_X11_isThing at h
  show mr X _ _ 0 [(0, .ref 145), (1, .int v1)] [] (MM RR S) _
  refine mr_iload_n (pc' := 1) dX11_isThing_0 rfl rfl ?_
  by_cases c1 : v1 < (0 : Int32)
  · rw [if_pos c1] at h
    refine mr_if_lt_t (t := 18) dX11_isThing_1 (by decide) c1 ?_
    refine mr_iconst (pc' := 19) (v := (0 : Int32)) dX11_isThing_18 rfl (by decide) ?_
    obtain rfl := Option.some.inj h
    exact mr_zreturn dX11_isThing_19 rfl (by decide)
  · rw [if_neg c1] at h
    refine mr_if_lt_f (t := 18) (pc' := 4) dX11_isThing_1 (by decide) rfl c1 ?_
    refine mr_iload_n (pc' := 5) dX11_isThing_4 rfl rfl ?_
    refine mr_aload_n (pc' := 6) dX11_isThing_5 rfl rfl ?_
    refine mr_getR (pc' := 9) (ci := 11) (j := 25) (b := 157) hR dX11_isThing_6 rfl rfl rfl (by decide) (by decide) (by decide) rfl rfl ?_
    refine mr_iconst (pc' := 10) (v := (2 : Int32)) dX11_isThing_9 rfl (by decide) ?_
    obtain ⟨a2, g3, h4⟩ := Option.bind_eq_some_iff.mp h
    refine mr_iald (pc' := 11) dX11_isThing_10 rfl rfl rfl g3 ?_
    by_cases c5 : a2 ≤ v1
    · rw [if_pos c5] at h4
      refine mr_icmp_ge_t (t := 18) dX11_isThing_11 (by decide) c5 ?_
      refine mr_iconst (pc' := 19) (v := (0 : Int32)) dX11_isThing_18 rfl (by decide) ?_
      obtain rfl := Option.some.inj h4
      exact mr_zreturn dX11_isThing_19 rfl (by decide)
    · rw [if_neg c5] at h4
      refine mr_icmp_ge_f (t := 18) (pc' := 14) dX11_isThing_11 (by decide) rfl c5 ?_
      refine mr_iconst (pc' := 15) (v := (1 : Int32)) dX11_isThing_14 rfl (by decide) ?_
      refine mr_goto (t := 19) dX11_isThing_15 (by decide) ?_
      obtain rfl := Option.some.inj h4
      exact mr_zreturn dX11_isThing_19 rfl (by decide)
def f_X11_thing (v1 : Int32) (v2 : Int32) (S : fS) : Option (Int32) :=
  (f_X11_isThing v1 S).bind fun q1 =>
  if q1 = (0 : Int32) then (some (-2 : Int32)) else
  ((f_X11_in (Int32.toInt64 v2) (0 : Int64) (3 : Int64) S).bind fun q5 =>
  if q5 = (0 : Int32) then (some (-2 : Int32)) else
  ((f_X11_thingOf v1 v2 S).bind fun q9 =>
  some q9))
set_option maxHeartbeats 4000000 in
set_option maxRecDepth 100000 in
theorem ok_X11_thing {X : mm_C} {RR : Nat → Nat → Option Nat} (hR : RRok RR) {v1 : Int32} {v2 : Int32}  {S : fS} {r : Int32} (h : f_X11_thing v1 v2 S = some r) : mr X 1 mY_X11_thing 0 (lv_args 0 [.ref 145, .int v1, .int v2]) [] (MM RR S) (some (.int r), MM RR S) := by
  unfold f_X11_thing at h
  show mr X _ _ 0 [(0, .ref 145), (1, .int v1), (2, .int v2)] [] (MM RR S) _
  refine mr_aload_n (pc' := 1) dX11_thing_0 rfl rfl ?_
  refine mr_iload_n (pc' := 2) dX11_thing_1 rfl rfl ?_
  obtain ⟨q1, g2, h3⟩ := Option.bind_eq_some_iff.mp h
  refine mr_cv (pc' := 5) (a := 145) (d1 := 0) dX11_thing_2 rfl rfl rfl rfl rfl rfl (by decide) rfl (by decide) (ok_X11_isThing hR  g2) ?_
  show mr X _ _ 5 _ [.int q1] (MM RR S) _
  by_cases c4 : q1 = (0 : Int32)
  · rw [if_pos c4] at h3
    refine mr_if_eq_t (t := 29) dX11_thing_5 (by decide) c4 ?_
    refine mr_bipush (pc' := 31) (v := (-2 : Int32)) dX11_thing_29 rfl (by decide) ?_
    obtain rfl := Option.some.inj h3
    exact mr_ireturn dX11_thing_31 rfl
  · rw [if_neg c4] at h3
    refine mr_if_eq_f (t := 29) (pc' := 8) dX11_thing_5 (by decide) rfl c4 ?_
    refine mr_iload_n (pc' := 9) dX11_thing_8 rfl rfl ?_
    refine mr_i2l (pc' := 10) dX11_thing_9 rfl ?_
    refine mr_lconst (pc' := 11) (v := (0 : Int64)) dX11_thing_10 rfl (by decide) ?_
    refine mr_ldc2 (pc' := 14) (v := (3 : Int64)) dX11_thing_11 rfl rfl ?_
    obtain ⟨q5, g6, h7⟩ := Option.bind_eq_some_iff.mp h3
    refine mr_cs (pc' := 17) (d1 := 0) dX11_thing_14 rfl rfl rfl rfl (by decide) (Nat.le_of_ble_eq_true rfl) rfl rfl rfl (by decide) (ok_X11_in hR  g6) ?_
    show mr X _ _ 17 _ [.int q5] (MM RR S) _
    by_cases c8 : q5 = (0 : Int32)
    · rw [if_pos c8] at h7
      refine mr_if_eq_t (t := 29) dX11_thing_17 (by decide) c8 ?_
      refine mr_bipush (pc' := 31) (v := (-2 : Int32)) dX11_thing_29 rfl (by decide) ?_
      obtain rfl := Option.some.inj h7
      exact mr_ireturn dX11_thing_31 rfl
    · rw [if_neg c8] at h7
      refine mr_if_eq_f (t := 29) (pc' := 20) dX11_thing_17 (by decide) rfl c8 ?_
      refine mr_aload_n (pc' := 21) dX11_thing_20 rfl rfl ?_
      refine mr_iload_n (pc' := 22) dX11_thing_21 rfl rfl ?_
      refine mr_iload_n (pc' := 23) dX11_thing_22 rfl rfl ?_
      obtain ⟨q9, g10, h11⟩ := Option.bind_eq_some_iff.mp h7
      refine mr_cv (pc' := 26) (a := 145) (d1 := 0) dX11_thing_23 rfl rfl rfl rfl rfl rfl (by decide) rfl (by decide) (ok_X11_thingOf hR  g10) ?_
      show mr X _ _ 26 _ [.int q9] (MM RR S) _
      refine mr_goto (t := 31) dX11_thing_26 (by decide) ?_
      obtain rfl := Option.some.inj h11
      exact mr_ireturn dX11_thing_31 rfl
def f_X11_age (v1 : Int32) (v2 : Int32) (S : fS) : Option (Int64) :=
  (f_X11_isThing v1 S).bind fun q1 =>
  if q1 = (0 : Int32) then (some (-1 : Int64)) else
  ((f_X11_in (Int32.toInt64 v2) (0 : Int64) (1 : Int64) S).bind fun q5 =>
  if q5 = (0 : Int32) then (some (-1 : Int64)) else
  ((gL S 158 8 v1).bind fun a9 =>
  (f_X11_lowest a9 (232792560 : Int64) v2 S).bind fun q12 =>
  some q12))
set_option maxHeartbeats 4000000 in
set_option maxRecDepth 100000 in
theorem ok_X11_age {X : mm_C} {RR : Nat → Nat → Option Nat} (hR : RRok RR) {v1 : Int32} {v2 : Int32}  {S : fS} {r : Int64} (h : f_X11_age v1 v2 S = some r) : mr X 2 mY_X11_age 0 (lv_args 0 [.ref 145, .int v1, .int v2]) [] (MM RR S) (some (.long r), MM RR S) := by
  unfold f_X11_age at h
  show mr X _ _ 0 [(0, .ref 145), (1, .int v1), (2, .int v2)] [] (MM RR S) _
  refine mr_aload_n (pc' := 1) dX11_age_0 rfl rfl ?_
  refine mr_iload_n (pc' := 2) dX11_age_1 rfl rfl ?_
  obtain ⟨q1, g2, h3⟩ := Option.bind_eq_some_iff.mp h
  refine mr_cv (pc' := 5) (a := 145) (d1 := 0) dX11_age_2 rfl rfl rfl rfl rfl rfl (by decide) rfl (by decide) (ok_X11_isThing hR  g2) ?_
  show mr X _ _ 5 _ [.int q1] (MM RR S) _
  by_cases c4 : q1 = (0 : Int32)
  · rw [if_pos c4] at h3
    refine mr_if_eq_t (t := 34) dX11_age_5 (by decide) c4 ?_
    refine mr_ldc2 (pc' := 37) (v := (-1 : Int64)) dX11_age_34 rfl rfl ?_
    obtain rfl := Option.some.inj h3
    exact mr_lreturn dX11_age_37 rfl
  · rw [if_neg c4] at h3
    refine mr_if_eq_f (t := 34) (pc' := 8) dX11_age_5 (by decide) rfl c4 ?_
    refine mr_iload_n (pc' := 9) dX11_age_8 rfl rfl ?_
    refine mr_i2l (pc' := 10) dX11_age_9 rfl ?_
    refine mr_lconst (pc' := 11) (v := (0 : Int64)) dX11_age_10 rfl (by decide) ?_
    refine mr_lconst (pc' := 12) (v := (1 : Int64)) dX11_age_11 rfl (by decide) ?_
    obtain ⟨q5, g6, h7⟩ := Option.bind_eq_some_iff.mp h3
    refine mr_cs (pc' := 15) (d1 := 0) dX11_age_12 rfl rfl rfl rfl (by decide) (Nat.le_of_ble_eq_true rfl) rfl rfl rfl (by decide) (ok_X11_in hR  g6) ?_
    show mr X _ _ 15 _ [.int q5] (MM RR S) _
    by_cases c8 : q5 = (0 : Int32)
    · rw [if_pos c8] at h7
      refine mr_if_eq_t (t := 34) dX11_age_15 (by decide) c8 ?_
      refine mr_ldc2 (pc' := 37) (v := (-1 : Int64)) dX11_age_34 rfl rfl ?_
      obtain rfl := Option.some.inj h7
      exact mr_lreturn dX11_age_37 rfl
    · rw [if_neg c8] at h7
      refine mr_if_eq_f (t := 34) (pc' := 18) dX11_age_15 (by decide) rfl c8 ?_
      refine mr_aload_n (pc' := 19) dX11_age_18 rfl rfl ?_
      refine mr_getR (pc' := 22) (ci := 11) (j := 26) (b := 158) hR dX11_age_19 rfl rfl rfl (by decide) (by decide) (by decide) rfl rfl ?_
      refine mr_iload_n (pc' := 23) dX11_age_22 rfl rfl ?_
      obtain ⟨a9, g10, h11⟩ := Option.bind_eq_some_iff.mp h7
      refine mr_lald (pc' := 24) dX11_age_23 rfl rfl rfl g10 ?_
      refine mr_ldc2 (pc' := 27) (v := (232792560 : Int64)) dX11_age_24 rfl rfl ?_
      refine mr_iload_n (pc' := 28) dX11_age_27 rfl rfl ?_
      obtain ⟨q12, g13, h14⟩ := Option.bind_eq_some_iff.mp h11
      refine mr_cs (pc' := 31) (d1 := 1) dX11_age_28 rfl rfl rfl rfl (by decide) (Nat.le_of_ble_eq_true rfl) rfl rfl rfl (by decide) (ok_X11_lowest hR  g13) ?_
      show mr X _ _ 31 _ [.long q12] (MM RR S) _
      refine mr_goto (t := 37) dX11_age_31 (by decide) ?_
      obtain rfl := Option.some.inj h14
      exact mr_lreturn dX11_age_37 rfl
def f_X11_older (v1 : Int32) (v2 : Int32) (S : fS) : Option (Int32) :=
  (f_X11_isThing v1 S).bind fun q1 =>
  if q1 = (0 : Int32) then (some (-2 : Int32)) else
  ((f_X11_isThing v2 S).bind fun q5 =>
  if q5 = (0 : Int32) then (some (-2 : Int32)) else
  ((gL S 158 8 v1).bind fun a9 =>
  (gL S 158 8 v2).bind fun a12 =>
  if a9 ≤ a12 then ((gL S 158 8 v1).bind fun a16 =>
  (gL S 158 8 v2).bind fun a19 =>
  if a19 ≤ a16 then (some (0 : Int32)) else
  (some (-1 : Int32))) else
  (some (1 : Int32))))
set_option maxHeartbeats 4000000 in
set_option maxRecDepth 100000 in
theorem ok_X11_older {X : mm_C} {RR : Nat → Nat → Option Nat} (hR : RRok RR) {v1 : Int32} {v2 : Int32}  {S : fS} {r : Int32} (h : f_X11_older v1 v2 S = some r) : mr X 1 mY_X11_older 0 (lv_args 0 [.ref 145, .int v1, .int v2]) [] (MM RR S) (some (.int r), MM RR S) := by
  unfold f_X11_older at h
  show mr X _ _ 0 [(0, .ref 145), (1, .int v1), (2, .int v2)] [] (MM RR S) _
  refine mr_aload_n (pc' := 1) dX11_older_0 rfl rfl ?_
  refine mr_iload_n (pc' := 2) dX11_older_1 rfl rfl ?_
  obtain ⟨q1, g2, h3⟩ := Option.bind_eq_some_iff.mp h
  refine mr_cv (pc' := 5) (a := 145) (d1 := 0) dX11_older_2 rfl rfl rfl rfl rfl rfl (by decide) rfl (by decide) (ok_X11_isThing hR  g2) ?_
  show mr X _ _ 5 _ [.int q1] (MM RR S) _
  by_cases c4 : q1 = (0 : Int32)
  · rw [if_pos c4] at h3
    refine mr_if_eq_t (t := 16) dX11_older_5 (by decide) c4 ?_
    refine mr_bipush (pc' := 18) (v := (-2 : Int32)) dX11_older_16 rfl (by decide) ?_
    obtain rfl := Option.some.inj h3
    exact mr_ireturn dX11_older_18 rfl
  · rw [if_neg c4] at h3
    refine mr_if_eq_f (t := 16) (pc' := 8) dX11_older_5 (by decide) rfl c4 ?_
    refine mr_aload_n (pc' := 9) dX11_older_8 rfl rfl ?_
    refine mr_iload_n (pc' := 10) dX11_older_9 rfl rfl ?_
    obtain ⟨q5, g6, h7⟩ := Option.bind_eq_some_iff.mp h3
    refine mr_cv (pc' := 13) (a := 145) (d1 := 0) dX11_older_10 rfl rfl rfl rfl rfl rfl (by decide) rfl (by decide) (ok_X11_isThing hR  g6) ?_
    show mr X _ _ 13 _ [.int q5] (MM RR S) _
    by_cases c8 : q5 = (0 : Int32)
    · rw [if_pos c8] at h7
      refine mr_if_ne_f (t := 19) (pc' := 16) dX11_older_13 (by decide) rfl (not_not_intro c8) ?_
      refine mr_bipush (pc' := 18) (v := (-2 : Int32)) dX11_older_16 rfl (by decide) ?_
      obtain rfl := Option.some.inj h7
      exact mr_ireturn dX11_older_18 rfl
    · rw [if_neg c8] at h7
      refine mr_if_ne_t (t := 19) dX11_older_13 (by decide) c8 ?_
      refine mr_aload_n (pc' := 20) dX11_older_19 rfl rfl ?_
      refine mr_getR (pc' := 23) (ci := 11) (j := 26) (b := 158) hR dX11_older_20 rfl rfl rfl (by decide) (by decide) (by decide) rfl rfl ?_
      refine mr_iload_n (pc' := 24) dX11_older_23 rfl rfl ?_
      obtain ⟨a9, g10, h11⟩ := Option.bind_eq_some_iff.mp h7
      refine mr_lald (pc' := 25) dX11_older_24 rfl rfl rfl g10 ?_
      refine mr_aload_n (pc' := 26) dX11_older_25 rfl rfl ?_
      refine mr_getR (pc' := 29) (ci := 11) (j := 26) (b := 158) hR dX11_older_26 rfl rfl rfl (by decide) (by decide) (by decide) rfl rfl ?_
      refine mr_iload_n (pc' := 30) dX11_older_29 rfl rfl ?_
      obtain ⟨a12, g13, h14⟩ := Option.bind_eq_some_iff.mp h11
      refine mr_lald (pc' := 31) dX11_older_30 rfl rfl rfl g13 ?_
      by_cases c15 : a9 ≤ a12
      · rw [if_pos c15] at h14
        refine mr_lcmp_le_t (t := 39) dX11_older_31 rfl dX11_older_32 (by decide) c15 ?_
        refine mr_aload_n (pc' := 40) dX11_older_39 rfl rfl ?_
        refine mr_getR (pc' := 43) (ci := 11) (j := 26) (b := 158) hR dX11_older_40 rfl rfl rfl (by decide) (by decide) (by decide) rfl rfl ?_
        refine mr_iload_n (pc' := 44) dX11_older_43 rfl rfl ?_
        obtain ⟨a16, g17, h18⟩ := Option.bind_eq_some_iff.mp h14
        refine mr_lald (pc' := 45) dX11_older_44 rfl rfl rfl g17 ?_
        refine mr_aload_n (pc' := 46) dX11_older_45 rfl rfl ?_
        refine mr_getR (pc' := 49) (ci := 11) (j := 26) (b := 158) hR dX11_older_46 rfl rfl rfl (by decide) (by decide) (by decide) rfl rfl ?_
        refine mr_iload_n (pc' := 50) dX11_older_49 rfl rfl ?_
        obtain ⟨a19, g20, h21⟩ := Option.bind_eq_some_iff.mp h18
        refine mr_lald (pc' := 51) dX11_older_50 rfl rfl rfl g20 ?_
        by_cases c22 : a19 ≤ a16
        · rw [if_pos c22] at h21
          refine mr_lcmp_ge_t (t := 59) dX11_older_51 rfl dX11_older_52 (by decide) c22 ?_
          refine mr_iconst (pc' := 60) (v := (0 : Int32)) dX11_older_59 rfl (by decide) ?_
          obtain rfl := Option.some.inj h21
          exact mr_ireturn dX11_older_60 rfl
        · rw [if_neg c22] at h21
          refine mr_lcmp_ge_f (t := 59) (pc' := 55) dX11_older_51 rfl dX11_older_52 (by decide) rfl c22 ?_
          refine mr_iconst (pc' := 56) (v := (-1 : Int32)) dX11_older_55 rfl (by decide) ?_
          refine mr_goto (t := 60) dX11_older_56 (by decide) ?_
          obtain rfl := Option.some.inj h21
          exact mr_ireturn dX11_older_60 rfl
      · rw [if_neg c15] at h14
        refine mr_lcmp_le_f (t := 39) (pc' := 35) dX11_older_31 rfl dX11_older_32 (by decide) rfl c15 ?_
        refine mr_iconst (pc' := 36) (v := (1 : Int32)) dX11_older_35 rfl (by decide) ?_
        refine mr_goto (t := 60) dX11_older_36 (by decide) ?_
        obtain rfl := Option.some.inj h14
        exact mr_ireturn dX11_older_60 rfl
def f_X11_otherEnd (v1 : Int32) (v2 : Int32) (S : fS) : Option (Int32) :=
  (f_X11_stairOf v1 (0 : Int32) S).bind fun q1 =>
  if q1 = v2 then ((f_X11_stairOf v1 (1 : Int32) S).bind fun q12 =>
  some q12) else
  ((f_X11_stairOf v1 (1 : Int32) S).bind fun q5 =>
  if q5 = v2 then ((f_X11_stairOf v1 (0 : Int32) S).bind fun q9 =>
  some q9) else
  (some (-1 : Int32)))
set_option maxHeartbeats 4000000 in
set_option maxRecDepth 100000 in
theorem ok_X11_otherEnd {X : mm_C} {RR : Nat → Nat → Option Nat} (hR : RRok RR) {v1 : Int32} {v2 : Int32}  {S : fS} {r : Int32} (h : f_X11_otherEnd v1 v2 S = some r) : mr X 1 mY_X11_otherEnd 0 (lv_args 0 [.ref 145, .int v1, .int v2]) [] (MM RR S) (some (.int r), MM RR S) := by
  unfold f_X11_otherEnd at h
  show mr X _ _ 0 [(0, .ref 145), (1, .int v1), (2, .int v2)] [] (MM RR S) _
  refine mr_aload_n (pc' := 1) dX11_otherEnd_0 rfl rfl ?_
  refine mr_iload_n (pc' := 2) dX11_otherEnd_1 rfl rfl ?_
  refine mr_iconst (pc' := 3) (v := (0 : Int32)) dX11_otherEnd_2 rfl (by decide) ?_
  obtain ⟨q1, g2, h3⟩ := Option.bind_eq_some_iff.mp h
  refine mr_cv (pc' := 6) (a := 145) (d1 := 0) dX11_otherEnd_3 rfl rfl rfl rfl rfl rfl (by decide) rfl (by decide) (ok_X11_stairOf hR  g2) ?_
  show mr X _ _ 6 _ [.int q1] (MM RR S) _
  refine mr_iload_n (pc' := 7) dX11_otherEnd_6 rfl rfl ?_
  by_cases c4 : q1 = v2
  · rw [if_pos c4] at h3
    refine mr_icmp_ne_f (t := 19) (pc' := 10) dX11_otherEnd_7 (by decide) rfl (not_not_intro c4) ?_
    refine mr_aload_n (pc' := 11) dX11_otherEnd_10 rfl rfl ?_
    refine mr_iload_n (pc' := 12) dX11_otherEnd_11 rfl rfl ?_
    refine mr_iconst (pc' := 13) (v := (1 : Int32)) dX11_otherEnd_12 rfl (by decide) ?_
    obtain ⟨q12, g13, h14⟩ := Option.bind_eq_some_iff.mp h3
    refine mr_cv (pc' := 16) (a := 145) (d1 := 0) dX11_otherEnd_13 rfl rfl rfl rfl rfl rfl (by decide) rfl (by decide) (ok_X11_stairOf hR  g13) ?_
    show mr X _ _ 16 _ [.int q12] (MM RR S) _
    refine mr_goto (t := 39) dX11_otherEnd_16 (by decide) ?_
    obtain rfl := Option.some.inj h14
    exact mr_ireturn dX11_otherEnd_39 rfl
  · rw [if_neg c4] at h3
    refine mr_icmp_ne_t (t := 19) dX11_otherEnd_7 (by decide) c4 ?_
    refine mr_aload_n (pc' := 20) dX11_otherEnd_19 rfl rfl ?_
    refine mr_iload_n (pc' := 21) dX11_otherEnd_20 rfl rfl ?_
    refine mr_iconst (pc' := 22) (v := (1 : Int32)) dX11_otherEnd_21 rfl (by decide) ?_
    obtain ⟨q5, g6, h7⟩ := Option.bind_eq_some_iff.mp h3
    refine mr_cv (pc' := 25) (a := 145) (d1 := 0) dX11_otherEnd_22 rfl rfl rfl rfl rfl rfl (by decide) rfl (by decide) (ok_X11_stairOf hR  g6) ?_
    show mr X _ _ 25 _ [.int q5] (MM RR S) _
    refine mr_iload_n (pc' := 26) dX11_otherEnd_25 rfl rfl ?_
    by_cases c8 : q5 = v2
    · rw [if_pos c8] at h7
      refine mr_icmp_ne_f (t := 38) (pc' := 29) dX11_otherEnd_26 (by decide) rfl (not_not_intro c8) ?_
      refine mr_aload_n (pc' := 30) dX11_otherEnd_29 rfl rfl ?_
      refine mr_iload_n (pc' := 31) dX11_otherEnd_30 rfl rfl ?_
      refine mr_iconst (pc' := 32) (v := (0 : Int32)) dX11_otherEnd_31 rfl (by decide) ?_
      obtain ⟨q9, g10, h11⟩ := Option.bind_eq_some_iff.mp h7
      refine mr_cv (pc' := 35) (a := 145) (d1 := 0) dX11_otherEnd_32 rfl rfl rfl rfl rfl rfl (by decide) rfl (by decide) (ok_X11_stairOf hR  g10) ?_
      show mr X _ _ 35 _ [.int q9] (MM RR S) _
      refine mr_goto (t := 39) dX11_otherEnd_35 (by decide) ?_
      obtain rfl := Option.some.inj h11
      exact mr_ireturn dX11_otherEnd_39 rfl
    · rw [if_neg c8] at h7
      refine mr_icmp_ne_t (t := 38) dX11_otherEnd_26 (by decide) c8 ?_
      refine mr_iconst (pc' := 39) (v := (-1 : Int32)) dX11_otherEnd_38 rfl (by decide) ?_
      obtain rfl := Option.some.inj h7
      exact mr_ireturn dX11_otherEnd_39 rfl
def f_X11_setsOff (v1 : Int32) (v2 : Int32) (S : fS) : Option (fS) :=
  (gI S 157 158 ((90 : Int32) + ((4 : Int32) * v1))).bind fun a1 =>
  (f_X11_otherEnd v2 a1 S).bind fun q4 =>
  (sI S 157 158 (((90 : Int32) + ((4 : Int32) * v1)) + (3 : Int32)) q4).bind fun S7 =>
  (sI S7 157 158 ((90 : Int32) + ((4 : Int32) * v1)) (-1 : Int32)).bind fun S10 =>
  (sI S10 157 158 (((90 : Int32) + ((4 : Int32) * v1)) + (1 : Int32)) v2).bind fun S13 =>
  (sI S13 157 158 (((90 : Int32) + ((4 : Int32) * v1)) + (2 : Int32)) (0 : Int32)).bind fun S16 =>
  some S16
set_option maxHeartbeats 4000000 in
set_option maxRecDepth 100000 in
theorem ok_X11_setsOff {X : mm_C} {RR : Nat → Nat → Option Nat} (hR : RRok RR) {v1 : Int32} {v2 : Int32}  {S : fS} {r : fS} (h : f_X11_setsOff v1 v2 S = some r) : mr X 2 mY_X11_setsOff 0 (lv_args 0 [.ref 145, .int v1, .int v2]) [] (MM RR S) (none, MM RR r) := by
  unfold f_X11_setsOff at h
  show mr X _ _ 0 [(0, .ref 145), (1, .int v1), (2, .int v2)] [] (MM RR S) _
  refine mr_bipush (pc' := 2) (v := (90 : Int32)) dX11_setsOff_0 rfl (by decide) ?_
  refine mr_iconst (pc' := 3) (v := (4 : Int32)) dX11_setsOff_2 rfl (by decide) ?_
  refine mr_iload_n (pc' := 4) dX11_setsOff_3 rfl rfl ?_
  refine mr_imul (pc' := 5) dX11_setsOff_4 rfl ?_
  refine mr_iadd (pc' := 6) dX11_setsOff_5 rfl ?_
  refine mr_istore_n (pc' := 7) (lv' := [(3, .int ((90 : Int32) + ((4 : Int32) * v1))), (0, .ref 145), (1, .int v1), (2, .int v2)]) dX11_setsOff_6 rfl (by decide) rfl ?_
  refine mr_aload_n (pc' := 8) dX11_setsOff_7 rfl rfl ?_
  refine mr_getR (pc' := 11) (ci := 11) (j := 25) (b := 157) hR dX11_setsOff_8 rfl rfl rfl (by decide) (by decide) (by decide) rfl rfl ?_
  refine mr_iload_n (pc' := 12) dX11_setsOff_11 rfl rfl ?_
  refine mr_iconst (pc' := 13) (v := (3 : Int32)) dX11_setsOff_12 rfl (by decide) ?_
  refine mr_iadd (pc' := 14) dX11_setsOff_13 rfl ?_
  refine mr_aload_n (pc' := 15) dX11_setsOff_14 rfl rfl ?_
  refine mr_iload_n (pc' := 16) dX11_setsOff_15 rfl rfl ?_
  refine mr_aload_n (pc' := 17) dX11_setsOff_16 rfl rfl ?_
  refine mr_getR (pc' := 20) (ci := 11) (j := 25) (b := 157) hR dX11_setsOff_17 rfl rfl rfl (by decide) (by decide) (by decide) rfl rfl ?_
  refine mr_iload_n (pc' := 21) dX11_setsOff_20 rfl rfl ?_
  obtain ⟨a1, g2, h3⟩ := Option.bind_eq_some_iff.mp h
  refine mr_iald (pc' := 22) dX11_setsOff_21 rfl rfl rfl g2 ?_
  obtain ⟨q4, g5, h6⟩ := Option.bind_eq_some_iff.mp h3
  refine mr_cv (pc' := 25) (a := 145) (d1 := 1) dX11_setsOff_22 rfl rfl rfl rfl rfl rfl (by decide) rfl (by decide) (ok_X11_otherEnd hR  g5) ?_
  show mr X _ _ 25 _ [.int q4, .int (((90 : Int32) + ((4 : Int32) * v1)) + (3 : Int32)), .ref 157] (MM RR S) _
  obtain ⟨S7, g8, h9⟩ := Option.bind_eq_some_iff.mp h6
  refine mr_iast (pc' := 26) dX11_setsOff_25 rfl rfl rfl g8 ?_
  refine mr_aload_n (pc' := 27) dX11_setsOff_26 rfl rfl ?_
  refine mr_getR (pc' := 30) (ci := 11) (j := 25) (b := 157) hR dX11_setsOff_27 rfl rfl rfl (by decide) (by decide) (by decide) rfl rfl ?_
  refine mr_iload_n (pc' := 31) dX11_setsOff_30 rfl rfl ?_
  refine mr_iconst (pc' := 32) (v := (-1 : Int32)) dX11_setsOff_31 rfl (by decide) ?_
  obtain ⟨S10, g11, h12⟩ := Option.bind_eq_some_iff.mp h9
  refine mr_iast (pc' := 33) dX11_setsOff_32 rfl rfl rfl g11 ?_
  refine mr_aload_n (pc' := 34) dX11_setsOff_33 rfl rfl ?_
  refine mr_getR (pc' := 37) (ci := 11) (j := 25) (b := 157) hR dX11_setsOff_34 rfl rfl rfl (by decide) (by decide) (by decide) rfl rfl ?_
  refine mr_iload_n (pc' := 38) dX11_setsOff_37 rfl rfl ?_
  refine mr_iconst (pc' := 39) (v := (1 : Int32)) dX11_setsOff_38 rfl (by decide) ?_
  refine mr_iadd (pc' := 40) dX11_setsOff_39 rfl ?_
  refine mr_iload_n (pc' := 41) dX11_setsOff_40 rfl rfl ?_
  obtain ⟨S13, g14, h15⟩ := Option.bind_eq_some_iff.mp h12
  refine mr_iast (pc' := 42) dX11_setsOff_41 rfl rfl rfl g14 ?_
  refine mr_aload_n (pc' := 43) dX11_setsOff_42 rfl rfl ?_
  refine mr_getR (pc' := 46) (ci := 11) (j := 25) (b := 157) hR dX11_setsOff_43 rfl rfl rfl (by decide) (by decide) (by decide) rfl rfl ?_
  refine mr_iload_n (pc' := 47) dX11_setsOff_46 rfl rfl ?_
  refine mr_iconst (pc' := 48) (v := (2 : Int32)) dX11_setsOff_47 rfl (by decide) ?_
  refine mr_iadd (pc' := 49) dX11_setsOff_48 rfl ?_
  refine mr_iconst (pc' := 50) (v := (0 : Int32)) dX11_setsOff_49 rfl (by decide) ?_
  obtain ⟨S16, g17, h18⟩ := Option.bind_eq_some_iff.mp h15
  refine mr_iast (pc' := 51) dX11_setsOff_50 rfl rfl rfl g17 ?_
  obtain rfl := Option.some.inj h18
  exact mr_return dX11_setsOff_51 rfl
def f_X11_go (v1 : Int32) (v2 : Int32) (S : fS) : Option (Int32 × fS) :=
  (f_X11_isThing v1 S).bind fun q1 =>
  if q1 = (0 : Int32) then (some ((0 : Int32), S)) else
  ((f_X11_isStair v2 S).bind fun q5 =>
  if q5 = (0 : Int32) then (some ((0 : Int32), S)) else
  ((f_X11_thingOf v1 (0 : Int32) S).bind fun q9 =>
  if q9 < (0 : Int32) then (some ((0 : Int32), S)) else
  ((f_X11_thingOf v1 (0 : Int32) S).bind fun q13 =>
  (f_X11_otherEnd v2 q13 S).bind fun q16 =>
  if (0 : Int32) ≤ q16 then ((f_X11_setsOff v1 v2 S).bind fun q20 =>
  some ((1 : Int32), q20)) else
  (some ((0 : Int32), S)))))
set_option maxHeartbeats 4000000 in
set_option maxRecDepth 100000 in
theorem ok_X11_go {X : mm_C} {RR : Nat → Nat → Option Nat} (hR : RRok RR) {v1 : Int32} {v2 : Int32}  {S : fS} {r : Int32 × fS} (h : f_X11_go v1 v2 S = some r) : mr X 3 mY_X11_go 0 (lv_args 0 [.ref 145, .int v1, .int v2]) [] (MM RR S) (some (.int r.1), MM RR r.2) := by
  unfold f_X11_go at h
  show mr X _ _ 0 [(0, .ref 145), (1, .int v1), (2, .int v2)] [] (MM RR S) _
  refine mr_aload_n (pc' := 1) dX11_go_0 rfl rfl ?_
  refine mr_iload_n (pc' := 2) dX11_go_1 rfl rfl ?_
  obtain ⟨q1, g2, h3⟩ := Option.bind_eq_some_iff.mp h
  refine mr_cv (pc' := 5) (a := 145) (d1 := 0) dX11_go_2 rfl rfl rfl rfl rfl rfl (by decide) rfl (by decide) (ok_X11_isThing hR  g2) ?_
  show mr X _ _ 5 _ [.int q1] (MM RR S) _
  by_cases c4 : q1 = (0 : Int32)
  · rw [if_pos c4] at h3
    refine mr_if_eq_t (t := 39) dX11_go_5 (by decide) c4 ?_
    refine mr_iconst (pc' := 40) (v := (0 : Int32)) dX11_go_39 rfl (by decide) ?_
    obtain rfl := Option.some.inj h3
    exact mr_zreturn dX11_go_40 rfl (by decide)
  · rw [if_neg c4] at h3
    refine mr_if_eq_f (t := 39) (pc' := 8) dX11_go_5 (by decide) rfl c4 ?_
    refine mr_aload_n (pc' := 9) dX11_go_8 rfl rfl ?_
    refine mr_iload_n (pc' := 10) dX11_go_9 rfl rfl ?_
    obtain ⟨q5, g6, h7⟩ := Option.bind_eq_some_iff.mp h3
    refine mr_cv (pc' := 13) (a := 145) (d1 := 0) dX11_go_10 rfl rfl rfl rfl rfl rfl (by decide) rfl (by decide) (ok_X11_isStair hR  g6) ?_
    show mr X _ _ 13 _ [.int q5] (MM RR S) _
    by_cases c8 : q5 = (0 : Int32)
    · rw [if_pos c8] at h7
      refine mr_if_eq_t (t := 39) dX11_go_13 (by decide) c8 ?_
      refine mr_iconst (pc' := 40) (v := (0 : Int32)) dX11_go_39 rfl (by decide) ?_
      obtain rfl := Option.some.inj h7
      exact mr_zreturn dX11_go_40 rfl (by decide)
    · rw [if_neg c8] at h7
      refine mr_if_eq_f (t := 39) (pc' := 16) dX11_go_13 (by decide) rfl c8 ?_
      refine mr_aload_n (pc' := 17) dX11_go_16 rfl rfl ?_
      refine mr_iload_n (pc' := 18) dX11_go_17 rfl rfl ?_
      refine mr_iconst (pc' := 19) (v := (0 : Int32)) dX11_go_18 rfl (by decide) ?_
      obtain ⟨q9, g10, h11⟩ := Option.bind_eq_some_iff.mp h7
      refine mr_cv (pc' := 22) (a := 145) (d1 := 0) dX11_go_19 rfl rfl rfl rfl rfl rfl (by decide) rfl (by decide) (ok_X11_thingOf hR  g10) ?_
      show mr X _ _ 22 _ [.int q9] (MM RR S) _
      by_cases c12 : q9 < (0 : Int32)
      · rw [if_pos c12] at h11
        refine mr_if_lt_t (t := 39) dX11_go_22 (by decide) c12 ?_
        refine mr_iconst (pc' := 40) (v := (0 : Int32)) dX11_go_39 rfl (by decide) ?_
        obtain rfl := Option.some.inj h11
        exact mr_zreturn dX11_go_40 rfl (by decide)
      · rw [if_neg c12] at h11
        refine mr_if_lt_f (t := 39) (pc' := 25) dX11_go_22 (by decide) rfl c12 ?_
        refine mr_aload_n (pc' := 26) dX11_go_25 rfl rfl ?_
        refine mr_iload_n (pc' := 27) dX11_go_26 rfl rfl ?_
        refine mr_aload_n (pc' := 28) dX11_go_27 rfl rfl ?_
        refine mr_iload_n (pc' := 29) dX11_go_28 rfl rfl ?_
        refine mr_iconst (pc' := 30) (v := (0 : Int32)) dX11_go_29 rfl (by decide) ?_
        obtain ⟨q13, g14, h15⟩ := Option.bind_eq_some_iff.mp h11
        refine mr_cv (pc' := 33) (a := 145) (d1 := 0) dX11_go_30 rfl rfl rfl rfl rfl rfl (by decide) rfl (by decide) (ok_X11_thingOf hR  g14) ?_
        show mr X _ _ 33 _ [.int q13, .int v2, .ref 145] (MM RR S) _
        obtain ⟨q16, g17, h18⟩ := Option.bind_eq_some_iff.mp h15
        refine mr_cv (pc' := 36) (a := 145) (d1 := 1) dX11_go_33 rfl rfl rfl rfl rfl rfl (by decide) rfl (by decide) (ok_X11_otherEnd hR  g17) ?_
        show mr X _ _ 36 _ [.int q16] (MM RR S) _
        by_cases c19 : (0 : Int32) ≤ q16
        · rw [if_pos c19] at h18
          refine mr_if_ge_t (t := 41) dX11_go_36 (by decide) c19 ?_
          refine mr_aload_n (pc' := 42) dX11_go_41 rfl rfl ?_
          refine mr_iload_n (pc' := 43) dX11_go_42 rfl rfl ?_
          refine mr_iload_n (pc' := 44) dX11_go_43 rfl rfl ?_
          obtain ⟨q20, g21, h22⟩ := Option.bind_eq_some_iff.mp h18
          refine mr_cv (pc' := 47) (a := 145) (d1 := 2) dX11_go_44 rfl rfl rfl rfl rfl rfl (by decide) rfl (by decide) (ok_X11_setsOff hR  g21) ?_
          show mr X _ _ 47 _ [] (MM RR q20) _
          refine mr_iconst (pc' := 48) (v := (1 : Int32)) dX11_go_47 rfl (by decide) ?_
          obtain rfl := Option.some.inj h22
          exact mr_zreturn dX11_go_48 rfl (by decide)
        · rw [if_neg c19] at h18
          refine mr_if_ge_f (t := 41) (pc' := 39) dX11_go_36 (by decide) rfl c19 ?_
          refine mr_iconst (pc' := 40) (v := (0 : Int32)) dX11_go_39 rfl (by decide) ?_
          obtain rfl := Option.some.inj h18
          exact mr_zreturn dX11_go_40 rfl (by decide)
def f_X11_isRule (v1 : Int32) (S : fS) : Option (Int32) :=
  if v1 < (0 : Int32) then (some (0 : Int32)) else
  (if (S.1 145 2) ≤ v1 then (some (0 : Int32)) else
  (some (1 : Int32)))
set_option maxHeartbeats 4000000 in
set_option maxRecDepth 100000 in
theorem ok_X11_isRule {X : mm_C} {RR : Nat → Nat → Option Nat} (hR : RRok RR) {v1 : Int32}  {S : fS} {r : Int32} (h : f_X11_isRule v1 S = some r) : mr X 0 mY_X11_isRule 0 (lv_args 0 [.ref 145, .int v1]) [] (MM RR S) (some (.int r), MM RR S) := by
  unfold f_X11_isRule at h
  show mr X _ _ 0 [(0, .ref 145), (1, .int v1)] [] (MM RR S) _
  refine mr_iload_n (pc' := 1) dX11_isRule_0 rfl rfl ?_
  by_cases c1 : v1 < (0 : Int32)
  · rw [if_pos c1] at h
    refine mr_if_lt_t (t := 16) dX11_isRule_1 (by decide) c1 ?_
    refine mr_iconst (pc' := 17) (v := (0 : Int32)) dX11_isRule_16 rfl (by decide) ?_
    obtain rfl := Option.some.inj h
    exact mr_zreturn dX11_isRule_17 rfl (by decide)
  · rw [if_neg c1] at h
    refine mr_if_lt_f (t := 16) (pc' := 4) dX11_isRule_1 (by decide) rfl c1 ?_
    refine mr_iload_n (pc' := 5) dX11_isRule_4 rfl rfl ?_
    refine mr_aload_n (pc' := 6) dX11_isRule_5 rfl rfl ?_
    refine mr_getI (pc' := 9) (ci := 11) (j := 2) dX11_isRule_6 rfl rfl rfl (by decide) (by decide) rfl ?_
    by_cases c2 : (S.1 145 2) ≤ v1
    · rw [if_pos c2] at h
      refine mr_icmp_ge_t (t := 16) dX11_isRule_9 (by decide) c2 ?_
      refine mr_iconst (pc' := 17) (v := (0 : Int32)) dX11_isRule_16 rfl (by decide) ?_
      obtain rfl := Option.some.inj h
      exact mr_zreturn dX11_isRule_17 rfl (by decide)
    · rw [if_neg c2] at h
      refine mr_icmp_ge_f (t := 16) (pc' := 12) dX11_isRule_9 (by decide) rfl c2 ?_
      refine mr_iconst (pc' := 13) (v := (1 : Int32)) dX11_isRule_12 rfl (by decide) ?_
      refine mr_goto (t := 17) dX11_isRule_13 (by decide) ?_
      obtain rfl := Option.some.inj h
      exact mr_zreturn dX11_isRule_17 rfl (by decide)
def lp_X11_words_118 (p1 : Int32) (K : fS → Option (fS)) : Nat → Int32 → fS → Option (fS)
  | 0, _, _ => none
  | n + 1, p3, S0 =>
    (gI S0 157 158 (2 : Int32)).bind fun a49 =>
    if a49 ≤ p3 then (K S0) else
    ((gL S0 158 8 p3).bind fun a53 =>
    (gL S0 158 8 p1).bind fun a56 =>
    if a53 ≤ a56 then ((gL S0 158 8 p3).bind fun a60 =>
    (gL S0 158 8 p1).bind fun a63 =>
    if a63 ≤ a60 then (lp_X11_words_118 p1 K n (p3 + (1 : Int32)) S0) else
    ((sL S0 156 8 (7 : Int32) (0 : Int64)).bind fun S67 =>
    lp_X11_words_118 p1 K n (p3 + (1 : Int32)) S67)) else
    ((sL S0 156 8 (6 : Int32) (0 : Int64)).bind fun S70 =>
    (gL S70 158 8 p3).bind fun a73 =>
    (gL S70 158 8 p1).bind fun a76 =>
    if a76 ≤ a73 then (lp_X11_words_118 p1 K n (p3 + (1 : Int32)) S70) else
    ((sL S70 156 8 (7 : Int32) (0 : Int64)).bind fun S80 =>
    lp_X11_words_118 p1 K n (p3 + (1 : Int32)) S80)))
set_option maxHeartbeats 4000000 in
set_option maxRecDepth 100000 in
theorem ok_lp_X11_words_118 {X : mm_C} {RR : Nat → Nat → Option Nat} (hR : RRok RR) {p1 : Int32}  {K : fS → Option (fS)} {r : fS} (hK : ∀ (Sk : fS), K Sk = some r → mr X 2 mY_X11_words 182 [] [] (MM RR Sk) (none, MM RR r)) : ∀ (n : Nat) (p3 : Int32) (S0 : fS), lp_X11_words_118 p1 K n p3 S0 = some r → mr X 2 mY_X11_words 118 [(0, .ref 145), (1, .int p1), (3, .int p3)] [] (MM RR S0) (none, MM RR r) := by
  intro n
  induction n with
  | zero => intro p3 S0 h; exact mm_no h
  | succ n ih =>
    intro p3 S0 h
    unfold lp_X11_words_118 at h
    refine mr_iload_n (pc' := 119) dX11_words_118 rfl rfl ?_
    refine mr_aload_n (pc' := 120) dX11_words_119 rfl rfl ?_
    refine mr_getR (pc' := 123) (ci := 11) (j := 25) (b := 157) hR dX11_words_120 rfl rfl rfl (by decide) (by decide) (by decide) rfl rfl ?_
    refine mr_iconst (pc' := 124) (v := (2 : Int32)) dX11_words_123 rfl (by decide) ?_
    obtain ⟨a49, g50, h51⟩ := Option.bind_eq_some_iff.mp h
    refine mr_iald (pc' := 125) dX11_words_124 rfl rfl rfl g50 ?_
    by_cases c52 : a49 ≤ p3
    · rw [if_pos c52] at h51
      refine mr_icmp_ge_t (t := 182) dX11_words_125 (by decide) c52 ?_
      exact mr_sub [] trivial rfl (hK _  h51)
    · rw [if_neg c52] at h51
      refine mr_icmp_ge_f (t := 182) (pc' := 128) dX11_words_125 (by decide) rfl c52 ?_
      refine mr_aload_n (pc' := 129) dX11_words_128 rfl rfl ?_
      refine mr_getR (pc' := 132) (ci := 11) (j := 26) (b := 158) hR dX11_words_129 rfl rfl rfl (by decide) (by decide) (by decide) rfl rfl ?_
      refine mr_iload_n (pc' := 133) dX11_words_132 rfl rfl ?_
      obtain ⟨a53, g54, h55⟩ := Option.bind_eq_some_iff.mp h51
      refine mr_lald (pc' := 134) dX11_words_133 rfl rfl rfl g54 ?_
      refine mr_aload_n (pc' := 135) dX11_words_134 rfl rfl ?_
      refine mr_getR (pc' := 138) (ci := 11) (j := 26) (b := 158) hR dX11_words_135 rfl rfl rfl (by decide) (by decide) (by decide) rfl rfl ?_
      refine mr_iload_n (pc' := 139) dX11_words_138 rfl rfl ?_
      obtain ⟨a56, g57, h58⟩ := Option.bind_eq_some_iff.mp h55
      refine mr_lald (pc' := 140) dX11_words_139 rfl rfl rfl g57 ?_
      by_cases c59 : a53 ≤ a56
      · rw [if_pos c59] at h58
        refine mr_lcmp_le_t (t := 152) dX11_words_140 rfl dX11_words_141 (by decide) c59 ?_
        refine mr_aload_n (pc' := 153) dX11_words_152 rfl rfl ?_
        refine mr_getR (pc' := 156) (ci := 11) (j := 26) (b := 158) hR dX11_words_153 rfl rfl rfl (by decide) (by decide) (by decide) rfl rfl ?_
        refine mr_iload_n (pc' := 157) dX11_words_156 rfl rfl ?_
        obtain ⟨a60, g61, h62⟩ := Option.bind_eq_some_iff.mp h58
        refine mr_lald (pc' := 158) dX11_words_157 rfl rfl rfl g61 ?_
        refine mr_aload_n (pc' := 159) dX11_words_158 rfl rfl ?_
        refine mr_getR (pc' := 162) (ci := 11) (j := 26) (b := 158) hR dX11_words_159 rfl rfl rfl (by decide) (by decide) (by decide) rfl rfl ?_
        refine mr_iload_n (pc' := 163) dX11_words_162 rfl rfl ?_
        obtain ⟨a63, g64, h65⟩ := Option.bind_eq_some_iff.mp h62
        refine mr_lald (pc' := 164) dX11_words_163 rfl rfl rfl g64 ?_
        by_cases c66 : a63 ≤ a60
        · rw [if_pos c66] at h65
          refine mr_lcmp_ge_t (t := 176) dX11_words_164 rfl dX11_words_165 (by decide) c66 ?_
          refine mr_iinc (pc' := 179) (x' := (p3 + (1 : Int32))) (lv' := [(3, .int (p3 + (1 : Int32))), (0, .ref 145), (1, .int p1)]) dX11_words_176 rfl (by decide) rfl rfl rfl ?_
          refine mr_goto (t := 118) dX11_words_179 (by decide) ?_
          exact mr_sub [(0, .ref 145), (1, .int p1), (3, .int (p3 + (1 : Int32)))] ⟨rfl, rfl, rfl, trivial⟩ rfl (ih _ _  h65)
        · rw [if_neg c66] at h65
          refine mr_lcmp_ge_f (t := 176) (pc' := 168) dX11_words_164 rfl dX11_words_165 (by decide) rfl c66 ?_
          refine mr_aload_n (pc' := 169) dX11_words_168 rfl rfl ?_
          refine mr_getR (pc' := 172) (ci := 11) (j := 24) (b := 156) hR dX11_words_169 rfl rfl rfl (by decide) (by decide) (by decide) rfl rfl ?_
          refine mr_bipush (pc' := 174) (v := (7 : Int32)) dX11_words_172 rfl (by decide) ?_
          refine mr_lconst (pc' := 175) (v := (0 : Int64)) dX11_words_174 rfl (by decide) ?_
          obtain ⟨S67, g68, h69⟩ := Option.bind_eq_some_iff.mp h65
          refine mr_last (pc' := 176) dX11_words_175 rfl rfl rfl g68 ?_
          refine mr_iinc (pc' := 179) (x' := (p3 + (1 : Int32))) (lv' := [(3, .int (p3 + (1 : Int32))), (0, .ref 145), (1, .int p1)]) dX11_words_176 rfl (by decide) rfl rfl rfl ?_
          refine mr_goto (t := 118) dX11_words_179 (by decide) ?_
          exact mr_sub [(0, .ref 145), (1, .int p1), (3, .int (p3 + (1 : Int32)))] ⟨rfl, rfl, rfl, trivial⟩ rfl (ih _ _  h69)
      · rw [if_neg c59] at h58
        refine mr_lcmp_le_f (t := 152) (pc' := 144) dX11_words_140 rfl dX11_words_141 (by decide) rfl c59 ?_
        refine mr_aload_n (pc' := 145) dX11_words_144 rfl rfl ?_
        refine mr_getR (pc' := 148) (ci := 11) (j := 24) (b := 156) hR dX11_words_145 rfl rfl rfl (by decide) (by decide) (by decide) rfl rfl ?_
        refine mr_bipush (pc' := 150) (v := (6 : Int32)) dX11_words_148 rfl (by decide) ?_
        refine mr_lconst (pc' := 151) (v := (0 : Int64)) dX11_words_150 rfl (by decide) ?_
        obtain ⟨S70, g71, h72⟩ := Option.bind_eq_some_iff.mp h58
        refine mr_last (pc' := 152) dX11_words_151 rfl rfl rfl g71 ?_
        refine mr_aload_n (pc' := 153) dX11_words_152 rfl rfl ?_
        refine mr_getR (pc' := 156) (ci := 11) (j := 26) (b := 158) hR dX11_words_153 rfl rfl rfl (by decide) (by decide) (by decide) rfl rfl ?_
        refine mr_iload_n (pc' := 157) dX11_words_156 rfl rfl ?_
        obtain ⟨a73, g74, h75⟩ := Option.bind_eq_some_iff.mp h72
        refine mr_lald (pc' := 158) dX11_words_157 rfl rfl rfl g74 ?_
        refine mr_aload_n (pc' := 159) dX11_words_158 rfl rfl ?_
        refine mr_getR (pc' := 162) (ci := 11) (j := 26) (b := 158) hR dX11_words_159 rfl rfl rfl (by decide) (by decide) (by decide) rfl rfl ?_
        refine mr_iload_n (pc' := 163) dX11_words_162 rfl rfl ?_
        obtain ⟨a76, g77, h78⟩ := Option.bind_eq_some_iff.mp h75
        refine mr_lald (pc' := 164) dX11_words_163 rfl rfl rfl g77 ?_
        by_cases c79 : a76 ≤ a73
        · rw [if_pos c79] at h78
          refine mr_lcmp_ge_t (t := 176) dX11_words_164 rfl dX11_words_165 (by decide) c79 ?_
          refine mr_iinc (pc' := 179) (x' := (p3 + (1 : Int32))) (lv' := [(3, .int (p3 + (1 : Int32))), (0, .ref 145), (1, .int p1)]) dX11_words_176 rfl (by decide) rfl rfl rfl ?_
          refine mr_goto (t := 118) dX11_words_179 (by decide) ?_
          exact mr_sub [(0, .ref 145), (1, .int p1), (3, .int (p3 + (1 : Int32)))] ⟨rfl, rfl, rfl, trivial⟩ rfl (ih _ _  h78)
        · rw [if_neg c79] at h78
          refine mr_lcmp_ge_f (t := 176) (pc' := 168) dX11_words_164 rfl dX11_words_165 (by decide) rfl c79 ?_
          refine mr_aload_n (pc' := 169) dX11_words_168 rfl rfl ?_
          refine mr_getR (pc' := 172) (ci := 11) (j := 24) (b := 156) hR dX11_words_169 rfl rfl rfl (by decide) (by decide) (by decide) rfl rfl ?_
          refine mr_bipush (pc' := 174) (v := (7 : Int32)) dX11_words_172 rfl (by decide) ?_
          refine mr_lconst (pc' := 175) (v := (0 : Int64)) dX11_words_174 rfl (by decide) ?_
          obtain ⟨S80, g81, h82⟩ := Option.bind_eq_some_iff.mp h78
          refine mr_last (pc' := 176) dX11_words_175 rfl rfl rfl g81 ?_
          refine mr_iinc (pc' := 179) (x' := (p3 + (1 : Int32))) (lv' := [(3, .int (p3 + (1 : Int32))), (0, .ref 145), (1, .int p1)]) dX11_words_176 rfl (by decide) rfl rfl rfl ?_
          refine mr_goto (t := 118) dX11_words_179 (by decide) ?_
          exact mr_sub [(0, .ref 145), (1, .int p1), (3, .int (p3 + (1 : Int32)))] ⟨rfl, rfl, rfl, trivial⟩ rfl (ih _ _  h82)
def f_X11_words (v1 : Int32) (S : fS) : Option (fS) :=
  (f_X11_thingOf v1 (0 : Int32) S).bind fun q1 =>
  (gI S 157 158 (3 : Int32)).bind fun a4 =>
  (sL S 156 8 (0 : Int32) (Int32.toInt64 a4)).bind fun S7 =>
  (sL S7 156 8 (1 : Int32) (Int32.toInt64 v1)).bind fun S10 =>
  (sL S10 156 8 (2 : Int32) (Int32.toInt64 q1)).bind fun S13 =>
  (gL S13 158 8 v1).bind fun a16 =>
  (dL a16 (232792560 : Int64)).bind fun a19 =>
  (sL S13 156 8 (3 : Int32) a19).bind fun S22 =>
  (f_X11_standing q1 S22).bind fun q25 =>
  (sL S22 156 8 (4 : Int32) (Int32.toInt64 q25)).bind fun S28 =>
  (gI S28 157 158 ((10 : Int32) + ((2 : Int32) * q1))).bind fun a31 =>
  (gI S28 157 158 (((10 : Int32) + ((2 : Int32) * q1)) + (1 : Int32))).bind fun a34 =>
  (dI ((1000 : Int32) * a31) a34).bind fun a37 =>
  (sL S28 156 8 (5 : Int32) (Int32.toInt64 a37)).bind fun S40 =>
  (sL S40 156 8 (6 : Int32) (1 : Int64)).bind fun S43 =>
  (sL S43 156 8 (7 : Int32) (1 : Int64)).bind fun S46 =>
  lp_X11_words_118 v1 (fun S83 => some S83) FU (0 : Int32) S46
set_option maxHeartbeats 4000000 in
set_option maxRecDepth 100000 in
theorem ok_X11_words {X : mm_C} {RR : Nat → Nat → Option Nat} (hR : RRok RR) {v1 : Int32}  {S : fS} {r : fS} (h : f_X11_words v1 S = some r) : mr X 2 mY_X11_words 0 (lv_args 0 [.ref 145, .int v1]) [] (MM RR S) (none, MM RR r) := by
  unfold f_X11_words at h
  show mr X _ _ 0 [(0, .ref 145), (1, .int v1)] [] (MM RR S) _
  refine mr_aload_n (pc' := 1) dX11_words_0 rfl rfl ?_
  refine mr_iload_n (pc' := 2) dX11_words_1 rfl rfl ?_
  refine mr_iconst (pc' := 3) (v := (0 : Int32)) dX11_words_2 rfl (by decide) ?_
  obtain ⟨q1, g2, h3⟩ := Option.bind_eq_some_iff.mp h
  refine mr_cv (pc' := 6) (a := 145) (d1 := 0) dX11_words_3 rfl rfl rfl rfl rfl rfl (by decide) rfl (by decide) (ok_X11_thingOf hR  g2) ?_
  show mr X _ _ 6 _ [.int q1] (MM RR S) _
  refine mr_istore_n (pc' := 7) (lv' := [(2, .int q1), (0, .ref 145), (1, .int v1)]) dX11_words_6 rfl (by decide) rfl ?_
  refine mr_aload_n (pc' := 8) dX11_words_7 rfl rfl ?_
  refine mr_getR (pc' := 11) (ci := 11) (j := 24) (b := 156) hR dX11_words_8 rfl rfl rfl (by decide) (by decide) (by decide) rfl rfl ?_
  refine mr_iconst (pc' := 12) (v := (0 : Int32)) dX11_words_11 rfl (by decide) ?_
  refine mr_aload_n (pc' := 13) dX11_words_12 rfl rfl ?_
  refine mr_getR (pc' := 16) (ci := 11) (j := 25) (b := 157) hR dX11_words_13 rfl rfl rfl (by decide) (by decide) (by decide) rfl rfl ?_
  refine mr_iconst (pc' := 17) (v := (3 : Int32)) dX11_words_16 rfl (by decide) ?_
  obtain ⟨a4, g5, h6⟩ := Option.bind_eq_some_iff.mp h3
  refine mr_iald (pc' := 18) dX11_words_17 rfl rfl rfl g5 ?_
  refine mr_i2l (pc' := 19) dX11_words_18 rfl ?_
  obtain ⟨S7, g8, h9⟩ := Option.bind_eq_some_iff.mp h6
  refine mr_last (pc' := 20) dX11_words_19 rfl rfl rfl g8 ?_
  refine mr_aload_n (pc' := 21) dX11_words_20 rfl rfl ?_
  refine mr_getR (pc' := 24) (ci := 11) (j := 24) (b := 156) hR dX11_words_21 rfl rfl rfl (by decide) (by decide) (by decide) rfl rfl ?_
  refine mr_iconst (pc' := 25) (v := (1 : Int32)) dX11_words_24 rfl (by decide) ?_
  refine mr_iload_n (pc' := 26) dX11_words_25 rfl rfl ?_
  refine mr_i2l (pc' := 27) dX11_words_26 rfl ?_
  obtain ⟨S10, g11, h12⟩ := Option.bind_eq_some_iff.mp h9
  refine mr_last (pc' := 28) dX11_words_27 rfl rfl rfl g11 ?_
  refine mr_aload_n (pc' := 29) dX11_words_28 rfl rfl ?_
  refine mr_getR (pc' := 32) (ci := 11) (j := 24) (b := 156) hR dX11_words_29 rfl rfl rfl (by decide) (by decide) (by decide) rfl rfl ?_
  refine mr_iconst (pc' := 33) (v := (2 : Int32)) dX11_words_32 rfl (by decide) ?_
  refine mr_iload_n (pc' := 34) dX11_words_33 rfl rfl ?_
  refine mr_i2l (pc' := 35) dX11_words_34 rfl ?_
  obtain ⟨S13, g14, h15⟩ := Option.bind_eq_some_iff.mp h12
  refine mr_last (pc' := 36) dX11_words_35 rfl rfl rfl g14 ?_
  refine mr_aload_n (pc' := 37) dX11_words_36 rfl rfl ?_
  refine mr_getR (pc' := 40) (ci := 11) (j := 24) (b := 156) hR dX11_words_37 rfl rfl rfl (by decide) (by decide) (by decide) rfl rfl ?_
  refine mr_iconst (pc' := 41) (v := (3 : Int32)) dX11_words_40 rfl (by decide) ?_
  refine mr_aload_n (pc' := 42) dX11_words_41 rfl rfl ?_
  refine mr_getR (pc' := 45) (ci := 11) (j := 26) (b := 158) hR dX11_words_42 rfl rfl rfl (by decide) (by decide) (by decide) rfl rfl ?_
  refine mr_iload_n (pc' := 46) dX11_words_45 rfl rfl ?_
  obtain ⟨a16, g17, h18⟩ := Option.bind_eq_some_iff.mp h15
  refine mr_lald (pc' := 47) dX11_words_46 rfl rfl rfl g17 ?_
  refine mr_ldc2 (pc' := 50) (v := (232792560 : Int64)) dX11_words_47 rfl rfl ?_
  obtain ⟨a19, g20, h21⟩ := Option.bind_eq_some_iff.mp h18
  refine mr_ldiv (pc' := 51) dX11_words_50 rfl g20 ?_
  obtain ⟨S22, g23, h24⟩ := Option.bind_eq_some_iff.mp h21
  refine mr_last (pc' := 52) dX11_words_51 rfl rfl rfl g23 ?_
  refine mr_aload_n (pc' := 53) dX11_words_52 rfl rfl ?_
  refine mr_getR (pc' := 56) (ci := 11) (j := 24) (b := 156) hR dX11_words_53 rfl rfl rfl (by decide) (by decide) (by decide) rfl rfl ?_
  refine mr_iconst (pc' := 57) (v := (4 : Int32)) dX11_words_56 rfl (by decide) ?_
  refine mr_aload_n (pc' := 58) dX11_words_57 rfl rfl ?_
  refine mr_iload_n (pc' := 59) dX11_words_58 rfl rfl ?_
  obtain ⟨q25, g26, h27⟩ := Option.bind_eq_some_iff.mp h24
  refine mr_cv (pc' := 62) (a := 145) (d1 := 1) dX11_words_59 rfl rfl rfl rfl rfl rfl (by decide) rfl (by decide) (ok_X11_standing hR  g26) ?_
  show mr X _ _ 62 _ [.int q25, .int (4 : Int32), .ref 156] (MM RR S22) _
  refine mr_i2l (pc' := 63) dX11_words_62 rfl ?_
  obtain ⟨S28, g29, h30⟩ := Option.bind_eq_some_iff.mp h27
  refine mr_last (pc' := 64) dX11_words_63 rfl rfl rfl g29 ?_
  refine mr_aload_n (pc' := 65) dX11_words_64 rfl rfl ?_
  refine mr_getR (pc' := 68) (ci := 11) (j := 24) (b := 156) hR dX11_words_65 rfl rfl rfl (by decide) (by decide) (by decide) rfl rfl ?_
  refine mr_iconst (pc' := 69) (v := (5 : Int32)) dX11_words_68 rfl (by decide) ?_
  refine mr_sipush (pc' := 72) (v := (1000 : Int32)) dX11_words_69 rfl (by decide) ?_
  refine mr_aload_n (pc' := 73) dX11_words_72 rfl rfl ?_
  refine mr_getR (pc' := 76) (ci := 11) (j := 25) (b := 157) hR dX11_words_73 rfl rfl rfl (by decide) (by decide) (by decide) rfl rfl ?_
  refine mr_bipush (pc' := 78) (v := (10 : Int32)) dX11_words_76 rfl (by decide) ?_
  refine mr_iconst (pc' := 79) (v := (2 : Int32)) dX11_words_78 rfl (by decide) ?_
  refine mr_iload_n (pc' := 80) dX11_words_79 rfl rfl ?_
  refine mr_imul (pc' := 81) dX11_words_80 rfl ?_
  refine mr_iadd (pc' := 82) dX11_words_81 rfl ?_
  obtain ⟨a31, g32, h33⟩ := Option.bind_eq_some_iff.mp h30
  refine mr_iald (pc' := 83) dX11_words_82 rfl rfl rfl g32 ?_
  refine mr_imul (pc' := 84) dX11_words_83 rfl ?_
  refine mr_aload_n (pc' := 85) dX11_words_84 rfl rfl ?_
  refine mr_getR (pc' := 88) (ci := 11) (j := 25) (b := 157) hR dX11_words_85 rfl rfl rfl (by decide) (by decide) (by decide) rfl rfl ?_
  refine mr_bipush (pc' := 90) (v := (10 : Int32)) dX11_words_88 rfl (by decide) ?_
  refine mr_iconst (pc' := 91) (v := (2 : Int32)) dX11_words_90 rfl (by decide) ?_
  refine mr_iload_n (pc' := 92) dX11_words_91 rfl rfl ?_
  refine mr_imul (pc' := 93) dX11_words_92 rfl ?_
  refine mr_iadd (pc' := 94) dX11_words_93 rfl ?_
  refine mr_iconst (pc' := 95) (v := (1 : Int32)) dX11_words_94 rfl (by decide) ?_
  refine mr_iadd (pc' := 96) dX11_words_95 rfl ?_
  obtain ⟨a34, g35, h36⟩ := Option.bind_eq_some_iff.mp h33
  refine mr_iald (pc' := 97) dX11_words_96 rfl rfl rfl g35 ?_
  obtain ⟨a37, g38, h39⟩ := Option.bind_eq_some_iff.mp h36
  refine mr_idiv (pc' := 98) dX11_words_97 rfl g38 ?_
  refine mr_i2l (pc' := 99) dX11_words_98 rfl ?_
  obtain ⟨S40, g41, h42⟩ := Option.bind_eq_some_iff.mp h39
  refine mr_last (pc' := 100) dX11_words_99 rfl rfl rfl g41 ?_
  refine mr_aload_n (pc' := 101) dX11_words_100 rfl rfl ?_
  refine mr_getR (pc' := 104) (ci := 11) (j := 24) (b := 156) hR dX11_words_101 rfl rfl rfl (by decide) (by decide) (by decide) rfl rfl ?_
  refine mr_bipush (pc' := 106) (v := (6 : Int32)) dX11_words_104 rfl (by decide) ?_
  refine mr_lconst (pc' := 107) (v := (1 : Int64)) dX11_words_106 rfl (by decide) ?_
  obtain ⟨S43, g44, h45⟩ := Option.bind_eq_some_iff.mp h42
  refine mr_last (pc' := 108) dX11_words_107 rfl rfl rfl g44 ?_
  refine mr_aload_n (pc' := 109) dX11_words_108 rfl rfl ?_
  refine mr_getR (pc' := 112) (ci := 11) (j := 24) (b := 156) hR dX11_words_109 rfl rfl rfl (by decide) (by decide) (by decide) rfl rfl ?_
  refine mr_bipush (pc' := 114) (v := (7 : Int32)) dX11_words_112 rfl (by decide) ?_
  refine mr_lconst (pc' := 115) (v := (1 : Int64)) dX11_words_114 rfl (by decide) ?_
  obtain ⟨S46, g47, h48⟩ := Option.bind_eq_some_iff.mp h45
  refine mr_last (pc' := 116) dX11_words_115 rfl rfl rfl g47 ?_
  refine mr_iconst (pc' := 117) (v := (0 : Int32)) dX11_words_116 rfl (by decide) ?_
  refine mr_istore_n (pc' := 118) (lv' := [(3, .int (0 : Int32)), (2, .int q1), (0, .ref 145), (1, .int v1)]) dX11_words_117 rfl (by decide) rfl ?_
  refine mr_sub [(0, .ref 145), (1, .int v1), (3, .int (0 : Int32))] ⟨rfl, rfl, rfl, trivial⟩ rfl ?_
  refine ok_lp_X11_words_118 hR  (fun S83 h84 => ?_) FU _ _  h48
  obtain rfl := Option.some.inj h84
  exact mr_return dX11_words_182 rfl
def f_X11_push (v1 : Int64) (S : fS) : Option (fS) :=
  (sL S 155 64 (S.1 145 23) v1).bind fun S1 =>
  (some (pI S1 145 23 ((S1.1 145 23) + (1 : Int32)))).bind fun S4 =>
  some S4
set_option maxHeartbeats 4000000 in
set_option maxRecDepth 100000 in
theorem ok_X11_push {X : mm_C} {RR : Nat → Nat → Option Nat} (hR : RRok RR) {v1 : Int64}  {S : fS} {r : fS} (h : f_X11_push v1 S = some r) : mr X 0 mY_X11_push 0 (lv_args 0 [.ref 145, .long v1]) [] (MM RR S) (none, MM RR r) := by
  unfold f_X11_push at h
  show mr X _ _ 0 [(0, .ref 145), (1, .long v1)] [] (MM RR S) _
  refine mr_aload_n (pc' := 1) dX11_push_0 rfl rfl ?_
  refine mr_getR (pc' := 4) (ci := 11) (j := 22) (b := 155) hR dX11_push_1 rfl rfl rfl (by decide) (by decide) (by decide) rfl rfl ?_
  refine mr_aload_n (pc' := 5) dX11_push_4 rfl rfl ?_
  refine mr_getI (pc' := 8) (ci := 11) (j := 23) dX11_push_5 rfl rfl rfl (by decide) (by decide) rfl ?_
  refine mr_lload_n (pc' := 9) dX11_push_8 rfl rfl ?_
  obtain ⟨S1, g2, h3⟩ := Option.bind_eq_some_iff.mp h
  refine mr_last (pc' := 10) dX11_push_9 rfl rfl rfl g2 ?_
  refine mr_aload_n (pc' := 11) dX11_push_10 rfl rfl ?_
  refine mr_dup_ref (pc' := 12) dX11_push_11 rfl ?_
  refine mr_getI (pc' := 15) (ci := 11) (j := 23) dX11_push_12 rfl rfl rfl (by decide) (by decide) rfl ?_
  refine mr_iconst (pc' := 16) (v := (1 : Int32)) dX11_push_15 rfl (by decide) ?_
  refine mr_iadd (pc' := 17) dX11_push_16 rfl ?_
  obtain ⟨S4, g5, h6⟩ := Option.bind_eq_some_iff.mp h3
  refine mr_putI (pc' := 20) (ci := 11) (j := 23) dX11_push_17 rfl rfl rfl (by decide) (by decide) rfl rfl ?_
  rw [Option.some.inj g5]
  obtain rfl := Option.some.inj h6
  exact mr_return dX11_push_20 rfl
def f_X11_pop  (S : fS) : Option (Int64 × fS) :=
  (some (pI S 145 23 ((S.1 145 23) - (1 : Int32)))).bind fun S1 =>
  (gL S1 155 64 (S1.1 145 23)).bind fun a4 =>
  some (a4, S1)
set_option maxHeartbeats 4000000 in
set_option maxRecDepth 100000 in
theorem ok_X11_pop {X : mm_C} {RR : Nat → Nat → Option Nat} (hR : RRok RR)   {S : fS} {r : Int64 × fS} (h : f_X11_pop  S = some r) : mr X 0 mY_X11_pop 0 (lv_args 0 [.ref 145]) [] (MM RR S) (some (.long r.1), MM RR r.2) := by
  unfold f_X11_pop at h
  show mr X _ _ 0 [(0, .ref 145)] [] (MM RR S) _
  refine mr_aload_n (pc' := 1) dX11_pop_0 rfl rfl ?_
  refine mr_dup_ref (pc' := 2) dX11_pop_1 rfl ?_
  refine mr_getI (pc' := 5) (ci := 11) (j := 23) dX11_pop_2 rfl rfl rfl (by decide) (by decide) rfl ?_
  refine mr_iconst (pc' := 6) (v := (1 : Int32)) dX11_pop_5 rfl (by decide) ?_
  refine mr_isub (pc' := 7) dX11_pop_6 rfl ?_
  obtain ⟨S1, g2, h3⟩ := Option.bind_eq_some_iff.mp h
  refine mr_putI (pc' := 10) (ci := 11) (j := 23) dX11_pop_7 rfl rfl rfl (by decide) (by decide) rfl rfl ?_
  rw [Option.some.inj g2]
  refine mr_aload_n (pc' := 11) dX11_pop_10 rfl rfl ?_
  refine mr_getR (pc' := 14) (ci := 11) (j := 22) (b := 155) hR dX11_pop_11 rfl rfl rfl (by decide) (by decide) (by decide) rfl rfl ?_
  refine mr_aload_n (pc' := 15) dX11_pop_14 rfl rfl ?_
  refine mr_getI (pc' := 18) (ci := 11) (j := 23) dX11_pop_15 rfl rfl rfl (by decide) (by decide) rfl ?_
  obtain ⟨a4, g5, h6⟩ := Option.bind_eq_some_iff.mp h3
  refine mr_lald (pc' := 19) dX11_pop_18 rfl rfl rfl g5 ?_
  obtain rfl := Option.some.inj h6
  exact mr_lreturn dX11_pop_19 rfl
def f_X11_one (v0 : Int32) (v1 : Int64) (v3 : Int64) (S : fS) : Option (Int64) :=
  if v0 = (2 : Int32) then (some (v1 + v3)) else
  if v0 = (3 : Int32) then (some (v1 - v3)) else
  if v0 = (4 : Int32) then (some (v1 * v3)) else
  if v0 = (5 : Int32) then (if v3 = (0 : Int64) then (some (0 : Int64)) else
  ((dL v1 v3).bind fun a6 =>
  some a6)) else
  if v0 = (6 : Int32) then (if v3 ≤ v1 then (some (0 : Int64)) else
  (some (1 : Int64))) else
  if v0 = (7 : Int32) then (if v3 < v1 then (some (0 : Int64)) else
  (some (1 : Int64))) else
  if v0 = (8 : Int32) then (if v1 = v3 then (some (1 : Int64)) else
  (some (0 : Int64))) else
  if v0 = (9 : Int32) then (if v1 < v3 then (some (0 : Int64)) else
  (some (1 : Int64))) else
  if v0 = (10 : Int32) then (if v1 ≤ v3 then (some (0 : Int64)) else
  (some (1 : Int64))) else
  if v0 = (11 : Int32) then (some (v1 ||| v3)) else
  if v0 = (12 : Int32) then (some (v1 &&& v3)) else
  (some (v1 ||| v3))
set_option maxHeartbeats 4000000 in
set_option maxRecDepth 100000 in
theorem ok_X11_one {X : mm_C} {RR : Nat → Nat → Option Nat} (hR : RRok RR) {v0 : Int32} {v1 : Int64} {v3 : Int64}  {S : fS} {r : Int64} (h : f_X11_one v0 v1 v3 S = some r) : mr X 0 mY_X11_one 0 (lv_args 0 [.int v0, .long v1, .long v3]) [] (MM RR S) (some (.long r), MM RR S) := by
  unfold f_X11_one at h
  show mr X _ _ 0 [(0, .int v0), (1, .long v1), (3, .long v3)] [] (MM RR S) _
  refine mr_iload_n (pc' := 1) dX11_one_0 rfl rfl ?_
  by_cases c1 : v0 = (2 : Int32)
  · rw [if_pos c1] at h
    refine mr_sw_in (t := 60) (v := (2 : Int32)) dX11_one_1 c1 rfl ?_
    refine mr_lload_n (pc' := 61) dX11_one_60 rfl rfl ?_
    refine mr_lload_n (pc' := 62) dX11_one_61 rfl rfl ?_
    refine mr_ladd (pc' := 63) dX11_one_62 rfl ?_
    obtain rfl := Option.some.inj h
    exact mr_lreturn dX11_one_63 rfl
  rw [if_neg c1] at h
  by_cases c2 : v0 = (3 : Int32)
  · rw [if_pos c2] at h
    refine mr_sw_in (t := 64) (v := (3 : Int32)) dX11_one_1 c2 rfl ?_
    refine mr_lload_n (pc' := 65) dX11_one_64 rfl rfl ?_
    refine mr_lload_n (pc' := 66) dX11_one_65 rfl rfl ?_
    refine mr_lsub (pc' := 67) dX11_one_66 rfl ?_
    obtain rfl := Option.some.inj h
    exact mr_lreturn dX11_one_67 rfl
  rw [if_neg c2] at h
  by_cases c3 : v0 = (4 : Int32)
  · rw [if_pos c3] at h
    refine mr_sw_in (t := 68) (v := (4 : Int32)) dX11_one_1 c3 rfl ?_
    refine mr_lload_n (pc' := 69) dX11_one_68 rfl rfl ?_
    refine mr_lload_n (pc' := 70) dX11_one_69 rfl rfl ?_
    refine mr_lmul (pc' := 71) dX11_one_70 rfl ?_
    obtain rfl := Option.some.inj h
    exact mr_lreturn dX11_one_71 rfl
  rw [if_neg c3] at h
  by_cases c4 : v0 = (5 : Int32)
  · rw [if_pos c4] at h
    refine mr_sw_in (t := 72) (v := (5 : Int32)) dX11_one_1 c4 rfl ?_
    refine mr_lload_n (pc' := 73) dX11_one_72 rfl rfl ?_
    refine mr_lconst (pc' := 74) (v := (0 : Int64)) dX11_one_73 rfl (by decide) ?_
    by_cases c5 : v3 = (0 : Int64)
    · rw [if_pos c5] at h
      refine mr_lcmp_ne_f (t := 82) (pc' := 78) dX11_one_74 rfl dX11_one_75 (by decide) rfl (not_not_intro c5) ?_
      refine mr_lconst (pc' := 79) (v := (0 : Int64)) dX11_one_78 rfl (by decide) ?_
      refine mr_goto (t := 85) dX11_one_79 (by decide) ?_
      obtain rfl := Option.some.inj h
      exact mr_lreturn dX11_one_85 rfl
    · rw [if_neg c5] at h
      refine mr_lcmp_ne_t (t := 82) dX11_one_74 rfl dX11_one_75 (by decide) c5 ?_
      refine mr_lload_n (pc' := 83) dX11_one_82 rfl rfl ?_
      refine mr_lload_n (pc' := 84) dX11_one_83 rfl rfl ?_
      obtain ⟨a6, g7, h8⟩ := Option.bind_eq_some_iff.mp h
      refine mr_ldiv (pc' := 85) dX11_one_84 rfl g7 ?_
      obtain rfl := Option.some.inj h8
      exact mr_lreturn dX11_one_85 rfl
  rw [if_neg c4] at h
  by_cases c9 : v0 = (6 : Int32)
  · rw [if_pos c9] at h
    refine mr_sw_in (t := 86) (v := (6 : Int32)) dX11_one_1 c9 rfl ?_
    refine mr_lload_n (pc' := 87) dX11_one_86 rfl rfl ?_
    refine mr_lload_n (pc' := 88) dX11_one_87 rfl rfl ?_
    by_cases c10 : v3 ≤ v1
    · rw [if_pos c10] at h
      refine mr_lcmp_ge_t (t := 96) dX11_one_88 rfl dX11_one_89 (by decide) c10 ?_
      refine mr_lconst (pc' := 97) (v := (0 : Int64)) dX11_one_96 rfl (by decide) ?_
      obtain rfl := Option.some.inj h
      exact mr_lreturn dX11_one_97 rfl
    · rw [if_neg c10] at h
      refine mr_lcmp_ge_f (t := 96) (pc' := 92) dX11_one_88 rfl dX11_one_89 (by decide) rfl c10 ?_
      refine mr_lconst (pc' := 93) (v := (1 : Int64)) dX11_one_92 rfl (by decide) ?_
      refine mr_goto (t := 97) dX11_one_93 (by decide) ?_
      obtain rfl := Option.some.inj h
      exact mr_lreturn dX11_one_97 rfl
  rw [if_neg c9] at h
  by_cases c11 : v0 = (7 : Int32)
  · rw [if_pos c11] at h
    refine mr_sw_in (t := 98) (v := (7 : Int32)) dX11_one_1 c11 rfl ?_
    refine mr_lload_n (pc' := 99) dX11_one_98 rfl rfl ?_
    refine mr_lload_n (pc' := 100) dX11_one_99 rfl rfl ?_
    by_cases c12 : v3 < v1
    · rw [if_pos c12] at h
      refine mr_lcmp_gt_t (t := 108) dX11_one_100 rfl dX11_one_101 (by decide) c12 ?_
      refine mr_lconst (pc' := 109) (v := (0 : Int64)) dX11_one_108 rfl (by decide) ?_
      obtain rfl := Option.some.inj h
      exact mr_lreturn dX11_one_109 rfl
    · rw [if_neg c12] at h
      refine mr_lcmp_gt_f (t := 108) (pc' := 104) dX11_one_100 rfl dX11_one_101 (by decide) rfl c12 ?_
      refine mr_lconst (pc' := 105) (v := (1 : Int64)) dX11_one_104 rfl (by decide) ?_
      refine mr_goto (t := 109) dX11_one_105 (by decide) ?_
      obtain rfl := Option.some.inj h
      exact mr_lreturn dX11_one_109 rfl
  rw [if_neg c11] at h
  by_cases c13 : v0 = (8 : Int32)
  · rw [if_pos c13] at h
    refine mr_sw_in (t := 110) (v := (8 : Int32)) dX11_one_1 c13 rfl ?_
    refine mr_lload_n (pc' := 111) dX11_one_110 rfl rfl ?_
    refine mr_lload_n (pc' := 112) dX11_one_111 rfl rfl ?_
    by_cases c14 : v1 = v3
    · rw [if_pos c14] at h
      refine mr_lcmp_ne_f (t := 120) (pc' := 116) dX11_one_112 rfl dX11_one_113 (by decide) rfl (not_not_intro c14) ?_
      refine mr_lconst (pc' := 117) (v := (1 : Int64)) dX11_one_116 rfl (by decide) ?_
      refine mr_goto (t := 121) dX11_one_117 (by decide) ?_
      obtain rfl := Option.some.inj h
      exact mr_lreturn dX11_one_121 rfl
    · rw [if_neg c14] at h
      refine mr_lcmp_ne_t (t := 120) dX11_one_112 rfl dX11_one_113 (by decide) c14 ?_
      refine mr_lconst (pc' := 121) (v := (0 : Int64)) dX11_one_120 rfl (by decide) ?_
      obtain rfl := Option.some.inj h
      exact mr_lreturn dX11_one_121 rfl
  rw [if_neg c13] at h
  by_cases c15 : v0 = (9 : Int32)
  · rw [if_pos c15] at h
    refine mr_sw_in (t := 122) (v := (9 : Int32)) dX11_one_1 c15 rfl ?_
    refine mr_lload_n (pc' := 123) dX11_one_122 rfl rfl ?_
    refine mr_lload_n (pc' := 124) dX11_one_123 rfl rfl ?_
    by_cases c16 : v1 < v3
    · rw [if_pos c16] at h
      refine mr_lcmp_lt_t (t := 132) dX11_one_124 rfl dX11_one_125 (by decide) c16 ?_
      refine mr_lconst (pc' := 133) (v := (0 : Int64)) dX11_one_132 rfl (by decide) ?_
      obtain rfl := Option.some.inj h
      exact mr_lreturn dX11_one_133 rfl
    · rw [if_neg c16] at h
      refine mr_lcmp_lt_f (t := 132) (pc' := 128) dX11_one_124 rfl dX11_one_125 (by decide) rfl c16 ?_
      refine mr_lconst (pc' := 129) (v := (1 : Int64)) dX11_one_128 rfl (by decide) ?_
      refine mr_goto (t := 133) dX11_one_129 (by decide) ?_
      obtain rfl := Option.some.inj h
      exact mr_lreturn dX11_one_133 rfl
  rw [if_neg c15] at h
  by_cases c17 : v0 = (10 : Int32)
  · rw [if_pos c17] at h
    refine mr_sw_in (t := 134) (v := (10 : Int32)) dX11_one_1 c17 rfl ?_
    refine mr_lload_n (pc' := 135) dX11_one_134 rfl rfl ?_
    refine mr_lload_n (pc' := 136) dX11_one_135 rfl rfl ?_
    by_cases c18 : v1 ≤ v3
    · rw [if_pos c18] at h
      refine mr_lcmp_le_t (t := 144) dX11_one_136 rfl dX11_one_137 (by decide) c18 ?_
      refine mr_lconst (pc' := 145) (v := (0 : Int64)) dX11_one_144 rfl (by decide) ?_
      obtain rfl := Option.some.inj h
      exact mr_lreturn dX11_one_145 rfl
    · rw [if_neg c18] at h
      refine mr_lcmp_le_f (t := 144) (pc' := 140) dX11_one_136 rfl dX11_one_137 (by decide) rfl c18 ?_
      refine mr_lconst (pc' := 141) (v := (1 : Int64)) dX11_one_140 rfl (by decide) ?_
      refine mr_goto (t := 145) dX11_one_141 (by decide) ?_
      obtain rfl := Option.some.inj h
      exact mr_lreturn dX11_one_145 rfl
  rw [if_neg c17] at h
  by_cases c19 : v0 = (11 : Int32)
  · rw [if_pos c19] at h
    refine mr_sw_in (t := 150) (v := (11 : Int32)) dX11_one_1 c19 rfl ?_
    refine mr_lload_n (pc' := 151) dX11_one_150 rfl rfl ?_
    refine mr_lload_n (pc' := 152) dX11_one_151 rfl rfl ?_
    refine mr_lor (pc' := 153) dX11_one_152 rfl ?_
    obtain rfl := Option.some.inj h
    exact mr_lreturn dX11_one_153 rfl
  rw [if_neg c19] at h
  by_cases c20 : v0 = (12 : Int32)
  · rw [if_pos c20] at h
    refine mr_sw_in (t := 146) (v := (12 : Int32)) dX11_one_1 c20 rfl ?_
    refine mr_lload_n (pc' := 147) dX11_one_146 rfl rfl ?_
    refine mr_lload_n (pc' := 148) dX11_one_147 rfl rfl ?_
    refine mr_land (pc' := 149) dX11_one_148 rfl ?_
    obtain rfl := Option.some.inj h
    exact mr_lreturn dX11_one_149 rfl
  rw [if_neg c20] at h
  refine mr_sw_out (t := 150) dX11_one_1 (by have := i32ne c1 (k := 2) (by decide); have := i32ne c2 (k := 3) (by decide); have := i32ne c3 (k := 4) (by decide); have := i32ne c4 (k := 5) (by decide); have := i32ne c9 (k := 6) (by decide); have := i32ne c11 (k := 7) (by decide); have := i32ne c13 (k := 8) (by decide); have := i32ne c15 (k := 9) (by decide); have := i32ne c17 (k := 10) (by decide); have := i32ne c19 (k := 11) (by decide); have := i32ne c20 (k := 12) (by decide); omega) (by decide) ?_
  refine mr_lload_n (pc' := 151) dX11_one_150 rfl rfl ?_
  refine mr_lload_n (pc' := 152) dX11_one_151 rfl rfl ?_
  refine mr_lor (pc' := 153) dX11_one_152 rfl ?_
  obtain rfl := Option.some.inj h
  exact mr_lreturn dX11_one_153 rfl
def lp_X11_reckons_8 (p1 : Int32) (p3 : Int32) (K : fS → Option (Int64 × fS)) : Nat → Int32 → fS → Option (Int64 × fS)
  | 0, _, _ => none
  | n + 1, p4, S0 =>
    if p3 ≤ p4 then (K S0) else
    ((gI S0 147 2400 (((400 : Int32) * p1) + p4)).bind fun a5 =>
    (gI S0 147 2400 (((400 : Int32) * p1) + p4)).bind fun a8 =>
    if (a5 &&& (15 : Int32)) = (0 : Int32) then ((f_X11_push (Int32.toInt64 (a8 >>> ((4 : Int32) &&& 31))) S0).bind fun q38 =>
    lp_X11_reckons_8 p1 p3 K n (p4 + (1 : Int32)) q38) else
    (if (a5 &&& (15 : Int32)) = (1 : Int32) then ((gL S0 156 8 (a8 >>> ((4 : Int32) &&& 31))).bind fun a32 =>
    (f_X11_push a32 S0).bind fun q35 =>
    lp_X11_reckons_8 p1 p3 K n (p4 + (1 : Int32)) q35) else
    (if (a5 &&& (15 : Int32)) = (11 : Int32) then ((f_X11_pop  S0).bind fun q26 =>
    (f_X11_push ((1 : Int64) - q26.1) q26.2).bind fun q29 =>
    lp_X11_reckons_8 p1 p3 K n (p4 + (1 : Int32)) q29) else
    ((f_X11_pop  S0).bind fun q14 =>
    (f_X11_pop  q14.2).bind fun q17 =>
    (f_X11_one (a5 &&& (15 : Int32)) q17.1 q14.1 q17.2).bind fun q20 =>
    (f_X11_push q20 q17.2).bind fun q23 =>
    lp_X11_reckons_8 p1 p3 K n (p4 + (1 : Int32)) q23))))
set_option maxHeartbeats 4000000 in
set_option maxRecDepth 100000 in
theorem ok_lp_X11_reckons_8 {X : mm_C} {RR : Nat → Nat → Option Nat} (hR : RRok RR) {p1 : Int32} {p3 : Int32}  {K : fS → Option (Int64 × fS)} {r : Int64 × fS} (hK : ∀ (Sk : fS), K Sk = some r → mr X 1 mY_X11_reckons 135 [(0, .ref 145)] [] (MM RR Sk) (some (.long r.1), MM RR r.2)) : ∀ (n : Nat) (p4 : Int32) (S0 : fS), lp_X11_reckons_8 p1 p3 K n p4 S0 = some r → mr X 1 mY_X11_reckons 8 [(0, .ref 145), (1, .int p1), (3, .int p3), (4, .int p4)] [] (MM RR S0) (some (.long r.1), MM RR r.2) := by
  intro n
  induction n with
  | zero => intro p4 S0 h; exact mm_no h
  | succ n ih =>
    intro p4 S0 h
    unfold lp_X11_reckons_8 at h
    refine mr_iload (pc' := 10) dX11_reckons_8 rfl rfl ?_
    refine mr_iload_n (pc' := 11) dX11_reckons_10 rfl rfl ?_
    by_cases c4 : p3 ≤ p4
    · rw [if_pos c4] at h
      refine mr_icmp_ge_t (t := 135) dX11_reckons_11 (by decide) c4 ?_
      exact mr_sub [(0, .ref 145)] ⟨rfl, trivial⟩ rfl (hK _  h)
    · rw [if_neg c4] at h
      refine mr_icmp_ge_f (t := 135) (pc' := 14) dX11_reckons_11 (by decide) rfl c4 ?_
      refine mr_aload_n (pc' := 15) dX11_reckons_14 rfl rfl ?_
      refine mr_getR (pc' := 18) (ci := 11) (j := 3) (b := 147) hR dX11_reckons_15 rfl rfl rfl (by decide) (by decide) (by decide) rfl rfl ?_
      refine mr_sipush (pc' := 21) (v := (400 : Int32)) dX11_reckons_18 rfl (by decide) ?_
      refine mr_iload_n (pc' := 22) dX11_reckons_21 rfl rfl ?_
      refine mr_imul (pc' := 23) dX11_reckons_22 rfl ?_
      refine mr_iload (pc' := 25) dX11_reckons_23 rfl rfl ?_
      refine mr_iadd (pc' := 26) dX11_reckons_25 rfl ?_
      obtain ⟨a5, g6, h7⟩ := Option.bind_eq_some_iff.mp h
      refine mr_iald (pc' := 27) dX11_reckons_26 rfl rfl rfl g6 ?_
      refine mr_bipush (pc' := 29) (v := (15 : Int32)) dX11_reckons_27 rfl (by decide) ?_
      refine mr_iand (pc' := 30) dX11_reckons_29 rfl ?_
      refine mr_istore (pc' := 32) (lv' := [(5, .int (a5 &&& (15 : Int32))), (0, .ref 145), (1, .int p1), (3, .int p3), (4, .int p4)]) dX11_reckons_30 rfl (by decide) rfl ?_
      refine mr_aload_n (pc' := 33) dX11_reckons_32 rfl rfl ?_
      refine mr_getR (pc' := 36) (ci := 11) (j := 3) (b := 147) hR dX11_reckons_33 rfl rfl rfl (by decide) (by decide) (by decide) rfl rfl ?_
      refine mr_sipush (pc' := 39) (v := (400 : Int32)) dX11_reckons_36 rfl (by decide) ?_
      refine mr_iload_n (pc' := 40) dX11_reckons_39 rfl rfl ?_
      refine mr_imul (pc' := 41) dX11_reckons_40 rfl ?_
      refine mr_iload (pc' := 43) dX11_reckons_41 rfl rfl ?_
      refine mr_iadd (pc' := 44) dX11_reckons_43 rfl ?_
      obtain ⟨a8, g9, h10⟩ := Option.bind_eq_some_iff.mp h7
      refine mr_iald (pc' := 45) dX11_reckons_44 rfl rfl rfl g9 ?_
      refine mr_iconst (pc' := 46) (v := (4 : Int32)) dX11_reckons_45 rfl (by decide) ?_
      refine mr_ishr (pc' := 47) dX11_reckons_46 rfl ?_
      refine mr_istore (pc' := 49) (lv' := [(6, .int (a8 >>> ((4 : Int32) &&& 31))), (5, .int (a5 &&& (15 : Int32))), (0, .ref 145), (1, .int p1), (3, .int p3), (4, .int p4)]) dX11_reckons_47 rfl (by decide) rfl ?_
      refine mr_iload (pc' := 51) dX11_reckons_49 rfl rfl ?_
      by_cases c11 : (a5 &&& (15 : Int32)) = (0 : Int32)
      · rw [if_pos c11] at h10
        refine mr_if_ne_f (t := 64) (pc' := 54) dX11_reckons_51 (by decide) rfl (not_not_intro c11) ?_
        refine mr_aload_n (pc' := 55) dX11_reckons_54 rfl rfl ?_
        refine mr_iload (pc' := 57) dX11_reckons_55 rfl rfl ?_
        refine mr_i2l (pc' := 58) dX11_reckons_57 rfl ?_
        obtain ⟨q38, g39, h40⟩ := Option.bind_eq_some_iff.mp h10
        refine mr_cv (pc' := 61) (a := 145) (d1 := 0) dX11_reckons_58 rfl rfl rfl rfl rfl rfl (by decide) rfl (by decide) (ok_X11_push hR  g39) ?_
        show mr X _ _ 61 _ [] (MM RR q38) _
        refine mr_goto (t := 129) dX11_reckons_61 (by decide) ?_
        refine mr_iinc (pc' := 132) (x' := (p4 + (1 : Int32))) (lv' := [(4, .int (p4 + (1 : Int32))), (6, .int (a8 >>> ((4 : Int32) &&& 31))), (5, .int (a5 &&& (15 : Int32))), (0, .ref 145), (1, .int p1), (3, .int p3)]) dX11_reckons_129 rfl (by decide) rfl rfl rfl ?_
        refine mr_goto (t := 8) dX11_reckons_132 (by decide) ?_
        exact mr_sub [(0, .ref 145), (1, .int p1), (3, .int p3), (4, .int (p4 + (1 : Int32)))] ⟨rfl, rfl, rfl, rfl, trivial⟩ rfl (ih _ _  h40)
      · rw [if_neg c11] at h10
        refine mr_if_ne_t (t := 64) dX11_reckons_51 (by decide) c11 ?_
        refine mr_iload (pc' := 66) dX11_reckons_64 rfl rfl ?_
        refine mr_iconst (pc' := 67) (v := (1 : Int32)) dX11_reckons_66 rfl (by decide) ?_
        by_cases c12 : (a5 &&& (15 : Int32)) = (1 : Int32)
        · rw [if_pos c12] at h10
          refine mr_icmp_ne_f (t := 84) (pc' := 70) dX11_reckons_67 (by decide) rfl (not_not_intro c12) ?_
          refine mr_aload_n (pc' := 71) dX11_reckons_70 rfl rfl ?_
          refine mr_aload_n (pc' := 72) dX11_reckons_71 rfl rfl ?_
          refine mr_getR (pc' := 75) (ci := 11) (j := 24) (b := 156) hR dX11_reckons_72 rfl rfl rfl (by decide) (by decide) (by decide) rfl rfl ?_
          refine mr_iload (pc' := 77) dX11_reckons_75 rfl rfl ?_
          obtain ⟨a32, g33, h34⟩ := Option.bind_eq_some_iff.mp h10
          refine mr_lald (pc' := 78) dX11_reckons_77 rfl rfl rfl g33 ?_
          obtain ⟨q35, g36, h37⟩ := Option.bind_eq_some_iff.mp h34
          refine mr_cv (pc' := 81) (a := 145) (d1 := 0) dX11_reckons_78 rfl rfl rfl rfl rfl rfl (by decide) rfl (by decide) (ok_X11_push hR  g36) ?_
          show mr X _ _ 81 _ [] (MM RR q35) _
          refine mr_goto (t := 129) dX11_reckons_81 (by decide) ?_
          refine mr_iinc (pc' := 132) (x' := (p4 + (1 : Int32))) (lv' := [(4, .int (p4 + (1 : Int32))), (6, .int (a8 >>> ((4 : Int32) &&& 31))), (5, .int (a5 &&& (15 : Int32))), (0, .ref 145), (1, .int p1), (3, .int p3)]) dX11_reckons_129 rfl (by decide) rfl rfl rfl ?_
          refine mr_goto (t := 8) dX11_reckons_132 (by decide) ?_
          exact mr_sub [(0, .ref 145), (1, .int p1), (3, .int p3), (4, .int (p4 + (1 : Int32)))] ⟨rfl, rfl, rfl, rfl, trivial⟩ rfl (ih _ _  h37)
        · rw [if_neg c12] at h10
          refine mr_icmp_ne_t (t := 84) dX11_reckons_67 (by decide) c12 ?_
          refine mr_iload (pc' := 86) dX11_reckons_84 rfl rfl ?_
          refine mr_bipush (pc' := 88) (v := (11 : Int32)) dX11_reckons_86 rfl (by decide) ?_
          by_cases c13 : (a5 &&& (15 : Int32)) = (11 : Int32)
          · rw [if_pos c13] at h10
            refine mr_icmp_ne_f (t := 104) (pc' := 91) dX11_reckons_88 (by decide) rfl (not_not_intro c13) ?_
            refine mr_aload_n (pc' := 92) dX11_reckons_91 rfl rfl ?_
            refine mr_lconst (pc' := 93) (v := (1 : Int64)) dX11_reckons_92 rfl (by decide) ?_
            refine mr_aload_n (pc' := 94) dX11_reckons_93 rfl rfl ?_
            obtain ⟨q26, g27, h28⟩ := Option.bind_eq_some_iff.mp h10
            refine mr_cv (pc' := 97) (a := 145) (d1 := 0) dX11_reckons_94 rfl rfl rfl rfl rfl rfl (by decide) rfl (by decide) (ok_X11_pop hR  g27) ?_
            show mr X _ _ 97 _ [.long q26.1, .long (1 : Int64), .ref 145] (MM RR q26.2) _
            refine mr_lsub (pc' := 98) dX11_reckons_97 rfl ?_
            obtain ⟨q29, g30, h31⟩ := Option.bind_eq_some_iff.mp h28
            refine mr_cv (pc' := 101) (a := 145) (d1 := 0) dX11_reckons_98 rfl rfl rfl rfl rfl rfl (by decide) rfl (by decide) (ok_X11_push hR  g30) ?_
            show mr X _ _ 101 _ [] (MM RR q29) _
            refine mr_goto (t := 129) dX11_reckons_101 (by decide) ?_
            refine mr_iinc (pc' := 132) (x' := (p4 + (1 : Int32))) (lv' := [(4, .int (p4 + (1 : Int32))), (6, .int (a8 >>> ((4 : Int32) &&& 31))), (5, .int (a5 &&& (15 : Int32))), (0, .ref 145), (1, .int p1), (3, .int p3)]) dX11_reckons_129 rfl (by decide) rfl rfl rfl ?_
            refine mr_goto (t := 8) dX11_reckons_132 (by decide) ?_
            exact mr_sub [(0, .ref 145), (1, .int p1), (3, .int p3), (4, .int (p4 + (1 : Int32)))] ⟨rfl, rfl, rfl, rfl, trivial⟩ rfl (ih _ _  h31)
          · rw [if_neg c13] at h10
            refine mr_icmp_ne_t (t := 104) dX11_reckons_88 (by decide) c13 ?_
            refine mr_aload_n (pc' := 105) dX11_reckons_104 rfl rfl ?_
            obtain ⟨q14, g15, h16⟩ := Option.bind_eq_some_iff.mp h10
            refine mr_cv (pc' := 108) (a := 145) (d1 := 0) dX11_reckons_105 rfl rfl rfl rfl rfl rfl (by decide) rfl (by decide) (ok_X11_pop hR  g15) ?_
            show mr X _ _ 108 _ [.long q14.1] (MM RR q14.2) _
            refine mr_lstore (pc' := 110) (lv' := [(7, .long q14.1), (6, .int (a8 >>> ((4 : Int32) &&& 31))), (5, .int (a5 &&& (15 : Int32))), (0, .ref 145), (1, .int p1), (3, .int p3), (4, .int p4)]) dX11_reckons_108 rfl (by decide) rfl ?_
            refine mr_aload_n (pc' := 111) dX11_reckons_110 rfl rfl ?_
            obtain ⟨q17, g18, h19⟩ := Option.bind_eq_some_iff.mp h16
            refine mr_cv (pc' := 114) (a := 145) (d1 := 0) dX11_reckons_111 rfl rfl rfl rfl rfl rfl (by decide) rfl (by decide) (ok_X11_pop hR  g18) ?_
            show mr X _ _ 114 _ [.long q17.1] (MM RR q17.2) _
            refine mr_lstore (pc' := 116) (lv' := [(9, .long q17.1), (7, .long q14.1), (6, .int (a8 >>> ((4 : Int32) &&& 31))), (5, .int (a5 &&& (15 : Int32))), (0, .ref 145), (1, .int p1), (3, .int p3), (4, .int p4)]) dX11_reckons_114 rfl (by decide) rfl ?_
            refine mr_aload_n (pc' := 117) dX11_reckons_116 rfl rfl ?_
            refine mr_iload (pc' := 119) dX11_reckons_117 rfl rfl ?_
            refine mr_lload (pc' := 121) dX11_reckons_119 rfl rfl ?_
            refine mr_lload (pc' := 123) dX11_reckons_121 rfl rfl ?_
            obtain ⟨q20, g21, h22⟩ := Option.bind_eq_some_iff.mp h19
            refine mr_cs (pc' := 126) (d1 := 0) dX11_reckons_123 rfl rfl rfl rfl (by decide) (Nat.le_of_ble_eq_true rfl) rfl rfl rfl (by decide) (ok_X11_one hR  g21) ?_
            show mr X _ _ 126 _ [.long q20, .ref 145] (MM RR q17.2) _
            obtain ⟨q23, g24, h25⟩ := Option.bind_eq_some_iff.mp h22
            refine mr_cv (pc' := 129) (a := 145) (d1 := 0) dX11_reckons_126 rfl rfl rfl rfl rfl rfl (by decide) rfl (by decide) (ok_X11_push hR  g24) ?_
            show mr X _ _ 129 _ [] (MM RR q23) _
            refine mr_iinc (pc' := 132) (x' := (p4 + (1 : Int32))) (lv' := [(4, .int (p4 + (1 : Int32))), (9, .long q17.1), (7, .long q14.1), (6, .int (a8 >>> ((4 : Int32) &&& 31))), (5, .int (a5 &&& (15 : Int32))), (0, .ref 145), (1, .int p1), (3, .int p3)]) dX11_reckons_129 rfl (by decide) rfl rfl rfl ?_
            refine mr_goto (t := 8) dX11_reckons_132 (by decide) ?_
            exact mr_sub [(0, .ref 145), (1, .int p1), (3, .int p3), (4, .int (p4 + (1 : Int32)))] ⟨rfl, rfl, rfl, rfl, trivial⟩ rfl (ih _ _  h25)
def f_X11_reckons (v1 : Int32) (v2 : Int32) (v3 : Int32) (S : fS) : Option (Int64 × fS) :=
  (some (pI S 145 23 (0 : Int32))).bind fun S1 =>
  lp_X11_reckons_8 v1 v3 (fun S41 => (f_X11_pop  S41).bind fun q43 =>
  some (q43.1, q43.2)) FU v2 S1
set_option maxHeartbeats 4000000 in
set_option maxRecDepth 100000 in
theorem ok_X11_reckons {X : mm_C} {RR : Nat → Nat → Option Nat} (hR : RRok RR) {v1 : Int32} {v2 : Int32} {v3 : Int32}  {S : fS} {r : Int64 × fS} (h : f_X11_reckons v1 v2 v3 S = some r) : mr X 1 mY_X11_reckons 0 (lv_args 0 [.ref 145, .int v1, .int v2, .int v3]) [] (MM RR S) (some (.long r.1), MM RR r.2) := by
  unfold f_X11_reckons at h
  show mr X _ _ 0 [(0, .ref 145), (1, .int v1), (2, .int v2), (3, .int v3)] [] (MM RR S) _
  refine mr_aload_n (pc' := 1) dX11_reckons_0 rfl rfl ?_
  refine mr_iconst (pc' := 2) (v := (0 : Int32)) dX11_reckons_1 rfl (by decide) ?_
  obtain ⟨S1, g2, h3⟩ := Option.bind_eq_some_iff.mp h
  refine mr_putI (pc' := 5) (ci := 11) (j := 23) dX11_reckons_2 rfl rfl rfl (by decide) (by decide) rfl rfl ?_
  rw [Option.some.inj g2]
  refine mr_iload_n (pc' := 6) dX11_reckons_5 rfl rfl ?_
  refine mr_istore (pc' := 8) (lv' := [(4, .int v2), (0, .ref 145), (1, .int v1), (2, .int v2), (3, .int v3)]) dX11_reckons_6 rfl (by decide) rfl ?_
  refine mr_sub [(0, .ref 145), (1, .int v1), (3, .int v3), (4, .int v2)] ⟨rfl, rfl, rfl, rfl, trivial⟩ rfl ?_
  refine ok_lp_X11_reckons_8 hR  (fun S41 h42 => ?_) FU _ _  h3
  refine mr_aload_n (pc' := 136) dX11_reckons_135 rfl rfl ?_
  obtain ⟨q43, g44, h45⟩ := Option.bind_eq_some_iff.mp h42
  refine mr_cv (pc' := 139) (a := 145) (d1 := 0) dX11_reckons_136 rfl rfl rfl rfl rfl rfl (by decide) rfl (by decide) (ok_X11_pop hR  g44) ?_
  show mr X _ _ 139 _ [.long q43.1] (MM RR q43.2) _
  obtain rfl := Option.some.inj h45
  exact mr_lreturn dX11_reckons_139 rfl
def lp_X11_sent_7 (p1 : Int32) (K : fS → Option (Int32 × fS)) : Nat → Int32 → fS → Option (Int32 × fS)
  | 0, _, _ => none
  | n + 1, p3, S0 =>
    (gI S0 150 6 p1).bind fun a4 =>
    if a4 ≤ p3 then (K S0) else
    ((gI S0 149 216 ((((36 : Int32) * p1) + ((3 : Int32) * p3)) + (1 : Int32))).bind fun a8 =>
    if a8 < (0 : Int32) then ((gI S0 149 216 (((36 : Int32) * p1) + ((3 : Int32) * p3))).bind fun a12 =>
    some (a12, S0)) else
    ((gI S0 149 216 ((((36 : Int32) * p1) + ((3 : Int32) * p3)) + (1 : Int32))).bind fun a15 =>
    (gI S0 149 216 ((((36 : Int32) * p1) + ((3 : Int32) * p3)) + (2 : Int32))).bind fun a18 =>
    (f_X11_reckons p1 a15 a18 S0).bind fun q21 =>
    if q21.1 = (1 : Int64) then ((gI q21.2 149 216 (((36 : Int32) * p1) + ((3 : Int32) * p3))).bind fun a25 =>
    some (a25, q21.2)) else
    (lp_X11_sent_7 p1 K n (p3 + (1 : Int32)) q21.2)))
set_option maxHeartbeats 4000000 in
set_option maxRecDepth 100000 in
theorem ok_lp_X11_sent_7 {X : mm_C} {RR : Nat → Nat → Option Nat} (hR : RRok RR) {p1 : Int32}  {K : fS → Option (Int32 × fS)} {r : Int32 × fS} (hK : ∀ (Sk : fS), K Sk = some r → mr X 3 mY_X11_sent 81 [] [] (MM RR Sk) (some (.int r.1), MM RR r.2)) : ∀ (n : Nat) (p3 : Int32) (S0 : fS), lp_X11_sent_7 p1 K n p3 S0 = some r → mr X 3 mY_X11_sent 7 [(0, .ref 145), (1, .int p1), (3, .int p3)] [] (MM RR S0) (some (.int r.1), MM RR r.2) := by
  intro n
  induction n with
  | zero => intro p3 S0 h; exact mm_no h
  | succ n ih =>
    intro p3 S0 h
    unfold lp_X11_sent_7 at h
    refine mr_iload_n (pc' := 8) dX11_sent_7 rfl rfl ?_
    refine mr_aload_n (pc' := 9) dX11_sent_8 rfl rfl ?_
    refine mr_getR (pc' := 12) (ci := 11) (j := 6) (b := 150) hR dX11_sent_9 rfl rfl rfl (by decide) (by decide) (by decide) rfl rfl ?_
    refine mr_iload_n (pc' := 13) dX11_sent_12 rfl rfl ?_
    obtain ⟨a4, g5, h6⟩ := Option.bind_eq_some_iff.mp h
    refine mr_iald (pc' := 14) dX11_sent_13 rfl rfl rfl g5 ?_
    by_cases c7 : a4 ≤ p3
    · rw [if_pos c7] at h6
      refine mr_icmp_ge_t (t := 81) dX11_sent_14 (by decide) c7 ?_
      exact mr_sub [] trivial rfl (hK _  h6)
    · rw [if_neg c7] at h6
      refine mr_icmp_ge_f (t := 81) (pc' := 17) dX11_sent_14 (by decide) rfl c7 ?_
      refine mr_bipush (pc' := 19) (v := (36 : Int32)) dX11_sent_17 rfl (by decide) ?_
      refine mr_iload_n (pc' := 20) dX11_sent_19 rfl rfl ?_
      refine mr_imul (pc' := 21) dX11_sent_20 rfl ?_
      refine mr_iconst (pc' := 22) (v := (3 : Int32)) dX11_sent_21 rfl (by decide) ?_
      refine mr_iload_n (pc' := 23) dX11_sent_22 rfl rfl ?_
      refine mr_imul (pc' := 24) dX11_sent_23 rfl ?_
      refine mr_iadd (pc' := 25) dX11_sent_24 rfl ?_
      refine mr_istore (pc' := 27) (lv' := [(4, .int (((36 : Int32) * p1) + ((3 : Int32) * p3))), (0, .ref 145), (1, .int p1), (3, .int p3)]) dX11_sent_25 rfl (by decide) rfl ?_
      refine mr_aload_n (pc' := 28) dX11_sent_27 rfl rfl ?_
      refine mr_getR (pc' := 31) (ci := 11) (j := 5) (b := 149) hR dX11_sent_28 rfl rfl rfl (by decide) (by decide) (by decide) rfl rfl ?_
      refine mr_iload (pc' := 33) dX11_sent_31 rfl rfl ?_
      refine mr_iconst (pc' := 34) (v := (1 : Int32)) dX11_sent_33 rfl (by decide) ?_
      refine mr_iadd (pc' := 35) dX11_sent_34 rfl ?_
      obtain ⟨a8, g9, h10⟩ := Option.bind_eq_some_iff.mp h6
      refine mr_iald (pc' := 36) dX11_sent_35 rfl rfl rfl g9 ?_
      by_cases c11 : a8 < (0 : Int32)
      · rw [if_pos c11] at h10
        refine mr_if_lt_t (t := 67) dX11_sent_36 (by decide) c11 ?_
        refine mr_aload_n (pc' := 68) dX11_sent_67 rfl rfl ?_
        refine mr_getR (pc' := 71) (ci := 11) (j := 5) (b := 149) hR dX11_sent_68 rfl rfl rfl (by decide) (by decide) (by decide) rfl rfl ?_
        refine mr_iload (pc' := 73) dX11_sent_71 rfl rfl ?_
        obtain ⟨a12, g13, h14⟩ := Option.bind_eq_some_iff.mp h10
        refine mr_iald (pc' := 74) dX11_sent_73 rfl rfl rfl g13 ?_
        obtain rfl := Option.some.inj h14
        exact mr_ireturn dX11_sent_74 rfl
      · rw [if_neg c11] at h10
        refine mr_if_lt_f (t := 67) (pc' := 39) dX11_sent_36 (by decide) rfl c11 ?_
        refine mr_aload_n (pc' := 40) dX11_sent_39 rfl rfl ?_
        refine mr_iload_n (pc' := 41) dX11_sent_40 rfl rfl ?_
        refine mr_aload_n (pc' := 42) dX11_sent_41 rfl rfl ?_
        refine mr_getR (pc' := 45) (ci := 11) (j := 5) (b := 149) hR dX11_sent_42 rfl rfl rfl (by decide) (by decide) (by decide) rfl rfl ?_
        refine mr_iload (pc' := 47) dX11_sent_45 rfl rfl ?_
        refine mr_iconst (pc' := 48) (v := (1 : Int32)) dX11_sent_47 rfl (by decide) ?_
        refine mr_iadd (pc' := 49) dX11_sent_48 rfl ?_
        obtain ⟨a15, g16, h17⟩ := Option.bind_eq_some_iff.mp h10
        refine mr_iald (pc' := 50) dX11_sent_49 rfl rfl rfl g16 ?_
        refine mr_aload_n (pc' := 51) dX11_sent_50 rfl rfl ?_
        refine mr_getR (pc' := 54) (ci := 11) (j := 5) (b := 149) hR dX11_sent_51 rfl rfl rfl (by decide) (by decide) (by decide) rfl rfl ?_
        refine mr_iload (pc' := 56) dX11_sent_54 rfl rfl ?_
        refine mr_iconst (pc' := 57) (v := (2 : Int32)) dX11_sent_56 rfl (by decide) ?_
        refine mr_iadd (pc' := 58) dX11_sent_57 rfl ?_
        obtain ⟨a18, g19, h20⟩ := Option.bind_eq_some_iff.mp h17
        refine mr_iald (pc' := 59) dX11_sent_58 rfl rfl rfl g19 ?_
        obtain ⟨q21, g22, h23⟩ := Option.bind_eq_some_iff.mp h20
        refine mr_cv (pc' := 62) (a := 145) (d1 := 1) dX11_sent_59 rfl rfl rfl rfl rfl rfl (by decide) rfl (by decide) (ok_X11_reckons hR  g22) ?_
        show mr X _ _ 62 _ [.long q21.1] (MM RR q21.2) _
        refine mr_lconst (pc' := 63) (v := (1 : Int64)) dX11_sent_62 rfl (by decide) ?_
        by_cases c24 : q21.1 = (1 : Int64)
        · rw [if_pos c24] at h23
          refine mr_lcmp_ne_f (t := 75) (pc' := 67) dX11_sent_63 rfl dX11_sent_64 (by decide) rfl (not_not_intro c24) ?_
          refine mr_aload_n (pc' := 68) dX11_sent_67 rfl rfl ?_
          refine mr_getR (pc' := 71) (ci := 11) (j := 5) (b := 149) hR dX11_sent_68 rfl rfl rfl (by decide) (by decide) (by decide) rfl rfl ?_
          refine mr_iload (pc' := 73) dX11_sent_71 rfl rfl ?_
          obtain ⟨a25, g26, h27⟩ := Option.bind_eq_some_iff.mp h23
          refine mr_iald (pc' := 74) dX11_sent_73 rfl rfl rfl g26 ?_
          obtain rfl := Option.some.inj h27
          exact mr_ireturn dX11_sent_74 rfl
        · rw [if_neg c24] at h23
          refine mr_lcmp_ne_t (t := 75) dX11_sent_63 rfl dX11_sent_64 (by decide) c24 ?_
          refine mr_iinc (pc' := 78) (x' := (p3 + (1 : Int32))) (lv' := [(3, .int (p3 + (1 : Int32))), (4, .int (((36 : Int32) * p1) + ((3 : Int32) * p3))), (0, .ref 145), (1, .int p1)]) dX11_sent_75 rfl (by decide) rfl rfl rfl ?_
          refine mr_goto (t := 7) dX11_sent_78 (by decide) ?_
          exact mr_sub [(0, .ref 145), (1, .int p1), (3, .int (p3 + (1 : Int32)))] ⟨rfl, rfl, rfl, trivial⟩ rfl (ih _ _  h23)
def f_X11_sent (v1 : Int32) (v2 : Int32) (S : fS) : Option (Int32 × fS) :=
  (f_X11_words v2 S).bind fun q1 =>
  lp_X11_sent_7 v1 (fun S28 => some ((-1 : Int32), S28)) FU (0 : Int32) q1
set_option maxHeartbeats 4000000 in
set_option maxRecDepth 100000 in
theorem ok_X11_sent {X : mm_C} {RR : Nat → Nat → Option Nat} (hR : RRok RR) {v1 : Int32} {v2 : Int32}  {S : fS} {r : Int32 × fS} (h : f_X11_sent v1 v2 S = some r) : mr X 3 mY_X11_sent 0 (lv_args 0 [.ref 145, .int v1, .int v2]) [] (MM RR S) (some (.int r.1), MM RR r.2) := by
  unfold f_X11_sent at h
  show mr X _ _ 0 [(0, .ref 145), (1, .int v1), (2, .int v2)] [] (MM RR S) _
  refine mr_aload_n (pc' := 1) dX11_sent_0 rfl rfl ?_
  refine mr_iload_n (pc' := 2) dX11_sent_1 rfl rfl ?_
  obtain ⟨q1, g2, h3⟩ := Option.bind_eq_some_iff.mp h
  refine mr_cv (pc' := 5) (a := 145) (d1 := 2) dX11_sent_2 rfl rfl rfl rfl rfl rfl (by decide) rfl (by decide) (ok_X11_words hR  g2) ?_
  show mr X _ _ 5 _ [] (MM RR q1) _
  refine mr_iconst (pc' := 6) (v := (0 : Int32)) dX11_sent_5 rfl (by decide) ?_
  refine mr_istore_n (pc' := 7) (lv' := [(3, .int (0 : Int32)), (0, .ref 145), (1, .int v1), (2, .int v2)]) dX11_sent_6 rfl (by decide) rfl ?_
  refine mr_sub [(0, .ref 145), (1, .int v1), (3, .int (0 : Int32))] ⟨rfl, rfl, rfl, trivial⟩ rfl ?_
  refine ok_lp_X11_sent_7 hR  (fun S28 h29 => ?_) FU _ _  h3
  refine mr_iconst (pc' := 82) (v := (-1 : Int32)) dX11_sent_81 rfl (by decide) ?_
  obtain rfl := Option.some.inj h29
  exact mr_ireturn dX11_sent_82 rfl
def f_X11_between (v1 : Int32) (v2 : Int32) (S : fS) : Option (Int64) :=
  (gL S 161 100 (((10 : Int32) * v1) + v2)).bind fun a1 =>
  some a1
set_option maxHeartbeats 4000000 in
set_option maxRecDepth 100000 in
theorem ok_X11_between {X : mm_C} {RR : Nat → Nat → Option Nat} (hR : RRok RR) {v1 : Int32} {v2 : Int32}  {S : fS} {r : Int64} (h : f_X11_between v1 v2 S = some r) : mr X 0 mY_X11_between 0 (lv_args 0 [.ref 145, .int v1, .int v2]) [] (MM RR S) (some (.long r), MM RR S) := by
  unfold f_X11_between at h
  show mr X _ _ 0 [(0, .ref 145), (1, .int v1), (2, .int v2)] [] (MM RR S) _
  refine mr_aload_n (pc' := 1) dX11_between_0 rfl rfl ?_
  refine mr_getR (pc' := 4) (ci := 11) (j := 29) (b := 161) hR dX11_between_1 rfl rfl rfl (by decide) (by decide) (by decide) rfl rfl ?_
  refine mr_bipush (pc' := 6) (v := (10 : Int32)) dX11_between_4 rfl (by decide) ?_
  refine mr_iload_n (pc' := 7) dX11_between_6 rfl rfl ?_
  refine mr_imul (pc' := 8) dX11_between_7 rfl ?_
  refine mr_iload_n (pc' := 9) dX11_between_8 rfl rfl ?_
  refine mr_iadd (pc' := 10) dX11_between_9 rfl ?_
  obtain ⟨a1, g2, h3⟩ := Option.bind_eq_some_iff.mp h
  refine mr_lald (pc' := 11) dX11_between_10 rfl rfl rfl g2 ?_
  obtain rfl := Option.some.inj h3
  exact mr_lreturn dX11_between_11 rfl
def lp_X11_nextStair_23 (p1 : Int32) (p2 : Int32) (S : fS) (K : Int32 → Option (Int32)) : Nat → Int32 → Option (Int32)
  | 0, _ => none
  | n + 1, p3 =>
    (f_X11_otherEnd p3 p1 S).bind fun q6 =>
    if q6 < (0 : Int32) then (lp_X11_nextStair_23 p1 p2 S K n (p3 + (1 : Int32))) else
    ((f_X11_stairOf p3 (2 : Int32) S).bind fun q10 =>
    (f_X11_otherEnd p3 p1 S).bind fun q13 =>
    (f_X11_between q13 p2 S).bind fun q16 =>
    (f_X11_between p1 p2 S).bind fun q19 =>
    if ((Int32.toInt64 q10) + q16) = q19 then (K p3) else
    (lp_X11_nextStair_23 p1 p2 S K n (p3 + (1 : Int32))))
set_option maxHeartbeats 4000000 in
set_option maxRecDepth 100000 in
theorem ok_lp_X11_nextStair_23 {X : mm_C} {RR : Nat → Nat → Option Nat} (hR : RRok RR) {p1 : Int32} {p2 : Int32}  {S : fS} {K : Int32 → Option (Int32)} {r : Int32} (hK : ∀ (k3 : Int32), K k3 = some r → mr X 2 mY_X11_nextStair 67 [(3, .int k3)] [] (MM RR S) (some (.int r), MM RR S)) : ∀ (n : Nat) (p3 : Int32), lp_X11_nextStair_23 p1 p2 S K n p3 = some r → mr X 2 mY_X11_nextStair 23 [(0, .ref 145), (1, .int p1), (2, .int p2), (3, .int p3)] [] (MM RR S) (some (.int r), MM RR S) := by
  intro n
  induction n with
  | zero => intro p3 h; exact mm_no h
  | succ n ih =>
    intro p3 h
    unfold lp_X11_nextStair_23 at h
    refine mr_aload_n (pc' := 24) dX11_nextStair_23 rfl rfl ?_
    refine mr_iload_n (pc' := 25) dX11_nextStair_24 rfl rfl ?_
    refine mr_iload_n (pc' := 26) dX11_nextStair_25 rfl rfl ?_
    obtain ⟨q6, g7, h8⟩ := Option.bind_eq_some_iff.mp h
    refine mr_cv (pc' := 29) (a := 145) (d1 := 1) dX11_nextStair_26 rfl rfl rfl rfl rfl rfl (by decide) rfl (by decide) (ok_X11_otherEnd hR  g7) ?_
    show mr X _ _ 29 _ [.int q6] (MM RR S) _
    by_cases c9 : q6 < (0 : Int32)
    · rw [if_pos c9] at h8
      refine mr_if_lt_t (t := 61) dX11_nextStair_29 (by decide) c9 ?_
      refine mr_iinc (pc' := 64) (x' := (p3 + (1 : Int32))) (lv' := [(3, .int (p3 + (1 : Int32))), (0, .ref 145), (1, .int p1), (2, .int p2)]) dX11_nextStair_61 rfl (by decide) rfl rfl rfl ?_
      refine mr_goto (t := 23) dX11_nextStair_64 (by decide) ?_
      exact mr_sub [(0, .ref 145), (1, .int p1), (2, .int p2), (3, .int (p3 + (1 : Int32)))] ⟨rfl, rfl, rfl, rfl, trivial⟩ rfl (ih _  h8)
    · rw [if_neg c9] at h8
      refine mr_if_lt_f (t := 61) (pc' := 32) dX11_nextStair_29 (by decide) rfl c9 ?_
      refine mr_aload_n (pc' := 33) dX11_nextStair_32 rfl rfl ?_
      refine mr_iload_n (pc' := 34) dX11_nextStair_33 rfl rfl ?_
      refine mr_iconst (pc' := 35) (v := (2 : Int32)) dX11_nextStair_34 rfl (by decide) ?_
      obtain ⟨q10, g11, h12⟩ := Option.bind_eq_some_iff.mp h8
      refine mr_cv (pc' := 38) (a := 145) (d1 := 0) dX11_nextStair_35 rfl rfl rfl rfl rfl rfl (by decide) rfl (by decide) (ok_X11_stairOf hR  g11) ?_
      show mr X _ _ 38 _ [.int q10] (MM RR S) _
      refine mr_i2l (pc' := 39) dX11_nextStair_38 rfl ?_
      refine mr_aload_n (pc' := 40) dX11_nextStair_39 rfl rfl ?_
      refine mr_aload_n (pc' := 41) dX11_nextStair_40 rfl rfl ?_
      refine mr_iload_n (pc' := 42) dX11_nextStair_41 rfl rfl ?_
      refine mr_iload_n (pc' := 43) dX11_nextStair_42 rfl rfl ?_
      obtain ⟨q13, g14, h15⟩ := Option.bind_eq_some_iff.mp h12
      refine mr_cv (pc' := 46) (a := 145) (d1 := 1) dX11_nextStair_43 rfl rfl rfl rfl rfl rfl (by decide) rfl (by decide) (ok_X11_otherEnd hR  g14) ?_
      show mr X _ _ 46 _ [.int q13, .ref 145, .long (Int32.toInt64 q10)] (MM RR S) _
      refine mr_iload_n (pc' := 47) dX11_nextStair_46 rfl rfl ?_
      obtain ⟨q16, g17, h18⟩ := Option.bind_eq_some_iff.mp h15
      refine mr_cv (pc' := 50) (a := 145) (d1 := 0) dX11_nextStair_47 rfl rfl rfl rfl rfl rfl (by decide) rfl (by decide) (ok_X11_between hR  g17) ?_
      show mr X _ _ 50 _ [.long q16, .long (Int32.toInt64 q10)] (MM RR S) _
      refine mr_ladd (pc' := 51) dX11_nextStair_50 rfl ?_
      refine mr_aload_n (pc' := 52) dX11_nextStair_51 rfl rfl ?_
      refine mr_iload_n (pc' := 53) dX11_nextStair_52 rfl rfl ?_
      refine mr_iload_n (pc' := 54) dX11_nextStair_53 rfl rfl ?_
      obtain ⟨q19, g20, h21⟩ := Option.bind_eq_some_iff.mp h18
      refine mr_cv (pc' := 57) (a := 145) (d1 := 0) dX11_nextStair_54 rfl rfl rfl rfl rfl rfl (by decide) rfl (by decide) (ok_X11_between hR  g20) ?_
      show mr X _ _ 57 _ [.long q19, .long ((Int32.toInt64 q10) + q16)] (MM RR S) _
      by_cases c22 : ((Int32.toInt64 q10) + q16) = q19
      · rw [if_pos c22] at h21
        refine mr_lcmp_eq_t (t := 67) dX11_nextStair_57 rfl dX11_nextStair_58 (by decide) c22 ?_
        exact mr_sub [(3, .int p3)] ⟨rfl, trivial⟩ rfl (hK _  h21)
      · rw [if_neg c22] at h21
        refine mr_lcmp_eq_f (t := 67) (pc' := 61) dX11_nextStair_57 rfl dX11_nextStair_58 (by decide) rfl c22 ?_
        refine mr_iinc (pc' := 64) (x' := (p3 + (1 : Int32))) (lv' := [(3, .int (p3 + (1 : Int32))), (0, .ref 145), (1, .int p1), (2, .int p2)]) dX11_nextStair_61 rfl (by decide) rfl rfl rfl ?_
        refine mr_goto (t := 23) dX11_nextStair_64 (by decide) ?_
        exact mr_sub [(0, .ref 145), (1, .int p1), (2, .int p2), (3, .int (p3 + (1 : Int32)))] ⟨rfl, rfl, rfl, rfl, trivial⟩ rfl (ih _  h21)
def f_X11_nextStair (v1 : Int32) (v2 : Int32) (S : fS) : Option (Int32) :=
  if v1 = v2 then (some (-2 : Int32)) else
  ((f_X11_between v1 v2 S).bind fun q2 =>
  if q2 < (99999 : Int64) then (lp_X11_nextStair_23 v1 v2 S (fun u23 => some u23) FU (0 : Int32)) else
  (some (-2 : Int32)))
set_option maxHeartbeats 4000000 in
set_option maxRecDepth 100000 in
theorem ok_X11_nextStair {X : mm_C} {RR : Nat → Nat → Option Nat} (hR : RRok RR) {v1 : Int32} {v2 : Int32}  {S : fS} {r : Int32} (h : f_X11_nextStair v1 v2 S = some r) : mr X 2 mY_X11_nextStair 0 (lv_args 0 [.ref 145, .int v1, .int v2]) [] (MM RR S) (some (.int r), MM RR S) := by
  unfold f_X11_nextStair at h
  show mr X _ _ 0 [(0, .ref 145), (1, .int v1), (2, .int v2)] [] (MM RR S) _
  refine mr_iload_n (pc' := 1) dX11_nextStair_0 rfl rfl ?_
  refine mr_iload_n (pc' := 2) dX11_nextStair_1 rfl rfl ?_
  by_cases c1 : v1 = v2
  · rw [if_pos c1] at h
    refine mr_icmp_eq_t (t := 18) dX11_nextStair_2 (by decide) c1 ?_
    refine mr_bipush (pc' := 20) (v := (-2 : Int32)) dX11_nextStair_18 rfl (by decide) ?_
    obtain rfl := Option.some.inj h
    exact mr_ireturn dX11_nextStair_20 rfl
  · rw [if_neg c1] at h
    refine mr_icmp_eq_f (t := 18) (pc' := 5) dX11_nextStair_2 (by decide) rfl c1 ?_
    refine mr_aload_n (pc' := 6) dX11_nextStair_5 rfl rfl ?_
    refine mr_iload_n (pc' := 7) dX11_nextStair_6 rfl rfl ?_
    refine mr_iload_n (pc' := 8) dX11_nextStair_7 rfl rfl ?_
    obtain ⟨q2, g3, h4⟩ := Option.bind_eq_some_iff.mp h
    refine mr_cv (pc' := 11) (a := 145) (d1 := 0) dX11_nextStair_8 rfl rfl rfl rfl rfl rfl (by decide) rfl (by decide) (ok_X11_between hR  g3) ?_
    show mr X _ _ 11 _ [.long q2] (MM RR S) _
    refine mr_ldc2 (pc' := 14) (v := (99999 : Int64)) dX11_nextStair_11 rfl rfl ?_
    by_cases c5 : q2 < (99999 : Int64)
    · rw [if_pos c5] at h4
      refine mr_lcmp_lt_t (t := 21) dX11_nextStair_14 rfl dX11_nextStair_15 (by decide) c5 ?_
      refine mr_iconst (pc' := 22) (v := (0 : Int32)) dX11_nextStair_21 rfl (by decide) ?_
      refine mr_istore_n (pc' := 23) (lv' := [(3, .int (0 : Int32)), (0, .ref 145), (1, .int v1), (2, .int v2)]) dX11_nextStair_22 rfl (by decide) rfl ?_
      refine mr_sub [(0, .ref 145), (1, .int v1), (2, .int v2), (3, .int (0 : Int32))] ⟨rfl, rfl, rfl, rfl, trivial⟩ rfl ?_
      refine ok_lp_X11_nextStair_23 hR  (fun u23 h24 => ?_) FU _  h4
      refine mr_iload_n (pc' := 68) dX11_nextStair_67 rfl rfl ?_
      obtain rfl := Option.some.inj h24
      exact mr_ireturn dX11_nextStair_68 rfl
    · rw [if_neg c5] at h4
      refine mr_lcmp_lt_f (t := 21) (pc' := 18) dX11_nextStair_14 rfl dX11_nextStair_15 (by decide) rfl c5 ?_
      refine mr_bipush (pc' := 20) (v := (-2 : Int32)) dX11_nextStair_18 rfl (by decide) ?_
      obtain rfl := Option.some.inj h4
      exact mr_ireturn dX11_nextStair_20 rfl
def f_X11_floorParts (v1 : Int32) (S : fS) : Option (Int64) :=
  (gI S 157 158 ((10 : Int32) + ((2 : Int32) * v1))).bind fun a1 =>
  (gI S 157 158 (((10 : Int32) + ((2 : Int32) * v1)) + (1 : Int32))).bind fun a4 =>
  (dL (232792560 : Int64) (Int32.toInt64 a4)).bind fun a7 =>
  some ((Int32.toInt64 a1) * a7)
set_option maxHeartbeats 4000000 in
set_option maxRecDepth 100000 in
theorem ok_X11_floorParts {X : mm_C} {RR : Nat → Nat → Option Nat} (hR : RRok RR) {v1 : Int32}  {S : fS} {r : Int64} (h : f_X11_floorParts v1 S = some r) : mr X 0 mY_X11_floorParts 0 (lv_args 0 [.ref 145, .int v1]) [] (MM RR S) (some (.long r), MM RR S) := by
  unfold f_X11_floorParts at h
  show mr X _ _ 0 [(0, .ref 145), (1, .int v1)] [] (MM RR S) _
  refine mr_aload_n (pc' := 1) dX11_floorParts_0 rfl rfl ?_
  refine mr_getR (pc' := 4) (ci := 11) (j := 25) (b := 157) hR dX11_floorParts_1 rfl rfl rfl (by decide) (by decide) (by decide) rfl rfl ?_
  refine mr_bipush (pc' := 6) (v := (10 : Int32)) dX11_floorParts_4 rfl (by decide) ?_
  refine mr_iconst (pc' := 7) (v := (2 : Int32)) dX11_floorParts_6 rfl (by decide) ?_
  refine mr_iload_n (pc' := 8) dX11_floorParts_7 rfl rfl ?_
  refine mr_imul (pc' := 9) dX11_floorParts_8 rfl ?_
  refine mr_iadd (pc' := 10) dX11_floorParts_9 rfl ?_
  obtain ⟨a1, g2, h3⟩ := Option.bind_eq_some_iff.mp h
  refine mr_iald (pc' := 11) dX11_floorParts_10 rfl rfl rfl g2 ?_
  refine mr_i2l (pc' := 12) dX11_floorParts_11 rfl ?_
  refine mr_ldc2 (pc' := 15) (v := (232792560 : Int64)) dX11_floorParts_12 rfl rfl ?_
  refine mr_aload_n (pc' := 16) dX11_floorParts_15 rfl rfl ?_
  refine mr_getR (pc' := 19) (ci := 11) (j := 25) (b := 157) hR dX11_floorParts_16 rfl rfl rfl (by decide) (by decide) (by decide) rfl rfl ?_
  refine mr_bipush (pc' := 21) (v := (10 : Int32)) dX11_floorParts_19 rfl (by decide) ?_
  refine mr_iconst (pc' := 22) (v := (2 : Int32)) dX11_floorParts_21 rfl (by decide) ?_
  refine mr_iload_n (pc' := 23) dX11_floorParts_22 rfl rfl ?_
  refine mr_imul (pc' := 24) dX11_floorParts_23 rfl ?_
  refine mr_iadd (pc' := 25) dX11_floorParts_24 rfl ?_
  refine mr_iconst (pc' := 26) (v := (1 : Int32)) dX11_floorParts_25 rfl (by decide) ?_
  refine mr_iadd (pc' := 27) dX11_floorParts_26 rfl ?_
  obtain ⟨a4, g5, h6⟩ := Option.bind_eq_some_iff.mp h3
  refine mr_iald (pc' := 28) dX11_floorParts_27 rfl rfl rfl g5 ?_
  refine mr_i2l (pc' := 29) dX11_floorParts_28 rfl ?_
  obtain ⟨a7, g8, h9⟩ := Option.bind_eq_some_iff.mp h6
  refine mr_ldiv (pc' := 30) dX11_floorParts_29 rfl g8 ?_
  refine mr_lmul (pc' := 31) dX11_floorParts_30 rfl ?_
  obtain rfl := Option.some.inj h9
  exact mr_lreturn dX11_floorParts_31 rfl
def f_X11_stairParts (v1 : Int32) (S : fS) : Option (Int64) :=
  (f_X11_stairOf v1 (3 : Int32) S).bind fun q1 =>
  (f_X11_stairOf v1 (4 : Int32) S).bind fun q4 =>
  (dL (232792560 : Int64) (Int32.toInt64 q4)).bind fun a7 =>
  some ((Int32.toInt64 q1) * a7)
set_option maxHeartbeats 4000000 in
set_option maxRecDepth 100000 in
theorem ok_X11_stairParts {X : mm_C} {RR : Nat → Nat → Option Nat} (hR : RRok RR) {v1 : Int32}  {S : fS} {r : Int64} (h : f_X11_stairParts v1 S = some r) : mr X 1 mY_X11_stairParts 0 (lv_args 0 [.ref 145, .int v1]) [] (MM RR S) (some (.long r), MM RR S) := by
  unfold f_X11_stairParts at h
  show mr X _ _ 0 [(0, .ref 145), (1, .int v1)] [] (MM RR S) _
  refine mr_aload_n (pc' := 1) dX11_stairParts_0 rfl rfl ?_
  refine mr_iload_n (pc' := 2) dX11_stairParts_1 rfl rfl ?_
  refine mr_iconst (pc' := 3) (v := (3 : Int32)) dX11_stairParts_2 rfl (by decide) ?_
  obtain ⟨q1, g2, h3⟩ := Option.bind_eq_some_iff.mp h
  refine mr_cv (pc' := 6) (a := 145) (d1 := 0) dX11_stairParts_3 rfl rfl rfl rfl rfl rfl (by decide) rfl (by decide) (ok_X11_stairOf hR  g2) ?_
  show mr X _ _ 6 _ [.int q1] (MM RR S) _
  refine mr_i2l (pc' := 7) dX11_stairParts_6 rfl ?_
  refine mr_ldc2 (pc' := 10) (v := (232792560 : Int64)) dX11_stairParts_7 rfl rfl ?_
  refine mr_aload_n (pc' := 11) dX11_stairParts_10 rfl rfl ?_
  refine mr_iload_n (pc' := 12) dX11_stairParts_11 rfl rfl ?_
  refine mr_iconst (pc' := 13) (v := (4 : Int32)) dX11_stairParts_12 rfl (by decide) ?_
  obtain ⟨q4, g5, h6⟩ := Option.bind_eq_some_iff.mp h3
  refine mr_cv (pc' := 16) (a := 145) (d1 := 0) dX11_stairParts_13 rfl rfl rfl rfl rfl rfl (by decide) rfl (by decide) (ok_X11_stairOf hR  g5) ?_
  show mr X _ _ 16 _ [.int q4, .long (232792560 : Int64), .long (Int32.toInt64 q1)] (MM RR S) _
  refine mr_i2l (pc' := 17) dX11_stairParts_16 rfl ?_
  obtain ⟨a7, g8, h9⟩ := Option.bind_eq_some_iff.mp h6
  refine mr_ldiv (pc' := 18) dX11_stairParts_17 rfl g8 ?_
  refine mr_lmul (pc' := 19) dX11_stairParts_18 rfl ?_
  obtain rfl := Option.some.inj h9
  exact mr_lreturn dX11_stairParts_19 rfl
def lp_X11_ageAll_2  (K : fS → Option (fS)) : Nat → Int32 → fS → Option (fS)
  | 0, _, _ => none
  | n + 1, p1, S0 =>
    (gI S0 157 158 (2 : Int32)).bind fun a1 =>
    if a1 ≤ p1 then (K S0) else
    ((f_X11_thingOf p1 (1 : Int32) S0).bind fun q5 =>
    if (0 : Int32) ≤ q5 then ((gL S0 158 8 p1).bind fun a9 =>
    (f_X11_stairParts q5 S0).bind fun q12 =>
    (sL S0 158 8 p1 (a9 + q12)).bind fun S15 =>
    (gI S15 157 158 (((90 : Int32) + ((4 : Int32) * p1)) + (2 : Int32))).bind fun a18 =>
    (sI S15 157 158 (((90 : Int32) + ((4 : Int32) * p1)) + (2 : Int32)) (a18 + (1 : Int32))).bind fun S21 =>
    (f_X11_thingOf p1 (2 : Int32) S21).bind fun q24 =>
    (f_X11_stairOf q5 (2 : Int32) S21).bind fun q27 =>
    if q24 = q27 then ((f_X11_thingOf p1 (3 : Int32) S21).bind fun q31 =>
    (f_X11_stands p1 q31 S21).bind fun q34 =>
    lp_X11_ageAll_2  K n (p1 + (1 : Int32)) q34) else
    (lp_X11_ageAll_2  K n (p1 + (1 : Int32)) S21)) else
    ((gL S0 158 8 p1).bind fun a37 =>
    (f_X11_thingOf p1 (0 : Int32) S0).bind fun q40 =>
    (f_X11_floorParts q40 S0).bind fun q43 =>
    (sL S0 158 8 p1 (a37 + q43)).bind fun S46 =>
    lp_X11_ageAll_2  K n (p1 + (1 : Int32)) S46))
set_option maxHeartbeats 4000000 in
set_option maxRecDepth 100000 in
theorem ok_lp_X11_ageAll_2 {X : mm_C} {RR : Nat → Nat → Option Nat} (hR : RRok RR)   {K : fS → Option (fS)} {r : fS} (hK : ∀ (Sk : fS), K Sk = some r → mr X 2 mY_X11_ageAll 108 [(0, .ref 145)] [] (MM RR Sk) (none, MM RR r)) : ∀ (n : Nat) (p1 : Int32) (S0 : fS), lp_X11_ageAll_2  K n p1 S0 = some r → mr X 2 mY_X11_ageAll 2 [(0, .ref 145), (1, .int p1)] [] (MM RR S0) (none, MM RR r) := by
  intro n
  induction n with
  | zero => intro p1 S0 h; exact mm_no h
  | succ n ih =>
    intro p1 S0 h
    unfold lp_X11_ageAll_2 at h
    refine mr_iload_n (pc' := 3) dX11_ageAll_2 rfl rfl ?_
    refine mr_aload_n (pc' := 4) dX11_ageAll_3 rfl rfl ?_
    refine mr_getR (pc' := 7) (ci := 11) (j := 25) (b := 157) hR dX11_ageAll_4 rfl rfl rfl (by decide) (by decide) (by decide) rfl rfl ?_
    refine mr_iconst (pc' := 8) (v := (2 : Int32)) dX11_ageAll_7 rfl (by decide) ?_
    obtain ⟨a1, g2, h3⟩ := Option.bind_eq_some_iff.mp h
    refine mr_iald (pc' := 9) dX11_ageAll_8 rfl rfl rfl g2 ?_
    by_cases c4 : a1 ≤ p1
    · rw [if_pos c4] at h3
      refine mr_icmp_ge_t (t := 108) dX11_ageAll_9 (by decide) c4 ?_
      exact mr_sub [(0, .ref 145)] ⟨rfl, trivial⟩ rfl (hK _  h3)
    · rw [if_neg c4] at h3
      refine mr_icmp_ge_f (t := 108) (pc' := 12) dX11_ageAll_9 (by decide) rfl c4 ?_
      refine mr_aload_n (pc' := 13) dX11_ageAll_12 rfl rfl ?_
      refine mr_iload_n (pc' := 14) dX11_ageAll_13 rfl rfl ?_
      refine mr_iconst (pc' := 15) (v := (1 : Int32)) dX11_ageAll_14 rfl (by decide) ?_
      obtain ⟨q5, g6, h7⟩ := Option.bind_eq_some_iff.mp h3
      refine mr_cv (pc' := 18) (a := 145) (d1 := 0) dX11_ageAll_15 rfl rfl rfl rfl rfl rfl (by decide) rfl (by decide) (ok_X11_thingOf hR  g6) ?_
      show mr X _ _ 18 _ [.int q5] (MM RR S0) _
      refine mr_istore_n (pc' := 19) (lv' := [(2, .int q5), (0, .ref 145), (1, .int p1)]) dX11_ageAll_18 rfl (by decide) rfl ?_
      refine mr_iload_n (pc' := 20) dX11_ageAll_19 rfl rfl ?_
      by_cases c8 : (0 : Int32) ≤ q5
      · rw [if_pos c8] at h7
        refine mr_if_ge_t (t := 45) dX11_ageAll_20 (by decide) c8 ?_
        refine mr_aload_n (pc' := 46) dX11_ageAll_45 rfl rfl ?_
        refine mr_getR (pc' := 49) (ci := 11) (j := 26) (b := 158) hR dX11_ageAll_46 rfl rfl rfl (by decide) (by decide) (by decide) rfl rfl ?_
        refine mr_iload_n (pc' := 50) dX11_ageAll_49 rfl rfl ?_
        refine mr_dup2 (pc' := 51) dX11_ageAll_50 rfl ?_
        obtain ⟨a9, g10, h11⟩ := Option.bind_eq_some_iff.mp h7
        refine mr_lald (pc' := 52) dX11_ageAll_51 rfl rfl rfl g10 ?_
        refine mr_aload_n (pc' := 53) dX11_ageAll_52 rfl rfl ?_
        refine mr_iload_n (pc' := 54) dX11_ageAll_53 rfl rfl ?_
        obtain ⟨q12, g13, h14⟩ := Option.bind_eq_some_iff.mp h11
        refine mr_cv (pc' := 57) (a := 145) (d1 := 1) dX11_ageAll_54 rfl rfl rfl rfl rfl rfl (by decide) rfl (by decide) (ok_X11_stairParts hR  g13) ?_
        show mr X _ _ 57 _ [.long q12, .long a9, .int p1, .ref 158] (MM RR S0) _
        refine mr_ladd (pc' := 58) dX11_ageAll_57 rfl ?_
        obtain ⟨S15, g16, h17⟩ := Option.bind_eq_some_iff.mp h14
        refine mr_last (pc' := 59) dX11_ageAll_58 rfl rfl rfl g16 ?_
        refine mr_aload_n (pc' := 60) dX11_ageAll_59 rfl rfl ?_
        refine mr_getR (pc' := 63) (ci := 11) (j := 25) (b := 157) hR dX11_ageAll_60 rfl rfl rfl (by decide) (by decide) (by decide) rfl rfl ?_
        refine mr_bipush (pc' := 65) (v := (90 : Int32)) dX11_ageAll_63 rfl (by decide) ?_
        refine mr_iconst (pc' := 66) (v := (4 : Int32)) dX11_ageAll_65 rfl (by decide) ?_
        refine mr_iload_n (pc' := 67) dX11_ageAll_66 rfl rfl ?_
        refine mr_imul (pc' := 68) dX11_ageAll_67 rfl ?_
        refine mr_iadd (pc' := 69) dX11_ageAll_68 rfl ?_
        refine mr_iconst (pc' := 70) (v := (2 : Int32)) dX11_ageAll_69 rfl (by decide) ?_
        refine mr_iadd (pc' := 71) dX11_ageAll_70 rfl ?_
        refine mr_dup2 (pc' := 72) dX11_ageAll_71 rfl ?_
        obtain ⟨a18, g19, h20⟩ := Option.bind_eq_some_iff.mp h17
        refine mr_iald (pc' := 73) dX11_ageAll_72 rfl rfl rfl g19 ?_
        refine mr_iconst (pc' := 74) (v := (1 : Int32)) dX11_ageAll_73 rfl (by decide) ?_
        refine mr_iadd (pc' := 75) dX11_ageAll_74 rfl ?_
        obtain ⟨S21, g22, h23⟩ := Option.bind_eq_some_iff.mp h20
        refine mr_iast (pc' := 76) dX11_ageAll_75 rfl rfl rfl g22 ?_
        refine mr_aload_n (pc' := 77) dX11_ageAll_76 rfl rfl ?_
        refine mr_iload_n (pc' := 78) dX11_ageAll_77 rfl rfl ?_
        refine mr_iconst (pc' := 79) (v := (2 : Int32)) dX11_ageAll_78 rfl (by decide) ?_
        obtain ⟨q24, g25, h26⟩ := Option.bind_eq_some_iff.mp h23
        refine mr_cv (pc' := 82) (a := 145) (d1 := 0) dX11_ageAll_79 rfl rfl rfl rfl rfl rfl (by decide) rfl (by decide) (ok_X11_thingOf hR  g25) ?_
        show mr X _ _ 82 _ [.int q24] (MM RR S21) _
        refine mr_aload_n (pc' := 83) dX11_ageAll_82 rfl rfl ?_
        refine mr_iload_n (pc' := 84) dX11_ageAll_83 rfl rfl ?_
        refine mr_iconst (pc' := 85) (v := (2 : Int32)) dX11_ageAll_84 rfl (by decide) ?_
        obtain ⟨q27, g28, h29⟩ := Option.bind_eq_some_iff.mp h26
        refine mr_cv (pc' := 88) (a := 145) (d1 := 0) dX11_ageAll_85 rfl rfl rfl rfl rfl rfl (by decide) rfl (by decide) (ok_X11_stairOf hR  g28) ?_
        show mr X _ _ 88 _ [.int q27, .int q24] (MM RR S21) _
        by_cases c30 : q24 = q27
        · rw [if_pos c30] at h29
          refine mr_icmp_ne_f (t := 102) (pc' := 91) dX11_ageAll_88 (by decide) rfl (not_not_intro c30) ?_
          refine mr_aload_n (pc' := 92) dX11_ageAll_91 rfl rfl ?_
          refine mr_iload_n (pc' := 93) dX11_ageAll_92 rfl rfl ?_
          refine mr_aload_n (pc' := 94) dX11_ageAll_93 rfl rfl ?_
          refine mr_iload_n (pc' := 95) dX11_ageAll_94 rfl rfl ?_
          refine mr_iconst (pc' := 96) (v := (3 : Int32)) dX11_ageAll_95 rfl (by decide) ?_
          obtain ⟨q31, g32, h33⟩ := Option.bind_eq_some_iff.mp h29
          refine mr_cv (pc' := 99) (a := 145) (d1 := 0) dX11_ageAll_96 rfl rfl rfl rfl rfl rfl (by decide) rfl (by decide) (ok_X11_thingOf hR  g32) ?_
          show mr X _ _ 99 _ [.int q31, .int p1, .ref 145] (MM RR S21) _
          obtain ⟨q34, g35, h36⟩ := Option.bind_eq_some_iff.mp h33
          refine mr_cv (pc' := 102) (a := 145) (d1 := 0) dX11_ageAll_99 rfl rfl rfl rfl rfl rfl (by decide) rfl (by decide) (ok_X11_stands hR  g35) ?_
          show mr X _ _ 102 _ [] (MM RR q34) _
          refine mr_iinc (pc' := 105) (x' := (p1 + (1 : Int32))) (lv' := [(1, .int (p1 + (1 : Int32))), (2, .int q5), (0, .ref 145)]) dX11_ageAll_102 rfl (by decide) rfl rfl rfl ?_
          refine mr_goto (t := 2) dX11_ageAll_105 (by decide) ?_
          exact mr_sub [(0, .ref 145), (1, .int (p1 + (1 : Int32)))] ⟨rfl, rfl, trivial⟩ rfl (ih _ _  h36)
        · rw [if_neg c30] at h29
          refine mr_icmp_ne_t (t := 102) dX11_ageAll_88 (by decide) c30 ?_
          refine mr_iinc (pc' := 105) (x' := (p1 + (1 : Int32))) (lv' := [(1, .int (p1 + (1 : Int32))), (2, .int q5), (0, .ref 145)]) dX11_ageAll_102 rfl (by decide) rfl rfl rfl ?_
          refine mr_goto (t := 2) dX11_ageAll_105 (by decide) ?_
          exact mr_sub [(0, .ref 145), (1, .int (p1 + (1 : Int32)))] ⟨rfl, rfl, trivial⟩ rfl (ih _ _  h29)
      · rw [if_neg c8] at h7
        refine mr_if_ge_f (t := 45) (pc' := 23) dX11_ageAll_20 (by decide) rfl c8 ?_
        refine mr_aload_n (pc' := 24) dX11_ageAll_23 rfl rfl ?_
        refine mr_getR (pc' := 27) (ci := 11) (j := 26) (b := 158) hR dX11_ageAll_24 rfl rfl rfl (by decide) (by decide) (by decide) rfl rfl ?_
        refine mr_iload_n (pc' := 28) dX11_ageAll_27 rfl rfl ?_
        refine mr_dup2 (pc' := 29) dX11_ageAll_28 rfl ?_
        obtain ⟨a37, g38, h39⟩ := Option.bind_eq_some_iff.mp h7
        refine mr_lald (pc' := 30) dX11_ageAll_29 rfl rfl rfl g38 ?_
        refine mr_aload_n (pc' := 31) dX11_ageAll_30 rfl rfl ?_
        refine mr_aload_n (pc' := 32) dX11_ageAll_31 rfl rfl ?_
        refine mr_iload_n (pc' := 33) dX11_ageAll_32 rfl rfl ?_
        refine mr_iconst (pc' := 34) (v := (0 : Int32)) dX11_ageAll_33 rfl (by decide) ?_
        obtain ⟨q40, g41, h42⟩ := Option.bind_eq_some_iff.mp h39
        refine mr_cv (pc' := 37) (a := 145) (d1 := 0) dX11_ageAll_34 rfl rfl rfl rfl rfl rfl (by decide) rfl (by decide) (ok_X11_thingOf hR  g41) ?_
        show mr X _ _ 37 _ [.int q40, .ref 145, .long a37, .int p1, .ref 158] (MM RR S0) _
        obtain ⟨q43, g44, h45⟩ := Option.bind_eq_some_iff.mp h42
        refine mr_cv (pc' := 40) (a := 145) (d1 := 0) dX11_ageAll_37 rfl rfl rfl rfl rfl rfl (by decide) rfl (by decide) (ok_X11_floorParts hR  g44) ?_
        show mr X _ _ 40 _ [.long q43, .long a37, .int p1, .ref 158] (MM RR S0) _
        refine mr_ladd (pc' := 41) dX11_ageAll_40 rfl ?_
        obtain ⟨S46, g47, h48⟩ := Option.bind_eq_some_iff.mp h45
        refine mr_last (pc' := 42) dX11_ageAll_41 rfl rfl rfl g47 ?_
        refine mr_goto (t := 102) dX11_ageAll_42 (by decide) ?_
        refine mr_iinc (pc' := 105) (x' := (p1 + (1 : Int32))) (lv' := [(1, .int (p1 + (1 : Int32))), (2, .int q5), (0, .ref 145)]) dX11_ageAll_102 rfl (by decide) rfl rfl rfl ?_
        refine mr_goto (t := 2) dX11_ageAll_105 (by decide) ?_
        exact mr_sub [(0, .ref 145), (1, .int (p1 + (1 : Int32)))] ⟨rfl, rfl, trivial⟩ rfl (ih _ _  h48)
def f_X11_ageAll  (S : fS) : Option (fS) :=
  lp_X11_ageAll_2  (fun S49 => (gI S49 157 158 (3 : Int32)).bind fun a51 =>
  (sI S49 157 158 (3 : Int32) (a51 + (1 : Int32))).bind fun S54 =>
  some S54) FU (0 : Int32) S
set_option maxHeartbeats 4000000 in
set_option maxRecDepth 100000 in
theorem ok_X11_ageAll {X : mm_C} {RR : Nat → Nat → Option Nat} (hR : RRok RR)   {S : fS} {r : fS} (h : f_X11_ageAll  S = some r) : mr X 2 mY_X11_ageAll 0 (lv_args 0 [.ref 145]) [] (MM RR S) (none, MM RR r) := by
  unfold f_X11_ageAll at h
  show mr X _ _ 0 [(0, .ref 145)] [] (MM RR S) _
  refine mr_iconst (pc' := 1) (v := (0 : Int32)) dX11_ageAll_0 rfl (by decide) ?_
  refine mr_istore_n (pc' := 2) (lv' := [(1, .int (0 : Int32)), (0, .ref 145)]) dX11_ageAll_1 rfl (by decide) rfl ?_
  refine mr_sub [(0, .ref 145), (1, .int (0 : Int32))] ⟨rfl, rfl, trivial⟩ rfl ?_
  refine ok_lp_X11_ageAll_2 hR  (fun S49 h50 => ?_) FU _ _  h
  refine mr_aload_n (pc' := 109) dX11_ageAll_108 rfl rfl ?_
  refine mr_getR (pc' := 112) (ci := 11) (j := 25) (b := 157) hR dX11_ageAll_109 rfl rfl rfl (by decide) (by decide) (by decide) rfl rfl ?_
  refine mr_iconst (pc' := 113) (v := (3 : Int32)) dX11_ageAll_112 rfl (by decide) ?_
  refine mr_dup2 (pc' := 114) dX11_ageAll_113 rfl ?_
  obtain ⟨a51, g52, h53⟩ := Option.bind_eq_some_iff.mp h50
  refine mr_iald (pc' := 115) dX11_ageAll_114 rfl rfl rfl g52 ?_
  refine mr_iconst (pc' := 116) (v := (1 : Int32)) dX11_ageAll_115 rfl (by decide) ?_
  refine mr_iadd (pc' := 117) dX11_ageAll_116 rfl ?_
  obtain ⟨S54, g55, h56⟩ := Option.bind_eq_some_iff.mp h53
  refine mr_iast (pc' := 118) dX11_ageAll_117 rfl rfl rfl g55 ?_
  obtain rfl := Option.some.inj h56
  exact mr_return dX11_ageAll_118 rfl
def lp_X11_hour_2 (p1 : Int32) (K : fS → Option (fS)) : Nat → Int32 → fS → Option (fS)
  | 0, _, _ => none
  | n + 1, p2, S0 =>
    (gI S0 157 158 (2 : Int32)).bind fun a1 =>
    if a1 ≤ p2 then (K S0) else
    (if p1 < (0 : Int32) then (K S0) else
    ((f_X11_thingOf p2 (0 : Int32) S0).bind fun q6 =>
    if (0 : Int32) ≤ q6 then ((f_X11_sent p1 p2 S0).bind fun q10 =>
    (f_X11_isFloor q10.1 q10.2).bind fun q13 =>
    if q13 = (0 : Int32) then (if (-2 : Int32) < (0 : Int32) then (lp_X11_hour_2 p1 K n (p2 + (1 : Int32)) q10.2) else
    ((f_X11_setsOff p2 (-2 : Int32) q10.2).bind fun q18 =>
    lp_X11_hour_2 p1 K n (p2 + (1 : Int32)) q18)) else
    ((f_X11_thingOf p2 (0 : Int32) q10.2).bind fun q21 =>
    (f_X11_nextStair q21 q10.1 q10.2).bind fun q24 =>
    if q24 < (0 : Int32) then (lp_X11_hour_2 p1 K n (p2 + (1 : Int32)) q10.2) else
    ((f_X11_setsOff p2 q24 q10.2).bind fun q28 =>
    lp_X11_hour_2 p1 K n (p2 + (1 : Int32)) q28))) else
    (lp_X11_hour_2 p1 K n (p2 + (1 : Int32)) S0)))
set_option maxHeartbeats 4000000 in
set_option maxRecDepth 100000 in
theorem ok_lp_X11_hour_2 {X : mm_C} {RR : Nat → Nat → Option Nat} (hR : RRok RR) {p1 : Int32}  {K : fS → Option (fS)} {r : fS} (hK : ∀ (Sk : fS), K Sk = some r → mr X 4 mY_X11_hour 79 [(0, .ref 145)] [] (MM RR Sk) (none, MM RR r)) : ∀ (n : Nat) (p2 : Int32) (S0 : fS), lp_X11_hour_2 p1 K n p2 S0 = some r → mr X 4 mY_X11_hour 2 [(0, .ref 145), (1, .int p1), (2, .int p2)] [] (MM RR S0) (none, MM RR r) := by
  intro n
  induction n with
  | zero => intro p2 S0 h; exact mm_no h
  | succ n ih =>
    intro p2 S0 h
    unfold lp_X11_hour_2 at h
    refine mr_iload_n (pc' := 3) dX11_hour_2 rfl rfl ?_
    refine mr_aload_n (pc' := 4) dX11_hour_3 rfl rfl ?_
    refine mr_getR (pc' := 7) (ci := 11) (j := 25) (b := 157) hR dX11_hour_4 rfl rfl rfl (by decide) (by decide) (by decide) rfl rfl ?_
    refine mr_iconst (pc' := 8) (v := (2 : Int32)) dX11_hour_7 rfl (by decide) ?_
    obtain ⟨a1, g2, h3⟩ := Option.bind_eq_some_iff.mp h
    refine mr_iald (pc' := 9) dX11_hour_8 rfl rfl rfl g2 ?_
    by_cases c4 : a1 ≤ p2
    · rw [if_pos c4] at h3
      refine mr_icmp_ge_t (t := 79) dX11_hour_9 (by decide) c4 ?_
      exact mr_sub [(0, .ref 145)] ⟨rfl, trivial⟩ rfl (hK _  h3)
    · rw [if_neg c4] at h3
      refine mr_icmp_ge_f (t := 79) (pc' := 12) dX11_hour_9 (by decide) rfl c4 ?_
      refine mr_iload_n (pc' := 13) dX11_hour_12 rfl rfl ?_
      by_cases c5 : p1 < (0 : Int32)
      · rw [if_pos c5] at h3
        refine mr_if_lt_t (t := 79) dX11_hour_13 (by decide) c5 ?_
        exact mr_sub [(0, .ref 145)] ⟨rfl, trivial⟩ rfl (hK _  h3)
      · rw [if_neg c5] at h3
        refine mr_if_lt_f (t := 79) (pc' := 16) dX11_hour_13 (by decide) rfl c5 ?_
        refine mr_aload_n (pc' := 17) dX11_hour_16 rfl rfl ?_
        refine mr_iload_n (pc' := 18) dX11_hour_17 rfl rfl ?_
        refine mr_iconst (pc' := 19) (v := (0 : Int32)) dX11_hour_18 rfl (by decide) ?_
        obtain ⟨q6, g7, h8⟩ := Option.bind_eq_some_iff.mp h3
        refine mr_cv (pc' := 22) (a := 145) (d1 := 0) dX11_hour_19 rfl rfl rfl rfl rfl rfl (by decide) rfl (by decide) (ok_X11_thingOf hR  g7) ?_
        show mr X _ _ 22 _ [.int q6] (MM RR S0) _
        by_cases c9 : (0 : Int32) ≤ q6
        · rw [if_pos c9] at h8
          refine mr_if_ge_t (t := 28) dX11_hour_22 (by decide) c9 ?_
          refine mr_aload_n (pc' := 29) dX11_hour_28 rfl rfl ?_
          refine mr_iload_n (pc' := 30) dX11_hour_29 rfl rfl ?_
          refine mr_iload_n (pc' := 31) dX11_hour_30 rfl rfl ?_
          obtain ⟨q10, g11, h12⟩ := Option.bind_eq_some_iff.mp h8
          refine mr_cv (pc' := 34) (a := 145) (d1 := 3) dX11_hour_31 rfl rfl rfl rfl rfl rfl (by decide) rfl (by decide) (ok_X11_sent hR  g11) ?_
          show mr X _ _ 34 _ [.int q10.1] (MM RR q10.2) _
          refine mr_istore_n (pc' := 35) (lv' := [(3, .int q10.1), (0, .ref 145), (1, .int p1), (2, .int p2)]) dX11_hour_34 rfl (by decide) rfl ?_
          refine mr_aload_n (pc' := 36) dX11_hour_35 rfl rfl ?_
          refine mr_iload_n (pc' := 37) dX11_hour_36 rfl rfl ?_
          obtain ⟨q13, g14, h15⟩ := Option.bind_eq_some_iff.mp h12
          refine mr_cv (pc' := 40) (a := 145) (d1 := 0) dX11_hour_37 rfl rfl rfl rfl rfl rfl (by decide) rfl (by decide) (ok_X11_isFloor hR  g14) ?_
          show mr X _ _ 40 _ [.int q13] (MM RR q10.2) _
          by_cases c16 : q13 = (0 : Int32)
          · rw [if_pos c16] at h15
            refine mr_if_eq_t (t := 57) dX11_hour_40 (by decide) c16 ?_
            refine mr_bipush (pc' := 59) (v := (-2 : Int32)) dX11_hour_57 rfl (by decide) ?_
            refine mr_istore (pc' := 61) (lv' := [(4, .int (-2 : Int32)), (3, .int q10.1), (0, .ref 145), (1, .int p1), (2, .int p2)]) dX11_hour_59 rfl (by decide) rfl ?_
            refine mr_iload (pc' := 63) dX11_hour_61 rfl rfl ?_
            by_cases c17 : (-2 : Int32) < (0 : Int32)
            · rw [if_pos c17] at h15
              refine mr_if_lt_t (t := 73) dX11_hour_63 (by decide) c17 ?_
              refine mr_iinc (pc' := 76) (x' := (p2 + (1 : Int32))) (lv' := [(2, .int (p2 + (1 : Int32))), (4, .int (-2 : Int32)), (3, .int q10.1), (0, .ref 145), (1, .int p1)]) dX11_hour_73 rfl (by decide) rfl rfl rfl ?_
              refine mr_goto (t := 2) dX11_hour_76 (by decide) ?_
              exact mr_sub [(0, .ref 145), (1, .int p1), (2, .int (p2 + (1 : Int32)))] ⟨rfl, rfl, rfl, trivial⟩ rfl (ih _ _  h15)
            · rw [if_neg c17] at h15
              refine mr_if_lt_f (t := 73) (pc' := 66) dX11_hour_63 (by decide) rfl c17 ?_
              refine mr_aload_n (pc' := 67) dX11_hour_66 rfl rfl ?_
              refine mr_iload_n (pc' := 68) dX11_hour_67 rfl rfl ?_
              refine mr_iload (pc' := 70) dX11_hour_68 rfl rfl ?_
              obtain ⟨q18, g19, h20⟩ := Option.bind_eq_some_iff.mp h15
              refine mr_cv (pc' := 73) (a := 145) (d1 := 2) dX11_hour_70 rfl rfl rfl rfl rfl rfl (by decide) rfl (by decide) (ok_X11_setsOff hR  g19) ?_
              show mr X _ _ 73 _ [] (MM RR q18) _
              refine mr_iinc (pc' := 76) (x' := (p2 + (1 : Int32))) (lv' := [(2, .int (p2 + (1 : Int32))), (4, .int (-2 : Int32)), (3, .int q10.1), (0, .ref 145), (1, .int p1)]) dX11_hour_73 rfl (by decide) rfl rfl rfl ?_
              refine mr_goto (t := 2) dX11_hour_76 (by decide) ?_
              exact mr_sub [(0, .ref 145), (1, .int p1), (2, .int (p2 + (1 : Int32)))] ⟨rfl, rfl, rfl, trivial⟩ rfl (ih _ _  h20)
          · rw [if_neg c16] at h15
            refine mr_if_eq_f (t := 57) (pc' := 43) dX11_hour_40 (by decide) rfl c16 ?_
            refine mr_aload_n (pc' := 44) dX11_hour_43 rfl rfl ?_
            refine mr_aload_n (pc' := 45) dX11_hour_44 rfl rfl ?_
            refine mr_iload_n (pc' := 46) dX11_hour_45 rfl rfl ?_
            refine mr_iconst (pc' := 47) (v := (0 : Int32)) dX11_hour_46 rfl (by decide) ?_
            obtain ⟨q21, g22, h23⟩ := Option.bind_eq_some_iff.mp h15
            refine mr_cv (pc' := 50) (a := 145) (d1 := 0) dX11_hour_47 rfl rfl rfl rfl rfl rfl (by decide) rfl (by decide) (ok_X11_thingOf hR  g22) ?_
            show mr X _ _ 50 _ [.int q21, .ref 145] (MM RR q10.2) _
            refine mr_iload_n (pc' := 51) dX11_hour_50 rfl rfl ?_
            obtain ⟨q24, g25, h26⟩ := Option.bind_eq_some_iff.mp h23
            refine mr_cv (pc' := 54) (a := 145) (d1 := 2) dX11_hour_51 rfl rfl rfl rfl rfl rfl (by decide) rfl (by decide) (ok_X11_nextStair hR  g25) ?_
            show mr X _ _ 54 _ [.int q24] (MM RR q10.2) _
            refine mr_goto (t := 59) dX11_hour_54 (by decide) ?_
            refine mr_istore (pc' := 61) (lv' := [(4, .int q24), (3, .int q10.1), (0, .ref 145), (1, .int p1), (2, .int p2)]) dX11_hour_59 rfl (by decide) rfl ?_
            refine mr_iload (pc' := 63) dX11_hour_61 rfl rfl ?_
            by_cases c27 : q24 < (0 : Int32)
            · rw [if_pos c27] at h26
              refine mr_if_lt_t (t := 73) dX11_hour_63 (by decide) c27 ?_
              refine mr_iinc (pc' := 76) (x' := (p2 + (1 : Int32))) (lv' := [(2, .int (p2 + (1 : Int32))), (4, .int q24), (3, .int q10.1), (0, .ref 145), (1, .int p1)]) dX11_hour_73 rfl (by decide) rfl rfl rfl ?_
              refine mr_goto (t := 2) dX11_hour_76 (by decide) ?_
              exact mr_sub [(0, .ref 145), (1, .int p1), (2, .int (p2 + (1 : Int32)))] ⟨rfl, rfl, rfl, trivial⟩ rfl (ih _ _  h26)
            · rw [if_neg c27] at h26
              refine mr_if_lt_f (t := 73) (pc' := 66) dX11_hour_63 (by decide) rfl c27 ?_
              refine mr_aload_n (pc' := 67) dX11_hour_66 rfl rfl ?_
              refine mr_iload_n (pc' := 68) dX11_hour_67 rfl rfl ?_
              refine mr_iload (pc' := 70) dX11_hour_68 rfl rfl ?_
              obtain ⟨q28, g29, h30⟩ := Option.bind_eq_some_iff.mp h26
              refine mr_cv (pc' := 73) (a := 145) (d1 := 2) dX11_hour_70 rfl rfl rfl rfl rfl rfl (by decide) rfl (by decide) (ok_X11_setsOff hR  g29) ?_
              show mr X _ _ 73 _ [] (MM RR q28) _
              refine mr_iinc (pc' := 76) (x' := (p2 + (1 : Int32))) (lv' := [(2, .int (p2 + (1 : Int32))), (4, .int q24), (3, .int q10.1), (0, .ref 145), (1, .int p1)]) dX11_hour_73 rfl (by decide) rfl rfl rfl ?_
              refine mr_goto (t := 2) dX11_hour_76 (by decide) ?_
              exact mr_sub [(0, .ref 145), (1, .int p1), (2, .int (p2 + (1 : Int32)))] ⟨rfl, rfl, rfl, trivial⟩ rfl (ih _ _  h30)
        · rw [if_neg c9] at h8
          refine mr_if_ge_f (t := 28) (pc' := 25) dX11_hour_22 (by decide) rfl c9 ?_
          refine mr_goto (t := 73) dX11_hour_25 (by decide) ?_
          refine mr_iinc (pc' := 76) (x' := (p2 + (1 : Int32))) (lv' := [(2, .int (p2 + (1 : Int32))), (0, .ref 145), (1, .int p1)]) dX11_hour_73 rfl (by decide) rfl rfl rfl ?_
          refine mr_goto (t := 2) dX11_hour_76 (by decide) ?_
          exact mr_sub [(0, .ref 145), (1, .int p1), (2, .int (p2 + (1 : Int32)))] ⟨rfl, rfl, rfl, trivial⟩ rfl (ih _ _  h8)
def f_X11_hour (v1 : Int32) (S : fS) : Option (fS) :=
  lp_X11_hour_2 v1 (fun S31 => (f_X11_ageAll  S31).bind fun q33 =>
  some q33) FU (0 : Int32) S
set_option maxHeartbeats 4000000 in
set_option maxRecDepth 100000 in
theorem ok_X11_hour {X : mm_C} {RR : Nat → Nat → Option Nat} (hR : RRok RR) {v1 : Int32}  {S : fS} {r : fS} (h : f_X11_hour v1 S = some r) : mr X 4 mY_X11_hour 0 (lv_args 0 [.ref 145, .int v1]) [] (MM RR S) (none, MM RR r) := by
  unfold f_X11_hour at h
  show mr X _ _ 0 [(0, .ref 145), (1, .int v1)] [] (MM RR S) _
  refine mr_iconst (pc' := 1) (v := (0 : Int32)) dX11_hour_0 rfl (by decide) ?_
  refine mr_istore_n (pc' := 2) (lv' := [(2, .int (0 : Int32)), (0, .ref 145), (1, .int v1)]) dX11_hour_1 rfl (by decide) rfl ?_
  refine mr_sub [(0, .ref 145), (1, .int v1), (2, .int (0 : Int32))] ⟨rfl, rfl, rfl, trivial⟩ rfl ?_
  refine ok_lp_X11_hour_2 hR  (fun S31 h32 => ?_) FU _ _  h
  refine mr_aload_n (pc' := 80) dX11_hour_79 rfl rfl ?_
  obtain ⟨q33, g34, h35⟩ := Option.bind_eq_some_iff.mp h32
  refine mr_cv (pc' := 83) (a := 145) (d1 := 2) dX11_hour_80 rfl rfl rfl rfl rfl rfl (by decide) rfl (by decide) (ok_X11_ageAll hR  g34) ?_
  show mr X _ _ 83 _ [] (MM RR q33) _
  obtain rfl := Option.some.inj h35
  exact mr_return dX11_hour_83 rfl
def lp_X11_tick_43 (p1 : Int32) (p2 : Int32) (K : fS → Option (Int32 × fS)) : Nat → Int32 → fS → Option (Int32 × fS)
  | 0, _, _ => none
  | n + 1, p3, S0 =>
    if p2 ≤ p3 then (K S0) else
    ((f_X11_hour p1 S0).bind fun q11 =>
    lp_X11_tick_43 p1 p2 K n (p3 + (1 : Int32)) q11)
set_option maxHeartbeats 4000000 in
set_option maxRecDepth 100000 in
theorem ok_lp_X11_tick_43 {X : mm_C} {RR : Nat → Nat → Option Nat} (hR : RRok RR) {p1 : Int32} {p2 : Int32}  {K : fS → Option (Int32 × fS)} {r : Int32 × fS} (hK : ∀ (Sk : fS), K Sk = some r → mr X 5 mY_X11_tick 59 [(0, .ref 145)] [] (MM RR Sk) (some (.int r.1), MM RR r.2)) : ∀ (n : Nat) (p3 : Int32) (S0 : fS), lp_X11_tick_43 p1 p2 K n p3 S0 = some r → mr X 5 mY_X11_tick 43 [(0, .ref 145), (1, .int p1), (2, .int p2), (3, .int p3)] [] (MM RR S0) (some (.int r.1), MM RR r.2) := by
  intro n
  induction n with
  | zero => intro p3 S0 h; exact mm_no h
  | succ n ih =>
    intro p3 S0 h
    unfold lp_X11_tick_43 at h
    refine mr_iload_n (pc' := 44) dX11_tick_43 rfl rfl ?_
    refine mr_iload_n (pc' := 45) dX11_tick_44 rfl rfl ?_
    by_cases c10 : p2 ≤ p3
    · rw [if_pos c10] at h
      refine mr_icmp_ge_t (t := 59) dX11_tick_45 (by decide) c10 ?_
      exact mr_sub [(0, .ref 145)] ⟨rfl, trivial⟩ rfl (hK _  h)
    · rw [if_neg c10] at h
      refine mr_icmp_ge_f (t := 59) (pc' := 48) dX11_tick_45 (by decide) rfl c10 ?_
      refine mr_aload_n (pc' := 49) dX11_tick_48 rfl rfl ?_
      refine mr_iload_n (pc' := 50) dX11_tick_49 rfl rfl ?_
      obtain ⟨q11, g12, h13⟩ := Option.bind_eq_some_iff.mp h
      refine mr_cv (pc' := 53) (a := 145) (d1 := 4) dX11_tick_50 rfl rfl rfl rfl rfl rfl (by decide) rfl (by decide) (ok_X11_hour hR  g12) ?_
      show mr X _ _ 53 _ [] (MM RR q11) _
      refine mr_iinc (pc' := 56) (x' := (p3 + (1 : Int32))) (lv' := [(3, .int (p3 + (1 : Int32))), (0, .ref 145), (1, .int p1), (2, .int p2)]) dX11_tick_53 rfl (by decide) rfl rfl rfl ?_
      refine mr_goto (t := 43) dX11_tick_56 (by decide) ?_
      exact mr_sub [(0, .ref 145), (1, .int p1), (2, .int p2), (3, .int (p3 + (1 : Int32)))] ⟨rfl, rfl, rfl, rfl, trivial⟩ rfl (ih _ _  h13)
def f_X11_tick (v1 : Int32) (v2 : Int32) (S : fS) : Option (Int32 × fS) :=
  if v1 = (-1 : Int32) then ((f_X11_in (Int32.toInt64 v2) (1 : Int64) (200 : Int64) S).bind fun q2 =>
  if q2 = (0 : Int32) then (some ((-1 : Int32), S)) else
  ((gI S 157 158 (3 : Int32)).bind fun a6 =>
  if (a6 + v2) ≤ (9999 : Int32) then (lp_X11_tick_43 v1 v2 (fun S14 => (gI S14 157 158 (3 : Int32)).bind fun a16 =>
  some (a16, S14)) FU (0 : Int32) S) else
  (some ((-1 : Int32), S)))) else
  ((f_X11_isRule v1 S).bind fun q19 =>
  if q19 = (0 : Int32) then (some ((-1 : Int32), S)) else
  ((f_X11_in (Int32.toInt64 v2) (1 : Int64) (200 : Int64) S).bind fun q23 =>
  if q23 = (0 : Int32) then (some ((-1 : Int32), S)) else
  ((gI S 157 158 (3 : Int32)).bind fun a27 =>
  if (a27 + v2) ≤ (9999 : Int32) then (lp_X11_tick_43 v1 v2 (fun S31 => (gI S31 157 158 (3 : Int32)).bind fun a33 =>
  some (a33, S31)) FU (0 : Int32) S) else
  (some ((-1 : Int32), S)))))
set_option maxHeartbeats 4000000 in
set_option maxRecDepth 100000 in
theorem ok_X11_tick {X : mm_C} {RR : Nat → Nat → Option Nat} (hR : RRok RR) {v1 : Int32} {v2 : Int32}  {S : fS} {r : Int32 × fS} (h : f_X11_tick v1 v2 S = some r) : mr X 5 mY_X11_tick 0 (lv_args 0 [.ref 145, .int v1, .int v2]) [] (MM RR S) (some (.int r.1), MM RR r.2) := by
  unfold f_X11_tick at h
  show mr X _ _ 0 [(0, .ref 145), (1, .int v1), (2, .int v2)] [] (MM RR S) _
  refine mr_iload_n (pc' := 1) dX11_tick_0 rfl rfl ?_
  refine mr_iconst (pc' := 2) (v := (-1 : Int32)) dX11_tick_1 rfl (by decide) ?_
  by_cases c1 : v1 = (-1 : Int32)
  · rw [if_pos c1] at h
    refine mr_icmp_eq_t (t := 13) dX11_tick_2 (by decide) c1 ?_
    refine mr_iload_n (pc' := 14) dX11_tick_13 rfl rfl ?_
    refine mr_i2l (pc' := 15) dX11_tick_14 rfl ?_
    refine mr_lconst (pc' := 16) (v := (1 : Int64)) dX11_tick_15 rfl (by decide) ?_
    refine mr_ldc2 (pc' := 19) (v := (200 : Int64)) dX11_tick_16 rfl rfl ?_
    obtain ⟨q2, g3, h4⟩ := Option.bind_eq_some_iff.mp h
    refine mr_cs (pc' := 22) (d1 := 0) dX11_tick_19 rfl rfl rfl rfl (by decide) (Nat.le_of_ble_eq_true rfl) rfl rfl rfl (by decide) (ok_X11_in hR  g3) ?_
    show mr X _ _ 22 _ [.int q2] (MM RR S) _
    by_cases c5 : q2 = (0 : Int32)
    · rw [if_pos c5] at h4
      refine mr_if_eq_t (t := 39) dX11_tick_22 (by decide) c5 ?_
      refine mr_iconst (pc' := 40) (v := (-1 : Int32)) dX11_tick_39 rfl (by decide) ?_
      obtain rfl := Option.some.inj h4
      exact mr_ireturn dX11_tick_40 rfl
    · rw [if_neg c5] at h4
      refine mr_if_eq_f (t := 39) (pc' := 25) dX11_tick_22 (by decide) rfl c5 ?_
      refine mr_aload_n (pc' := 26) dX11_tick_25 rfl rfl ?_
      refine mr_getR (pc' := 29) (ci := 11) (j := 25) (b := 157) hR dX11_tick_26 rfl rfl rfl (by decide) (by decide) (by decide) rfl rfl ?_
      refine mr_iconst (pc' := 30) (v := (3 : Int32)) dX11_tick_29 rfl (by decide) ?_
      obtain ⟨a6, g7, h8⟩ := Option.bind_eq_some_iff.mp h4
      refine mr_iald (pc' := 31) dX11_tick_30 rfl rfl rfl g7 ?_
      refine mr_iload_n (pc' := 32) dX11_tick_31 rfl rfl ?_
      refine mr_iadd (pc' := 33) dX11_tick_32 rfl ?_
      refine mr_sipush (pc' := 36) (v := (9999 : Int32)) dX11_tick_33 rfl (by decide) ?_
      by_cases c9 : (a6 + v2) ≤ (9999 : Int32)
      · rw [if_pos c9] at h8
        refine mr_icmp_le_t (t := 41) dX11_tick_36 (by decide) c9 ?_
        refine mr_iconst (pc' := 42) (v := (0 : Int32)) dX11_tick_41 rfl (by decide) ?_
        refine mr_istore_n (pc' := 43) (lv' := [(3, .int (0 : Int32)), (0, .ref 145), (1, .int v1), (2, .int v2)]) dX11_tick_42 rfl (by decide) rfl ?_
        refine mr_sub [(0, .ref 145), (1, .int v1), (2, .int v2), (3, .int (0 : Int32))] ⟨rfl, rfl, rfl, rfl, trivial⟩ rfl ?_
        refine ok_lp_X11_tick_43 hR  (fun S14 h15 => ?_) FU _ _  h8
        refine mr_aload_n (pc' := 60) dX11_tick_59 rfl rfl ?_
        refine mr_getR (pc' := 63) (ci := 11) (j := 25) (b := 157) hR dX11_tick_60 rfl rfl rfl (by decide) (by decide) (by decide) rfl rfl ?_
        refine mr_iconst (pc' := 64) (v := (3 : Int32)) dX11_tick_63 rfl (by decide) ?_
        obtain ⟨a16, g17, h18⟩ := Option.bind_eq_some_iff.mp h15
        refine mr_iald (pc' := 65) dX11_tick_64 rfl rfl rfl g17 ?_
        obtain rfl := Option.some.inj h18
        exact mr_ireturn dX11_tick_65 rfl
      · rw [if_neg c9] at h8
        refine mr_icmp_le_f (t := 41) (pc' := 39) dX11_tick_36 (by decide) rfl c9 ?_
        refine mr_iconst (pc' := 40) (v := (-1 : Int32)) dX11_tick_39 rfl (by decide) ?_
        obtain rfl := Option.some.inj h8
        exact mr_ireturn dX11_tick_40 rfl
  · rw [if_neg c1] at h
    refine mr_icmp_eq_f (t := 13) (pc' := 5) dX11_tick_2 (by decide) rfl c1 ?_
    refine mr_aload_n (pc' := 6) dX11_tick_5 rfl rfl ?_
    refine mr_iload_n (pc' := 7) dX11_tick_6 rfl rfl ?_
    obtain ⟨q19, g20, h21⟩ := Option.bind_eq_some_iff.mp h
    refine mr_cv (pc' := 10) (a := 145) (d1 := 0) dX11_tick_7 rfl rfl rfl rfl rfl rfl (by decide) rfl (by decide) (ok_X11_isRule hR  g20) ?_
    show mr X _ _ 10 _ [.int q19] (MM RR S) _
    by_cases c22 : q19 = (0 : Int32)
    · rw [if_pos c22] at h21
      refine mr_if_eq_t (t := 39) dX11_tick_10 (by decide) c22 ?_
      refine mr_iconst (pc' := 40) (v := (-1 : Int32)) dX11_tick_39 rfl (by decide) ?_
      obtain rfl := Option.some.inj h21
      exact mr_ireturn dX11_tick_40 rfl
    · rw [if_neg c22] at h21
      refine mr_if_eq_f (t := 39) (pc' := 13) dX11_tick_10 (by decide) rfl c22 ?_
      refine mr_iload_n (pc' := 14) dX11_tick_13 rfl rfl ?_
      refine mr_i2l (pc' := 15) dX11_tick_14 rfl ?_
      refine mr_lconst (pc' := 16) (v := (1 : Int64)) dX11_tick_15 rfl (by decide) ?_
      refine mr_ldc2 (pc' := 19) (v := (200 : Int64)) dX11_tick_16 rfl rfl ?_
      obtain ⟨q23, g24, h25⟩ := Option.bind_eq_some_iff.mp h21
      refine mr_cs (pc' := 22) (d1 := 0) dX11_tick_19 rfl rfl rfl rfl (by decide) (Nat.le_of_ble_eq_true rfl) rfl rfl rfl (by decide) (ok_X11_in hR  g24) ?_
      show mr X _ _ 22 _ [.int q23] (MM RR S) _
      by_cases c26 : q23 = (0 : Int32)
      · rw [if_pos c26] at h25
        refine mr_if_eq_t (t := 39) dX11_tick_22 (by decide) c26 ?_
        refine mr_iconst (pc' := 40) (v := (-1 : Int32)) dX11_tick_39 rfl (by decide) ?_
        obtain rfl := Option.some.inj h25
        exact mr_ireturn dX11_tick_40 rfl
      · rw [if_neg c26] at h25
        refine mr_if_eq_f (t := 39) (pc' := 25) dX11_tick_22 (by decide) rfl c26 ?_
        refine mr_aload_n (pc' := 26) dX11_tick_25 rfl rfl ?_
        refine mr_getR (pc' := 29) (ci := 11) (j := 25) (b := 157) hR dX11_tick_26 rfl rfl rfl (by decide) (by decide) (by decide) rfl rfl ?_
        refine mr_iconst (pc' := 30) (v := (3 : Int32)) dX11_tick_29 rfl (by decide) ?_
        obtain ⟨a27, g28, h29⟩ := Option.bind_eq_some_iff.mp h25
        refine mr_iald (pc' := 31) dX11_tick_30 rfl rfl rfl g28 ?_
        refine mr_iload_n (pc' := 32) dX11_tick_31 rfl rfl ?_
        refine mr_iadd (pc' := 33) dX11_tick_32 rfl ?_
        refine mr_sipush (pc' := 36) (v := (9999 : Int32)) dX11_tick_33 rfl (by decide) ?_
        by_cases c30 : (a27 + v2) ≤ (9999 : Int32)
        · rw [if_pos c30] at h29
          refine mr_icmp_le_t (t := 41) dX11_tick_36 (by decide) c30 ?_
          refine mr_iconst (pc' := 42) (v := (0 : Int32)) dX11_tick_41 rfl (by decide) ?_
          refine mr_istore_n (pc' := 43) (lv' := [(3, .int (0 : Int32)), (0, .ref 145), (1, .int v1), (2, .int v2)]) dX11_tick_42 rfl (by decide) rfl ?_
          refine mr_sub [(0, .ref 145), (1, .int v1), (2, .int v2), (3, .int (0 : Int32))] ⟨rfl, rfl, rfl, rfl, trivial⟩ rfl ?_
          refine ok_lp_X11_tick_43 hR  (fun S31 h32 => ?_) FU _ _  h29
          refine mr_aload_n (pc' := 60) dX11_tick_59 rfl rfl ?_
          refine mr_getR (pc' := 63) (ci := 11) (j := 25) (b := 157) hR dX11_tick_60 rfl rfl rfl (by decide) (by decide) (by decide) rfl rfl ?_
          refine mr_iconst (pc' := 64) (v := (3 : Int32)) dX11_tick_63 rfl (by decide) ?_
          obtain ⟨a33, g34, h35⟩ := Option.bind_eq_some_iff.mp h32
          refine mr_iald (pc' := 65) dX11_tick_64 rfl rfl rfl g34 ?_
          obtain rfl := Option.some.inj h35
          exact mr_ireturn dX11_tick_65 rfl
        · rw [if_neg c30] at h29
          refine mr_icmp_le_f (t := 41) (pc' := 39) dX11_tick_36 (by decide) rfl c30 ?_
          refine mr_iconst (pc' := 40) (v := (-1 : Int32)) dX11_tick_39 rfl (by decide) ?_
          obtain rfl := Option.some.inj h29
          exact mr_ireturn dX11_tick_40 rfl
def lp_X11_keeps_2  (K : fS → Option (fS)) : Nat → Int32 → fS → Option (fS)
  | 0, _, _ => none
  | n + 1, p1, S0 =>
    if (158 : Int32) ≤ p1 then (K S0) else
    ((gI S0 157 158 p1).bind fun a2 =>
    (sI S0 159 158 p1 a2).bind fun S5 =>
    lp_X11_keeps_2  K n (p1 + (1 : Int32)) S5)
set_option maxHeartbeats 4000000 in
set_option maxRecDepth 100000 in
theorem ok_lp_X11_keeps_2 {X : mm_C} {RR : Nat → Nat → Option Nat} (hR : RRok RR)   {K : fS → Option (fS)} {r : fS} (hK : ∀ (Sk : fS), K Sk = some r → mr X 0 mY_X11_keeps 27 [(0, .ref 145)] [] (MM RR Sk) (none, MM RR r)) : ∀ (n : Nat) (p1 : Int32) (S0 : fS), lp_X11_keeps_2  K n p1 S0 = some r → mr X 0 mY_X11_keeps 2 [(0, .ref 145), (1, .int p1)] [] (MM RR S0) (none, MM RR r) := by
  intro n
  induction n with
  | zero => intro p1 S0 h; exact mm_no h
  | succ n ih =>
    intro p1 S0 h
    unfold lp_X11_keeps_2 at h
    refine mr_iload_n (pc' := 3) dX11_keeps_2 rfl rfl ?_
    refine mr_sipush (pc' := 6) (v := (158 : Int32)) dX11_keeps_3 rfl (by decide) ?_
    by_cases c1 : (158 : Int32) ≤ p1
    · rw [if_pos c1] at h
      refine mr_icmp_ge_t (t := 27) dX11_keeps_6 (by decide) c1 ?_
      exact mr_sub [(0, .ref 145)] ⟨rfl, trivial⟩ rfl (hK _  h)
    · rw [if_neg c1] at h
      refine mr_icmp_ge_f (t := 27) (pc' := 9) dX11_keeps_6 (by decide) rfl c1 ?_
      refine mr_aload_n (pc' := 10) dX11_keeps_9 rfl rfl ?_
      refine mr_getR (pc' := 13) (ci := 11) (j := 27) (b := 159) hR dX11_keeps_10 rfl rfl rfl (by decide) (by decide) (by decide) rfl rfl ?_
      refine mr_iload_n (pc' := 14) dX11_keeps_13 rfl rfl ?_
      refine mr_aload_n (pc' := 15) dX11_keeps_14 rfl rfl ?_
      refine mr_getR (pc' := 18) (ci := 11) (j := 25) (b := 157) hR dX11_keeps_15 rfl rfl rfl (by decide) (by decide) (by decide) rfl rfl ?_
      refine mr_iload_n (pc' := 19) dX11_keeps_18 rfl rfl ?_
      obtain ⟨a2, g3, h4⟩ := Option.bind_eq_some_iff.mp h
      refine mr_iald (pc' := 20) dX11_keeps_19 rfl rfl rfl g3 ?_
      obtain ⟨S5, g6, h7⟩ := Option.bind_eq_some_iff.mp h4
      refine mr_iast (pc' := 21) dX11_keeps_20 rfl rfl rfl g6 ?_
      refine mr_iinc (pc' := 24) (x' := (p1 + (1 : Int32))) (lv' := [(1, .int (p1 + (1 : Int32))), (0, .ref 145)]) dX11_keeps_21 rfl (by decide) rfl rfl rfl ?_
      refine mr_goto (t := 2) dX11_keeps_24 (by decide) ?_
      exact mr_sub [(0, .ref 145), (1, .int (p1 + (1 : Int32)))] ⟨rfl, rfl, trivial⟩ rfl (ih _ _  h7)
def lp_X11_keeps_29  (K : fS → Option (fS)) : Nat → Int32 → fS → Option (fS)
  | 0, _, _ => none
  | n + 1, p1, S0 =>
    if (8 : Int32) ≤ p1 then (K S0) else
    ((gL S0 158 8 p1).bind fun a11 =>
    (sL S0 160 8 p1 a11).bind fun S14 =>
    lp_X11_keeps_29  K n (p1 + (1 : Int32)) S14)
set_option maxHeartbeats 4000000 in
set_option maxRecDepth 100000 in
theorem ok_lp_X11_keeps_29 {X : mm_C} {RR : Nat → Nat → Option Nat} (hR : RRok RR)   {K : fS → Option (fS)} {r : fS} (hK : ∀ (Sk : fS), K Sk = some r → mr X 0 mY_X11_keeps 53 [] [] (MM RR Sk) (none, MM RR r)) : ∀ (n : Nat) (p1 : Int32) (S0 : fS), lp_X11_keeps_29  K n p1 S0 = some r → mr X 0 mY_X11_keeps 29 [(0, .ref 145), (1, .int p1)] [] (MM RR S0) (none, MM RR r) := by
  intro n
  induction n with
  | zero => intro p1 S0 h; exact mm_no h
  | succ n ih =>
    intro p1 S0 h
    unfold lp_X11_keeps_29 at h
    refine mr_iload_n (pc' := 30) dX11_keeps_29 rfl rfl ?_
    refine mr_bipush (pc' := 32) (v := (8 : Int32)) dX11_keeps_30 rfl (by decide) ?_
    by_cases c10 : (8 : Int32) ≤ p1
    · rw [if_pos c10] at h
      refine mr_icmp_ge_t (t := 53) dX11_keeps_32 (by decide) c10 ?_
      exact mr_sub [] trivial rfl (hK _  h)
    · rw [if_neg c10] at h
      refine mr_icmp_ge_f (t := 53) (pc' := 35) dX11_keeps_32 (by decide) rfl c10 ?_
      refine mr_aload_n (pc' := 36) dX11_keeps_35 rfl rfl ?_
      refine mr_getR (pc' := 39) (ci := 11) (j := 28) (b := 160) hR dX11_keeps_36 rfl rfl rfl (by decide) (by decide) (by decide) rfl rfl ?_
      refine mr_iload_n (pc' := 40) dX11_keeps_39 rfl rfl ?_
      refine mr_aload_n (pc' := 41) dX11_keeps_40 rfl rfl ?_
      refine mr_getR (pc' := 44) (ci := 11) (j := 26) (b := 158) hR dX11_keeps_41 rfl rfl rfl (by decide) (by decide) (by decide) rfl rfl ?_
      refine mr_iload_n (pc' := 45) dX11_keeps_44 rfl rfl ?_
      obtain ⟨a11, g12, h13⟩ := Option.bind_eq_some_iff.mp h
      refine mr_lald (pc' := 46) dX11_keeps_45 rfl rfl rfl g12 ?_
      obtain ⟨S14, g15, h16⟩ := Option.bind_eq_some_iff.mp h13
      refine mr_last (pc' := 47) dX11_keeps_46 rfl rfl rfl g15 ?_
      refine mr_iinc (pc' := 50) (x' := (p1 + (1 : Int32))) (lv' := [(1, .int (p1 + (1 : Int32))), (0, .ref 145)]) dX11_keeps_47 rfl (by decide) rfl rfl rfl ?_
      refine mr_goto (t := 29) dX11_keeps_50 (by decide) ?_
      exact mr_sub [(0, .ref 145), (1, .int (p1 + (1 : Int32)))] ⟨rfl, rfl, trivial⟩ rfl (ih _ _  h16)
def f_X11_keeps  (S : fS) : Option (fS) :=
  lp_X11_keeps_2  (fun S8 => lp_X11_keeps_29  (fun S17 => some S17) FU (0 : Int32) S8) FU (0 : Int32) S
set_option maxHeartbeats 4000000 in
set_option maxRecDepth 100000 in
theorem ok_X11_keeps {X : mm_C} {RR : Nat → Nat → Option Nat} (hR : RRok RR)   {S : fS} {r : fS} (h : f_X11_keeps  S = some r) : mr X 0 mY_X11_keeps 0 (lv_args 0 [.ref 145]) [] (MM RR S) (none, MM RR r) := by
  unfold f_X11_keeps at h
  show mr X _ _ 0 [(0, .ref 145)] [] (MM RR S) _
  refine mr_iconst (pc' := 1) (v := (0 : Int32)) dX11_keeps_0 rfl (by decide) ?_
  refine mr_istore_n (pc' := 2) (lv' := [(1, .int (0 : Int32)), (0, .ref 145)]) dX11_keeps_1 rfl (by decide) rfl ?_
  refine mr_sub [(0, .ref 145), (1, .int (0 : Int32))] ⟨rfl, rfl, trivial⟩ rfl ?_
  refine ok_lp_X11_keeps_2 hR  (fun S8 h9 => ?_) FU _ _  h
  refine mr_iconst (pc' := 28) (v := (0 : Int32)) dX11_keeps_27 rfl (by decide) ?_
  refine mr_istore_n (pc' := 29) (lv' := [(1, .int (0 : Int32)), (0, .ref 145)]) dX11_keeps_28 rfl (by decide) rfl ?_
  refine mr_sub [(0, .ref 145), (1, .int (0 : Int32))] ⟨rfl, rfl, trivial⟩ rfl ?_
  refine ok_lp_X11_keeps_29 hR  (fun S17 h18 => ?_) FU _ _  h9
  obtain rfl := Option.some.inj h18
  exact mr_return dX11_keeps_53 rfl
def lp_X11_putsBack_2  (K : fS → Option (fS)) : Nat → Int32 → fS → Option (fS)
  | 0, _, _ => none
  | n + 1, p1, S0 =>
    if (158 : Int32) ≤ p1 then (K S0) else
    ((gI S0 159 158 p1).bind fun a2 =>
    (sI S0 157 158 p1 a2).bind fun S5 =>
    lp_X11_putsBack_2  K n (p1 + (1 : Int32)) S5)
set_option maxHeartbeats 4000000 in
set_option maxRecDepth 100000 in
theorem ok_lp_X11_putsBack_2 {X : mm_C} {RR : Nat → Nat → Option Nat} (hR : RRok RR)   {K : fS → Option (fS)} {r : fS} (hK : ∀ (Sk : fS), K Sk = some r → mr X 0 mY_X11_putsBack 27 [(0, .ref 145)] [] (MM RR Sk) (none, MM RR r)) : ∀ (n : Nat) (p1 : Int32) (S0 : fS), lp_X11_putsBack_2  K n p1 S0 = some r → mr X 0 mY_X11_putsBack 2 [(0, .ref 145), (1, .int p1)] [] (MM RR S0) (none, MM RR r) := by
  intro n
  induction n with
  | zero => intro p1 S0 h; exact mm_no h
  | succ n ih =>
    intro p1 S0 h
    unfold lp_X11_putsBack_2 at h
    refine mr_iload_n (pc' := 3) dX11_putsBack_2 rfl rfl ?_
    refine mr_sipush (pc' := 6) (v := (158 : Int32)) dX11_putsBack_3 rfl (by decide) ?_
    by_cases c1 : (158 : Int32) ≤ p1
    · rw [if_pos c1] at h
      refine mr_icmp_ge_t (t := 27) dX11_putsBack_6 (by decide) c1 ?_
      exact mr_sub [(0, .ref 145)] ⟨rfl, trivial⟩ rfl (hK _  h)
    · rw [if_neg c1] at h
      refine mr_icmp_ge_f (t := 27) (pc' := 9) dX11_putsBack_6 (by decide) rfl c1 ?_
      refine mr_aload_n (pc' := 10) dX11_putsBack_9 rfl rfl ?_
      refine mr_getR (pc' := 13) (ci := 11) (j := 25) (b := 157) hR dX11_putsBack_10 rfl rfl rfl (by decide) (by decide) (by decide) rfl rfl ?_
      refine mr_iload_n (pc' := 14) dX11_putsBack_13 rfl rfl ?_
      refine mr_aload_n (pc' := 15) dX11_putsBack_14 rfl rfl ?_
      refine mr_getR (pc' := 18) (ci := 11) (j := 27) (b := 159) hR dX11_putsBack_15 rfl rfl rfl (by decide) (by decide) (by decide) rfl rfl ?_
      refine mr_iload_n (pc' := 19) dX11_putsBack_18 rfl rfl ?_
      obtain ⟨a2, g3, h4⟩ := Option.bind_eq_some_iff.mp h
      refine mr_iald (pc' := 20) dX11_putsBack_19 rfl rfl rfl g3 ?_
      obtain ⟨S5, g6, h7⟩ := Option.bind_eq_some_iff.mp h4
      refine mr_iast (pc' := 21) dX11_putsBack_20 rfl rfl rfl g6 ?_
      refine mr_iinc (pc' := 24) (x' := (p1 + (1 : Int32))) (lv' := [(1, .int (p1 + (1 : Int32))), (0, .ref 145)]) dX11_putsBack_21 rfl (by decide) rfl rfl rfl ?_
      refine mr_goto (t := 2) dX11_putsBack_24 (by decide) ?_
      exact mr_sub [(0, .ref 145), (1, .int (p1 + (1 : Int32)))] ⟨rfl, rfl, trivial⟩ rfl (ih _ _  h7)
def lp_X11_putsBack_29  (K : fS → Option (fS)) : Nat → Int32 → fS → Option (fS)
  | 0, _, _ => none
  | n + 1, p1, S0 =>
    if (8 : Int32) ≤ p1 then (K S0) else
    ((gL S0 160 8 p1).bind fun a11 =>
    (sL S0 158 8 p1 a11).bind fun S14 =>
    lp_X11_putsBack_29  K n (p1 + (1 : Int32)) S14)
set_option maxHeartbeats 4000000 in
set_option maxRecDepth 100000 in
theorem ok_lp_X11_putsBack_29 {X : mm_C} {RR : Nat → Nat → Option Nat} (hR : RRok RR)   {K : fS → Option (fS)} {r : fS} (hK : ∀ (Sk : fS), K Sk = some r → mr X 0 mY_X11_putsBack 53 [] [] (MM RR Sk) (none, MM RR r)) : ∀ (n : Nat) (p1 : Int32) (S0 : fS), lp_X11_putsBack_29  K n p1 S0 = some r → mr X 0 mY_X11_putsBack 29 [(0, .ref 145), (1, .int p1)] [] (MM RR S0) (none, MM RR r) := by
  intro n
  induction n with
  | zero => intro p1 S0 h; exact mm_no h
  | succ n ih =>
    intro p1 S0 h
    unfold lp_X11_putsBack_29 at h
    refine mr_iload_n (pc' := 30) dX11_putsBack_29 rfl rfl ?_
    refine mr_bipush (pc' := 32) (v := (8 : Int32)) dX11_putsBack_30 rfl (by decide) ?_
    by_cases c10 : (8 : Int32) ≤ p1
    · rw [if_pos c10] at h
      refine mr_icmp_ge_t (t := 53) dX11_putsBack_32 (by decide) c10 ?_
      exact mr_sub [] trivial rfl (hK _  h)
    · rw [if_neg c10] at h
      refine mr_icmp_ge_f (t := 53) (pc' := 35) dX11_putsBack_32 (by decide) rfl c10 ?_
      refine mr_aload_n (pc' := 36) dX11_putsBack_35 rfl rfl ?_
      refine mr_getR (pc' := 39) (ci := 11) (j := 26) (b := 158) hR dX11_putsBack_36 rfl rfl rfl (by decide) (by decide) (by decide) rfl rfl ?_
      refine mr_iload_n (pc' := 40) dX11_putsBack_39 rfl rfl ?_
      refine mr_aload_n (pc' := 41) dX11_putsBack_40 rfl rfl ?_
      refine mr_getR (pc' := 44) (ci := 11) (j := 28) (b := 160) hR dX11_putsBack_41 rfl rfl rfl (by decide) (by decide) (by decide) rfl rfl ?_
      refine mr_iload_n (pc' := 45) dX11_putsBack_44 rfl rfl ?_
      obtain ⟨a11, g12, h13⟩ := Option.bind_eq_some_iff.mp h
      refine mr_lald (pc' := 46) dX11_putsBack_45 rfl rfl rfl g12 ?_
      obtain ⟨S14, g15, h16⟩ := Option.bind_eq_some_iff.mp h13
      refine mr_last (pc' := 47) dX11_putsBack_46 rfl rfl rfl g15 ?_
      refine mr_iinc (pc' := 50) (x' := (p1 + (1 : Int32))) (lv' := [(1, .int (p1 + (1 : Int32))), (0, .ref 145)]) dX11_putsBack_47 rfl (by decide) rfl rfl rfl ?_
      refine mr_goto (t := 29) dX11_putsBack_50 (by decide) ?_
      exact mr_sub [(0, .ref 145), (1, .int (p1 + (1 : Int32)))] ⟨rfl, rfl, trivial⟩ rfl (ih _ _  h16)
def f_X11_putsBack  (S : fS) : Option (fS) :=
  lp_X11_putsBack_2  (fun S8 => lp_X11_putsBack_29  (fun S17 => some S17) FU (0 : Int32) S8) FU (0 : Int32) S
set_option maxHeartbeats 4000000 in
set_option maxRecDepth 100000 in
theorem ok_X11_putsBack {X : mm_C} {RR : Nat → Nat → Option Nat} (hR : RRok RR)   {S : fS} {r : fS} (h : f_X11_putsBack  S = some r) : mr X 0 mY_X11_putsBack 0 (lv_args 0 [.ref 145]) [] (MM RR S) (none, MM RR r) := by
  unfold f_X11_putsBack at h
  show mr X _ _ 0 [(0, .ref 145)] [] (MM RR S) _
  refine mr_iconst (pc' := 1) (v := (0 : Int32)) dX11_putsBack_0 rfl (by decide) ?_
  refine mr_istore_n (pc' := 2) (lv' := [(1, .int (0 : Int32)), (0, .ref 145)]) dX11_putsBack_1 rfl (by decide) rfl ?_
  refine mr_sub [(0, .ref 145), (1, .int (0 : Int32))] ⟨rfl, rfl, trivial⟩ rfl ?_
  refine ok_lp_X11_putsBack_2 hR  (fun S8 h9 => ?_) FU _ _  h
  refine mr_iconst (pc' := 28) (v := (0 : Int32)) dX11_putsBack_27 rfl (by decide) ?_
  refine mr_istore_n (pc' := 29) (lv' := [(1, .int (0 : Int32)), (0, .ref 145)]) dX11_putsBack_28 rfl (by decide) rfl ?_
  refine mr_sub [(0, .ref 145), (1, .int (0 : Int32))] ⟨rfl, rfl, trivial⟩ rfl ?_
  refine ok_lp_X11_putsBack_29 hR  (fun S17 h18 => ?_) FU _ _  h9
  obtain rfl := Option.some.inj h18
  exact mr_return dX11_putsBack_53 rfl
def lp_X11_ahead_52 (p1 : Int32) (p2 : Int32) (p3 : Int32) (p4 : Int32) (K : fS → Option (Int64 × fS)) : Nat → Int32 → fS → Option (Int64 × fS)
  | 0, _, _ => none
  | n + 1, p5, S0 =>
    if p2 ≤ p5 then (K S0) else
    ((f_X11_hour p1 S0).bind fun q21 =>
    lp_X11_ahead_52 p1 p2 p3 p4 K n (p5 + (1 : Int32)) q21)
set_option maxHeartbeats 4000000 in
set_option maxRecDepth 100000 in
theorem ok_lp_X11_ahead_52 {X : mm_C} {RR : Nat → Nat → Option Nat} (hR : RRok RR) {p1 : Int32} {p2 : Int32} {p3 : Int32} {p4 : Int32}  {K : fS → Option (Int64 × fS)} {r : Int64 × fS} (hK : ∀ (Sk : fS), K Sk = some r → mr X 5 mY_X11_ahead 69 [(0, .ref 145), (3, .int p3), (4, .int p4)] [] (MM RR Sk) (some (.long r.1), MM RR r.2)) : ∀ (n : Nat) (p5 : Int32) (S0 : fS), lp_X11_ahead_52 p1 p2 p3 p4 K n p5 S0 = some r → mr X 5 mY_X11_ahead 52 [(0, .ref 145), (1, .int p1), (2, .int p2), (3, .int p3), (4, .int p4), (5, .int p5)] [] (MM RR S0) (some (.long r.1), MM RR r.2) := by
  intro n
  induction n with
  | zero => intro p5 S0 h; exact mm_no h
  | succ n ih =>
    intro p5 S0 h
    unfold lp_X11_ahead_52 at h
    refine mr_iload (pc' := 54) dX11_ahead_52 rfl rfl ?_
    refine mr_iload_n (pc' := 55) dX11_ahead_54 rfl rfl ?_
    by_cases c20 : p2 ≤ p5
    · rw [if_pos c20] at h
      refine mr_icmp_ge_t (t := 69) dX11_ahead_55 (by decide) c20 ?_
      exact mr_sub [(0, .ref 145), (3, .int p3), (4, .int p4)] ⟨rfl, rfl, rfl, trivial⟩ rfl (hK _  h)
    · rw [if_neg c20] at h
      refine mr_icmp_ge_f (t := 69) (pc' := 58) dX11_ahead_55 (by decide) rfl c20 ?_
      refine mr_aload_n (pc' := 59) dX11_ahead_58 rfl rfl ?_
      refine mr_iload_n (pc' := 60) dX11_ahead_59 rfl rfl ?_
      obtain ⟨q21, g22, h23⟩ := Option.bind_eq_some_iff.mp h
      refine mr_cv (pc' := 63) (a := 145) (d1 := 4) dX11_ahead_60 rfl rfl rfl rfl rfl rfl (by decide) rfl (by decide) (ok_X11_hour hR  g22) ?_
      show mr X _ _ 63 _ [] (MM RR q21) _
      refine mr_iinc (pc' := 66) (x' := (p5 + (1 : Int32))) (lv' := [(5, .int (p5 + (1 : Int32))), (0, .ref 145), (1, .int p1), (2, .int p2), (3, .int p3), (4, .int p4)]) dX11_ahead_63 rfl (by decide) rfl rfl rfl ?_
      refine mr_goto (t := 52) dX11_ahead_66 (by decide) ?_
      exact mr_sub [(0, .ref 145), (1, .int p1), (2, .int p2), (3, .int p3), (4, .int p4), (5, .int (p5 + (1 : Int32)))] ⟨rfl, rfl, rfl, rfl, rfl, rfl, trivial⟩ rfl (ih _ _  h23)
def lp_X11_ahead_81  (K : Int64 → fS → Option (Int64 × fS)) : Nat → Int64 → Int32 → fS → Option (Int64 × fS)
  | 0, _, _, _ => none
  | n + 1, p5, p7, S0 =>
    (gI S0 157 158 (2 : Int32)).bind fun a50 =>
    if a50 ≤ p7 then (K p5 S0) else
    ((f_X11_thingOf p7 (0 : Int32) S0).bind fun q54 =>
    if q54 < (0 : Int32) then (lp_X11_ahead_81  K n (p5 + (0 : Int64)) (p7 + (1 : Int32)) S0) else
    ((f_X11_thingOf p7 (0 : Int32) S0).bind fun q58 =>
    (f_X11_standing q58 S0).bind fun q61 =>
    if q61 ≤ (1 : Int32) then (lp_X11_ahead_81  K n (p5 + (0 : Int64)) (p7 + (1 : Int32)) S0) else
    (lp_X11_ahead_81  K n (p5 + (1 : Int64)) (p7 + (1 : Int32)) S0)))
set_option maxHeartbeats 4000000 in
set_option maxRecDepth 100000 in
theorem ok_lp_X11_ahead_81 {X : mm_C} {RR : Nat → Nat → Option Nat} (hR : RRok RR)   {K : Int64 → fS → Option (Int64 × fS)} {r : Int64 × fS} (hK : ∀ (k5 : Int64) (Sk : fS), K k5 Sk = some r → mr X 5 mY_X11_ahead 133 [(0, .ref 145), (5, .long k5)] [] (MM RR Sk) (some (.long r.1), MM RR r.2)) : ∀ (n : Nat) (p5 : Int64) (p7 : Int32) (S0 : fS), lp_X11_ahead_81  K n p5 p7 S0 = some r → mr X 5 mY_X11_ahead 81 [(0, .ref 145), (5, .long p5), (7, .int p7)] [] (MM RR S0) (some (.long r.1), MM RR r.2) := by
  intro n
  induction n with
  | zero => intro p5 p7 S0 h; exact mm_no h
  | succ n ih =>
    intro p5 p7 S0 h
    unfold lp_X11_ahead_81 at h
    refine mr_iload (pc' := 83) dX11_ahead_81 rfl rfl ?_
    refine mr_aload_n (pc' := 84) dX11_ahead_83 rfl rfl ?_
    refine mr_getR (pc' := 87) (ci := 11) (j := 25) (b := 157) hR dX11_ahead_84 rfl rfl rfl (by decide) (by decide) (by decide) rfl rfl ?_
    refine mr_iconst (pc' := 88) (v := (2 : Int32)) dX11_ahead_87 rfl (by decide) ?_
    obtain ⟨a50, g51, h52⟩ := Option.bind_eq_some_iff.mp h
    refine mr_iald (pc' := 89) dX11_ahead_88 rfl rfl rfl g51 ?_
    by_cases c53 : a50 ≤ p7
    · rw [if_pos c53] at h52
      refine mr_icmp_ge_t (t := 133) dX11_ahead_89 (by decide) c53 ?_
      exact mr_sub [(0, .ref 145), (5, .long p5)] ⟨rfl, rfl, trivial⟩ rfl (hK _ _  h52)
    · rw [if_neg c53] at h52
      refine mr_icmp_ge_f (t := 133) (pc' := 92) dX11_ahead_89 (by decide) rfl c53 ?_
      refine mr_lload (pc' := 94) dX11_ahead_92 rfl rfl ?_
      refine mr_aload_n (pc' := 95) dX11_ahead_94 rfl rfl ?_
      refine mr_iload (pc' := 97) dX11_ahead_95 rfl rfl ?_
      refine mr_iconst (pc' := 98) (v := (0 : Int32)) dX11_ahead_97 rfl (by decide) ?_
      obtain ⟨q54, g55, h56⟩ := Option.bind_eq_some_iff.mp h52
      refine mr_cv (pc' := 101) (a := 145) (d1 := 0) dX11_ahead_98 rfl rfl rfl rfl rfl rfl (by decide) rfl (by decide) (ok_X11_thingOf hR  g55) ?_
      show mr X _ _ 101 _ [.int q54, .long p5] (MM RR S0) _
      by_cases c57 : q54 < (0 : Int32)
      · rw [if_pos c57] at h56
        refine mr_if_lt_t (t := 123) dX11_ahead_101 (by decide) c57 ?_
        refine mr_lconst (pc' := 124) (v := (0 : Int64)) dX11_ahead_123 rfl (by decide) ?_
        refine mr_ladd (pc' := 125) dX11_ahead_124 rfl ?_
        refine mr_lstore (pc' := 127) (lv' := [(5, .long (p5 + (0 : Int64))), (0, .ref 145), (7, .int p7)]) dX11_ahead_125 rfl (by decide) rfl ?_
        refine mr_iinc (pc' := 130) (x' := (p7 + (1 : Int32))) (lv' := [(7, .int (p7 + (1 : Int32))), (5, .long (p5 + (0 : Int64))), (0, .ref 145)]) dX11_ahead_127 rfl (by decide) rfl rfl rfl ?_
        refine mr_goto (t := 81) dX11_ahead_130 (by decide) ?_
        exact mr_sub [(0, .ref 145), (5, .long (p5 + (0 : Int64))), (7, .int (p7 + (1 : Int32)))] ⟨rfl, rfl, rfl, trivial⟩ rfl (ih _ _ _  h56)
      · rw [if_neg c57] at h56
        refine mr_if_lt_f (t := 123) (pc' := 104) dX11_ahead_101 (by decide) rfl c57 ?_
        refine mr_aload_n (pc' := 105) dX11_ahead_104 rfl rfl ?_
        refine mr_aload_n (pc' := 106) dX11_ahead_105 rfl rfl ?_
        refine mr_iload (pc' := 108) dX11_ahead_106 rfl rfl ?_
        refine mr_iconst (pc' := 109) (v := (0 : Int32)) dX11_ahead_108 rfl (by decide) ?_
        obtain ⟨q58, g59, h60⟩ := Option.bind_eq_some_iff.mp h56
        refine mr_cv (pc' := 112) (a := 145) (d1 := 0) dX11_ahead_109 rfl rfl rfl rfl rfl rfl (by decide) rfl (by decide) (ok_X11_thingOf hR  g59) ?_
        show mr X _ _ 112 _ [.int q58, .ref 145, .long p5] (MM RR S0) _
        obtain ⟨q61, g62, h63⟩ := Option.bind_eq_some_iff.mp h60
        refine mr_cv (pc' := 115) (a := 145) (d1 := 1) dX11_ahead_112 rfl rfl rfl rfl rfl rfl (by decide) rfl (by decide) (ok_X11_standing hR  g62) ?_
        show mr X _ _ 115 _ [.int q61, .long p5] (MM RR S0) _
        refine mr_iconst (pc' := 116) (v := (1 : Int32)) dX11_ahead_115 rfl (by decide) ?_
        by_cases c64 : q61 ≤ (1 : Int32)
        · rw [if_pos c64] at h63
          refine mr_icmp_le_t (t := 123) dX11_ahead_116 (by decide) c64 ?_
          refine mr_lconst (pc' := 124) (v := (0 : Int64)) dX11_ahead_123 rfl (by decide) ?_
          refine mr_ladd (pc' := 125) dX11_ahead_124 rfl ?_
          refine mr_lstore (pc' := 127) (lv' := [(5, .long (p5 + (0 : Int64))), (0, .ref 145), (7, .int p7)]) dX11_ahead_125 rfl (by decide) rfl ?_
          refine mr_iinc (pc' := 130) (x' := (p7 + (1 : Int32))) (lv' := [(7, .int (p7 + (1 : Int32))), (5, .long (p5 + (0 : Int64))), (0, .ref 145)]) dX11_ahead_127 rfl (by decide) rfl rfl rfl ?_
          refine mr_goto (t := 81) dX11_ahead_130 (by decide) ?_
          exact mr_sub [(0, .ref 145), (5, .long (p5 + (0 : Int64))), (7, .int (p7 + (1 : Int32)))] ⟨rfl, rfl, rfl, trivial⟩ rfl (ih _ _ _  h63)
        · rw [if_neg c64] at h63
          refine mr_icmp_le_f (t := 123) (pc' := 119) dX11_ahead_116 (by decide) rfl c64 ?_
          refine mr_lconst (pc' := 120) (v := (1 : Int64)) dX11_ahead_119 rfl (by decide) ?_
          refine mr_goto (t := 124) dX11_ahead_120 (by decide) ?_
          refine mr_ladd (pc' := 125) dX11_ahead_124 rfl ?_
          refine mr_lstore (pc' := 127) (lv' := [(5, .long (p5 + (1 : Int64))), (0, .ref 145), (7, .int p7)]) dX11_ahead_125 rfl (by decide) rfl ?_
          refine mr_iinc (pc' := 130) (x' := (p7 + (1 : Int32))) (lv' := [(7, .int (p7 + (1 : Int32))), (5, .long (p5 + (1 : Int64))), (0, .ref 145)]) dX11_ahead_127 rfl (by decide) rfl rfl rfl ?_
          refine mr_goto (t := 81) dX11_ahead_130 (by decide) ?_
          exact mr_sub [(0, .ref 145), (5, .long (p5 + (1 : Int64))), (7, .int (p7 + (1 : Int32)))] ⟨rfl, rfl, rfl, trivial⟩ rfl (ih _ _ _  h63)
def f_X11_ahead (v1 : Int32) (v2 : Int32) (v3 : Int32) (v4 : Int32) (S : fS) : Option (Int64 × fS) :=
  (f_X11_isRule v1 S).bind fun q1 =>
  if q1 = (0 : Int32) then (some ((-1 : Int64), S)) else
  ((f_X11_in (Int32.toInt64 v2) (0 : Int64) (200 : Int64) S).bind fun q5 =>
  if q5 = (0 : Int32) then (some ((-1 : Int64), S)) else
  ((f_X11_in (Int32.toInt64 v4) (0 : Int64) (3 : Int64) S).bind fun q9 =>
  if q9 = (0 : Int32) then (some ((-1 : Int64), S)) else
  ((f_X11_isThing v3 S).bind fun q13 =>
  if q13 = (0 : Int32) then (some ((-1 : Int64), S)) else
  ((f_X11_keeps  S).bind fun q17 =>
  lp_X11_ahead_52 v1 v2 v3 v4 (fun S24 => if v4 = (3 : Int32) then (lp_X11_ahead_81  (fun u65 S66 => (f_X11_putsBack  S66).bind fun q68 =>
  some (u65, q68)) FU (0 : Int64) (0 : Int32) S24) else
  (if v4 = (0 : Int32) then ((f_X11_thingOf v3 (0 : Int32) S24).bind fun q37 =>
  if (0 : Int32) ≤ q37 then ((f_X11_thingOf v3 (0 : Int32) S24).bind fun q41 =>
  (f_X11_putsBack  S24).bind fun q44 =>
  some ((Int32.toInt64 q41), q44)) else
  ((f_X11_putsBack  S24).bind fun q47 =>
  some ((-2 : Int64), q47))) else
  ((gL S24 158 8 v3).bind fun a28 =>
  (f_X11_lowest a28 (232792560 : Int64) (v4 - (1 : Int32)) S24).bind fun q31 =>
  (f_X11_putsBack  S24).bind fun q34 =>
  some (q31, q34)))) FU (0 : Int32) q17))))
set_option maxHeartbeats 4000000 in
set_option maxRecDepth 100000 in
theorem ok_X11_ahead {X : mm_C} {RR : Nat → Nat → Option Nat} (hR : RRok RR) {v1 : Int32} {v2 : Int32} {v3 : Int32} {v4 : Int32}  {S : fS} {r : Int64 × fS} (h : f_X11_ahead v1 v2 v3 v4 S = some r) : mr X 5 mY_X11_ahead 0 (lv_args 0 [.ref 145, .int v1, .int v2, .int v3, .int v4]) [] (MM RR S) (some (.long r.1), MM RR r.2) := by
  unfold f_X11_ahead at h
  show mr X _ _ 0 [(0, .ref 145), (1, .int v1), (2, .int v2), (3, .int v3), (4, .int v4)] [] (MM RR S) _
  refine mr_aload_n (pc' := 1) dX11_ahead_0 rfl rfl ?_
  refine mr_iload_n (pc' := 2) dX11_ahead_1 rfl rfl ?_
  obtain ⟨q1, g2, h3⟩ := Option.bind_eq_some_iff.mp h
  refine mr_cv (pc' := 5) (a := 145) (d1 := 0) dX11_ahead_2 rfl rfl rfl rfl rfl rfl (by decide) rfl (by decide) (ok_X11_isRule hR  g2) ?_
  show mr X _ _ 5 _ [.int q1] (MM RR S) _
  by_cases c4 : q1 = (0 : Int32)
  · rw [if_pos c4] at h3
    refine mr_if_eq_t (t := 41) dX11_ahead_5 (by decide) c4 ?_
    refine mr_ldc2 (pc' := 44) (v := (-1 : Int64)) dX11_ahead_41 rfl rfl ?_
    obtain rfl := Option.some.inj h3
    exact mr_lreturn dX11_ahead_44 rfl
  · rw [if_neg c4] at h3
    refine mr_if_eq_f (t := 41) (pc' := 8) dX11_ahead_5 (by decide) rfl c4 ?_
    refine mr_iload_n (pc' := 9) dX11_ahead_8 rfl rfl ?_
    refine mr_i2l (pc' := 10) dX11_ahead_9 rfl ?_
    refine mr_lconst (pc' := 11) (v := (0 : Int64)) dX11_ahead_10 rfl (by decide) ?_
    refine mr_ldc2 (pc' := 14) (v := (200 : Int64)) dX11_ahead_11 rfl rfl ?_
    obtain ⟨q5, g6, h7⟩ := Option.bind_eq_some_iff.mp h3
    refine mr_cs (pc' := 17) (d1 := 0) dX11_ahead_14 rfl rfl rfl rfl (by decide) (Nat.le_of_ble_eq_true rfl) rfl rfl rfl (by decide) (ok_X11_in hR  g6) ?_
    show mr X _ _ 17 _ [.int q5] (MM RR S) _
    by_cases c8 : q5 = (0 : Int32)
    · rw [if_pos c8] at h7
      refine mr_if_eq_t (t := 41) dX11_ahead_17 (by decide) c8 ?_
      refine mr_ldc2 (pc' := 44) (v := (-1 : Int64)) dX11_ahead_41 rfl rfl ?_
      obtain rfl := Option.some.inj h7
      exact mr_lreturn dX11_ahead_44 rfl
    · rw [if_neg c8] at h7
      refine mr_if_eq_f (t := 41) (pc' := 20) dX11_ahead_17 (by decide) rfl c8 ?_
      refine mr_iload (pc' := 22) dX11_ahead_20 rfl rfl ?_
      refine mr_i2l (pc' := 23) dX11_ahead_22 rfl ?_
      refine mr_lconst (pc' := 24) (v := (0 : Int64)) dX11_ahead_23 rfl (by decide) ?_
      refine mr_ldc2 (pc' := 27) (v := (3 : Int64)) dX11_ahead_24 rfl rfl ?_
      obtain ⟨q9, g10, h11⟩ := Option.bind_eq_some_iff.mp h7
      refine mr_cs (pc' := 30) (d1 := 0) dX11_ahead_27 rfl rfl rfl rfl (by decide) (Nat.le_of_ble_eq_true rfl) rfl rfl rfl (by decide) (ok_X11_in hR  g10) ?_
      show mr X _ _ 30 _ [.int q9] (MM RR S) _
      by_cases c12 : q9 = (0 : Int32)
      · rw [if_pos c12] at h11
        refine mr_if_eq_t (t := 41) dX11_ahead_30 (by decide) c12 ?_
        refine mr_ldc2 (pc' := 44) (v := (-1 : Int64)) dX11_ahead_41 rfl rfl ?_
        obtain rfl := Option.some.inj h11
        exact mr_lreturn dX11_ahead_44 rfl
      · rw [if_neg c12] at h11
        refine mr_if_eq_f (t := 41) (pc' := 33) dX11_ahead_30 (by decide) rfl c12 ?_
        refine mr_aload_n (pc' := 34) dX11_ahead_33 rfl rfl ?_
        refine mr_iload_n (pc' := 35) dX11_ahead_34 rfl rfl ?_
        obtain ⟨q13, g14, h15⟩ := Option.bind_eq_some_iff.mp h11
        refine mr_cv (pc' := 38) (a := 145) (d1 := 0) dX11_ahead_35 rfl rfl rfl rfl rfl rfl (by decide) rfl (by decide) (ok_X11_isThing hR  g14) ?_
        show mr X _ _ 38 _ [.int q13] (MM RR S) _
        by_cases c16 : q13 = (0 : Int32)
        · rw [if_pos c16] at h15
          refine mr_if_ne_f (t := 45) (pc' := 41) dX11_ahead_38 (by decide) rfl (not_not_intro c16) ?_
          refine mr_ldc2 (pc' := 44) (v := (-1 : Int64)) dX11_ahead_41 rfl rfl ?_
          obtain rfl := Option.some.inj h15
          exact mr_lreturn dX11_ahead_44 rfl
        · rw [if_neg c16] at h15
          refine mr_if_ne_t (t := 45) dX11_ahead_38 (by decide) c16 ?_
          refine mr_aload_n (pc' := 46) dX11_ahead_45 rfl rfl ?_
          obtain ⟨q17, g18, h19⟩ := Option.bind_eq_some_iff.mp h15
          refine mr_cv (pc' := 49) (a := 145) (d1 := 0) dX11_ahead_46 rfl rfl rfl rfl rfl rfl (by decide) rfl (by decide) (ok_X11_keeps hR  g18) ?_
          show mr X _ _ 49 _ [] (MM RR q17) _
          refine mr_iconst (pc' := 50) (v := (0 : Int32)) dX11_ahead_49 rfl (by decide) ?_
          refine mr_istore (pc' := 52) (lv' := [(5, .int (0 : Int32)), (0, .ref 145), (1, .int v1), (2, .int v2), (3, .int v3), (4, .int v4)]) dX11_ahead_50 rfl (by decide) rfl ?_
          refine mr_sub [(0, .ref 145), (1, .int v1), (2, .int v2), (3, .int v3), (4, .int v4), (5, .int (0 : Int32))] ⟨rfl, rfl, rfl, rfl, rfl, rfl, trivial⟩ rfl ?_
          refine ok_lp_X11_ahead_52 hR  (fun S24 h25 => ?_) FU _ _  h19
          refine mr_lconst (pc' := 70) (v := (0 : Int64)) dX11_ahead_69 rfl (by decide) ?_
          refine mr_lstore (pc' := 72) (lv' := [(5, .long (0 : Int64)), (0, .ref 145), (3, .int v3), (4, .int v4)]) dX11_ahead_70 rfl (by decide) rfl ?_
          refine mr_iload (pc' := 74) dX11_ahead_72 rfl rfl ?_
          refine mr_iconst (pc' := 75) (v := (3 : Int32)) dX11_ahead_74 rfl (by decide) ?_
          by_cases c26 : v4 = (3 : Int32)
          · rw [if_pos c26] at h25
            refine mr_icmp_ne_f (t := 136) (pc' := 78) dX11_ahead_75 (by decide) rfl (not_not_intro c26) ?_
            refine mr_iconst (pc' := 79) (v := (0 : Int32)) dX11_ahead_78 rfl (by decide) ?_
            refine mr_istore (pc' := 81) (lv' := [(7, .int (0 : Int32)), (5, .long (0 : Int64)), (0, .ref 145), (3, .int v3), (4, .int v4)]) dX11_ahead_79 rfl (by decide) rfl ?_
            refine mr_sub [(0, .ref 145), (5, .long (0 : Int64)), (7, .int (0 : Int32))] ⟨rfl, rfl, rfl, trivial⟩ rfl ?_
            refine ok_lp_X11_ahead_81 hR  (fun u65 S66 h67 => ?_) FU _ _ _  h25
            refine mr_goto (t := 184) dX11_ahead_133 (by decide) ?_
            refine mr_aload_n (pc' := 185) dX11_ahead_184 rfl rfl ?_
            obtain ⟨q68, g69, h70⟩ := Option.bind_eq_some_iff.mp h67
            refine mr_cv (pc' := 188) (a := 145) (d1 := 0) dX11_ahead_185 rfl rfl rfl rfl rfl rfl (by decide) rfl (by decide) (ok_X11_putsBack hR  g69) ?_
            show mr X _ _ 188 _ [] (MM RR q68) _
            refine mr_lload (pc' := 190) dX11_ahead_188 rfl rfl ?_
            obtain rfl := Option.some.inj h70
            exact mr_lreturn dX11_ahead_190 rfl
          · rw [if_neg c26] at h25
            refine mr_icmp_ne_t (t := 136) dX11_ahead_75 (by decide) c26 ?_
            refine mr_iload (pc' := 138) dX11_ahead_136 rfl rfl ?_
            by_cases c27 : v4 = (0 : Int32)
            · rw [if_pos c27] at h25
              refine mr_if_ne_f (t := 166) (pc' := 141) dX11_ahead_138 (by decide) rfl (not_not_intro c27) ?_
              refine mr_aload_n (pc' := 142) dX11_ahead_141 rfl rfl ?_
              refine mr_iload_n (pc' := 143) dX11_ahead_142 rfl rfl ?_
              refine mr_iconst (pc' := 144) (v := (0 : Int32)) dX11_ahead_143 rfl (by decide) ?_
              obtain ⟨q37, g38, h39⟩ := Option.bind_eq_some_iff.mp h25
              refine mr_cv (pc' := 147) (a := 145) (d1 := 0) dX11_ahead_144 rfl rfl rfl rfl rfl rfl (by decide) rfl (by decide) (ok_X11_thingOf hR  g38) ?_
              show mr X _ _ 147 _ [.int q37] (MM RR S24) _
              by_cases c40 : (0 : Int32) ≤ q37
              · rw [if_pos c40] at h39
                refine mr_if_ge_t (t := 156) dX11_ahead_147 (by decide) c40 ?_
                refine mr_aload_n (pc' := 157) dX11_ahead_156 rfl rfl ?_
                refine mr_iload_n (pc' := 158) dX11_ahead_157 rfl rfl ?_
                refine mr_iconst (pc' := 159) (v := (0 : Int32)) dX11_ahead_158 rfl (by decide) ?_
                obtain ⟨q41, g42, h43⟩ := Option.bind_eq_some_iff.mp h39
                refine mr_cv (pc' := 162) (a := 145) (d1 := 0) dX11_ahead_159 rfl rfl rfl rfl rfl rfl (by decide) rfl (by decide) (ok_X11_thingOf hR  g42) ?_
                show mr X _ _ 162 _ [.int q41] (MM RR S24) _
                refine mr_i2l (pc' := 163) dX11_ahead_162 rfl ?_
                refine mr_goto (t := 182) dX11_ahead_163 (by decide) ?_
                refine mr_lstore (pc' := 184) (lv' := [(5, .long (Int32.toInt64 q41)), (0, .ref 145), (3, .int v3), (4, .int v4)]) dX11_ahead_182 rfl (by decide) rfl ?_
                refine mr_aload_n (pc' := 185) dX11_ahead_184 rfl rfl ?_
                obtain ⟨q44, g45, h46⟩ := Option.bind_eq_some_iff.mp h43
                refine mr_cv (pc' := 188) (a := 145) (d1 := 0) dX11_ahead_185 rfl rfl rfl rfl rfl rfl (by decide) rfl (by decide) (ok_X11_putsBack hR  g45) ?_
                show mr X _ _ 188 _ [] (MM RR q44) _
                refine mr_lload (pc' := 190) dX11_ahead_188 rfl rfl ?_
                obtain rfl := Option.some.inj h46
                exact mr_lreturn dX11_ahead_190 rfl
              · rw [if_neg c40] at h39
                refine mr_if_ge_f (t := 156) (pc' := 150) dX11_ahead_147 (by decide) rfl c40 ?_
                refine mr_ldc2 (pc' := 153) (v := (-2 : Int64)) dX11_ahead_150 rfl rfl ?_
                refine mr_goto (t := 182) dX11_ahead_153 (by decide) ?_
                refine mr_lstore (pc' := 184) (lv' := [(5, .long (-2 : Int64)), (0, .ref 145), (3, .int v3), (4, .int v4)]) dX11_ahead_182 rfl (by decide) rfl ?_
                refine mr_aload_n (pc' := 185) dX11_ahead_184 rfl rfl ?_
                obtain ⟨q47, g48, h49⟩ := Option.bind_eq_some_iff.mp h39
                refine mr_cv (pc' := 188) (a := 145) (d1 := 0) dX11_ahead_185 rfl rfl rfl rfl rfl rfl (by decide) rfl (by decide) (ok_X11_putsBack hR  g48) ?_
                show mr X _ _ 188 _ [] (MM RR q47) _
                refine mr_lload (pc' := 190) dX11_ahead_188 rfl rfl ?_
                obtain rfl := Option.some.inj h49
                exact mr_lreturn dX11_ahead_190 rfl
            · rw [if_neg c27] at h25
              refine mr_if_ne_t (t := 166) dX11_ahead_138 (by decide) c27 ?_
              refine mr_aload_n (pc' := 167) dX11_ahead_166 rfl rfl ?_
              refine mr_getR (pc' := 170) (ci := 11) (j := 26) (b := 158) hR dX11_ahead_167 rfl rfl rfl (by decide) (by decide) (by decide) rfl rfl ?_
              refine mr_iload_n (pc' := 171) dX11_ahead_170 rfl rfl ?_
              obtain ⟨a28, g29, h30⟩ := Option.bind_eq_some_iff.mp h25
              refine mr_lald (pc' := 172) dX11_ahead_171 rfl rfl rfl g29 ?_
              refine mr_ldc2 (pc' := 175) (v := (232792560 : Int64)) dX11_ahead_172 rfl rfl ?_
              refine mr_iload (pc' := 177) dX11_ahead_175 rfl rfl ?_
              refine mr_iconst (pc' := 178) (v := (1 : Int32)) dX11_ahead_177 rfl (by decide) ?_
              refine mr_isub (pc' := 179) dX11_ahead_178 rfl ?_
              obtain ⟨q31, g32, h33⟩ := Option.bind_eq_some_iff.mp h30
              refine mr_cs (pc' := 182) (d1 := 1) dX11_ahead_179 rfl rfl rfl rfl (by decide) (Nat.le_of_ble_eq_true rfl) rfl rfl rfl (by decide) (ok_X11_lowest hR  g32) ?_
              show mr X _ _ 182 _ [.long q31] (MM RR S24) _
              refine mr_lstore (pc' := 184) (lv' := [(5, .long q31), (0, .ref 145), (3, .int v3), (4, .int v4)]) dX11_ahead_182 rfl (by decide) rfl ?_
              refine mr_aload_n (pc' := 185) dX11_ahead_184 rfl rfl ?_
              obtain ⟨q34, g35, h36⟩ := Option.bind_eq_some_iff.mp h33
              refine mr_cv (pc' := 188) (a := 145) (d1 := 0) dX11_ahead_185 rfl rfl rfl rfl rfl rfl (by decide) rfl (by decide) (ok_X11_putsBack hR  g35) ?_
              show mr X _ _ 188 _ [] (MM RR q34) _
              refine mr_lload (pc' := 190) dX11_ahead_188 rfl rfl ?_
              obtain rfl := Option.some.inj h36
              exact mr_lreturn dX11_ahead_190 rfl
def f_X11_far (v1 : Int32) (v2 : Int32) (S : fS) : Option (Int32) :=
  (f_X11_isFloor v1 S).bind fun q1 =>
  if q1 = (0 : Int32) then (some (-1 : Int32)) else
  ((f_X11_isFloor v2 S).bind fun q5 =>
  if q5 = (0 : Int32) then (some (-1 : Int32)) else
  ((f_X11_between v1 v2 S).bind fun q9 =>
  if q9 < (99999 : Int64) then ((f_X11_between v1 v2 S).bind fun q13 =>
  some (Int64.toInt32 q13)) else
  (some (-2 : Int32))))
set_option maxHeartbeats 4000000 in
set_option maxRecDepth 100000 in
theorem ok_X11_far {X : mm_C} {RR : Nat → Nat → Option Nat} (hR : RRok RR) {v1 : Int32} {v2 : Int32}  {S : fS} {r : Int32} (h : f_X11_far v1 v2 S = some r) : mr X 1 mY_X11_far 0 (lv_args 0 [.ref 145, .int v1, .int v2]) [] (MM RR S) (some (.int r), MM RR S) := by
  unfold f_X11_far at h
  show mr X _ _ 0 [(0, .ref 145), (1, .int v1), (2, .int v2)] [] (MM RR S) _
  refine mr_aload_n (pc' := 1) dX11_far_0 rfl rfl ?_
  refine mr_iload_n (pc' := 2) dX11_far_1 rfl rfl ?_
  obtain ⟨q1, g2, h3⟩ := Option.bind_eq_some_iff.mp h
  refine mr_cv (pc' := 5) (a := 145) (d1 := 0) dX11_far_2 rfl rfl rfl rfl rfl rfl (by decide) rfl (by decide) (ok_X11_isFloor hR  g2) ?_
  show mr X _ _ 5 _ [.int q1] (MM RR S) _
  by_cases c4 : q1 = (0 : Int32)
  · rw [if_pos c4] at h3
    refine mr_if_eq_t (t := 16) dX11_far_5 (by decide) c4 ?_
    refine mr_iconst (pc' := 17) (v := (-1 : Int32)) dX11_far_16 rfl (by decide) ?_
    obtain rfl := Option.some.inj h3
    exact mr_ireturn dX11_far_17 rfl
  · rw [if_neg c4] at h3
    refine mr_if_eq_f (t := 16) (pc' := 8) dX11_far_5 (by decide) rfl c4 ?_
    refine mr_aload_n (pc' := 9) dX11_far_8 rfl rfl ?_
    refine mr_iload_n (pc' := 10) dX11_far_9 rfl rfl ?_
    obtain ⟨q5, g6, h7⟩ := Option.bind_eq_some_iff.mp h3
    refine mr_cv (pc' := 13) (a := 145) (d1 := 0) dX11_far_10 rfl rfl rfl rfl rfl rfl (by decide) rfl (by decide) (ok_X11_isFloor hR  g6) ?_
    show mr X _ _ 13 _ [.int q5] (MM RR S) _
    by_cases c8 : q5 = (0 : Int32)
    · rw [if_pos c8] at h7
      refine mr_if_ne_f (t := 18) (pc' := 16) dX11_far_13 (by decide) rfl (not_not_intro c8) ?_
      refine mr_iconst (pc' := 17) (v := (-1 : Int32)) dX11_far_16 rfl (by decide) ?_
      obtain rfl := Option.some.inj h7
      exact mr_ireturn dX11_far_17 rfl
    · rw [if_neg c8] at h7
      refine mr_if_ne_t (t := 18) dX11_far_13 (by decide) c8 ?_
      refine mr_aload_n (pc' := 19) dX11_far_18 rfl rfl ?_
      refine mr_iload_n (pc' := 20) dX11_far_19 rfl rfl ?_
      refine mr_iload_n (pc' := 21) dX11_far_20 rfl rfl ?_
      obtain ⟨q9, g10, h11⟩ := Option.bind_eq_some_iff.mp h7
      refine mr_cv (pc' := 24) (a := 145) (d1 := 0) dX11_far_21 rfl rfl rfl rfl rfl rfl (by decide) rfl (by decide) (ok_X11_between hR  g10) ?_
      show mr X _ _ 24 _ [.long q9] (MM RR S) _
      refine mr_ldc2 (pc' := 27) (v := (99999 : Int64)) dX11_far_24 rfl rfl ?_
      by_cases c12 : q9 < (99999 : Int64)
      · rw [if_pos c12] at h11
        refine mr_lcmp_lt_t (t := 36) dX11_far_27 rfl dX11_far_28 (by decide) c12 ?_
        refine mr_aload_n (pc' := 37) dX11_far_36 rfl rfl ?_
        refine mr_iload_n (pc' := 38) dX11_far_37 rfl rfl ?_
        refine mr_iload_n (pc' := 39) dX11_far_38 rfl rfl ?_
        obtain ⟨q13, g14, h15⟩ := Option.bind_eq_some_iff.mp h11
        refine mr_cv (pc' := 42) (a := 145) (d1 := 0) dX11_far_39 rfl rfl rfl rfl rfl rfl (by decide) rfl (by decide) (ok_X11_between hR  g14) ?_
        show mr X _ _ 42 _ [.long q13] (MM RR S) _
        refine mr_l2i (pc' := 43) dX11_far_42 rfl ?_
        obtain rfl := Option.some.inj h15
        exact mr_ireturn dX11_far_43 rfl
      · rw [if_neg c12] at h11
        refine mr_lcmp_lt_f (t := 36) (pc' := 31) dX11_far_27 rfl dX11_far_28 (by decide) rfl c12 ?_
        refine mr_bipush (pc' := 33) (v := (-2 : Int32)) dX11_far_31 rfl (by decide) ?_
        refine mr_goto (t := 43) dX11_far_33 (by decide) ?_
        obtain rfl := Option.some.inj h11
        exact mr_ireturn dX11_far_43 rfl
def f_X11_next (v1 : Int32) (v2 : Int32) (S : fS) : Option (Int32) :=
  (f_X11_isFloor v1 S).bind fun q1 =>
  if q1 = (0 : Int32) then (some (-1 : Int32)) else
  ((f_X11_isFloor v2 S).bind fun q5 =>
  if q5 = (0 : Int32) then (some (-1 : Int32)) else
  ((f_X11_nextStair v1 v2 S).bind fun q9 =>
  some q9))
set_option maxHeartbeats 4000000 in
set_option maxRecDepth 100000 in
theorem ok_X11_next {X : mm_C} {RR : Nat → Nat → Option Nat} (hR : RRok RR) {v1 : Int32} {v2 : Int32}  {S : fS} {r : Int32} (h : f_X11_next v1 v2 S = some r) : mr X 3 mY_X11_next 0 (lv_args 0 [.ref 145, .int v1, .int v2]) [] (MM RR S) (some (.int r), MM RR S) := by
  unfold f_X11_next at h
  show mr X _ _ 0 [(0, .ref 145), (1, .int v1), (2, .int v2)] [] (MM RR S) _
  refine mr_aload_n (pc' := 1) dX11_next_0 rfl rfl ?_
  refine mr_iload_n (pc' := 2) dX11_next_1 rfl rfl ?_
  obtain ⟨q1, g2, h3⟩ := Option.bind_eq_some_iff.mp h
  refine mr_cv (pc' := 5) (a := 145) (d1 := 0) dX11_next_2 rfl rfl rfl rfl rfl rfl (by decide) rfl (by decide) (ok_X11_isFloor hR  g2) ?_
  show mr X _ _ 5 _ [.int q1] (MM RR S) _
  by_cases c4 : q1 = (0 : Int32)
  · rw [if_pos c4] at h3
    refine mr_if_eq_t (t := 25) dX11_next_5 (by decide) c4 ?_
    refine mr_iconst (pc' := 26) (v := (-1 : Int32)) dX11_next_25 rfl (by decide) ?_
    obtain rfl := Option.some.inj h3
    exact mr_ireturn dX11_next_26 rfl
  · rw [if_neg c4] at h3
    refine mr_if_eq_f (t := 25) (pc' := 8) dX11_next_5 (by decide) rfl c4 ?_
    refine mr_aload_n (pc' := 9) dX11_next_8 rfl rfl ?_
    refine mr_iload_n (pc' := 10) dX11_next_9 rfl rfl ?_
    obtain ⟨q5, g6, h7⟩ := Option.bind_eq_some_iff.mp h3
    refine mr_cv (pc' := 13) (a := 145) (d1 := 0) dX11_next_10 rfl rfl rfl rfl rfl rfl (by decide) rfl (by decide) (ok_X11_isFloor hR  g6) ?_
    show mr X _ _ 13 _ [.int q5] (MM RR S) _
    by_cases c8 : q5 = (0 : Int32)
    · rw [if_pos c8] at h7
      refine mr_if_eq_t (t := 25) dX11_next_13 (by decide) c8 ?_
      refine mr_iconst (pc' := 26) (v := (-1 : Int32)) dX11_next_25 rfl (by decide) ?_
      obtain rfl := Option.some.inj h7
      exact mr_ireturn dX11_next_26 rfl
    · rw [if_neg c8] at h7
      refine mr_if_eq_f (t := 25) (pc' := 16) dX11_next_13 (by decide) rfl c8 ?_
      refine mr_aload_n (pc' := 17) dX11_next_16 rfl rfl ?_
      refine mr_iload_n (pc' := 18) dX11_next_17 rfl rfl ?_
      refine mr_iload_n (pc' := 19) dX11_next_18 rfl rfl ?_
      obtain ⟨q9, g10, h11⟩ := Option.bind_eq_some_iff.mp h7
      refine mr_cv (pc' := 22) (a := 145) (d1 := 2) dX11_next_19 rfl rfl rfl rfl rfl rfl (by decide) rfl (by decide) (ok_X11_nextStair hR  g10) ?_
      show mr X _ _ 22 _ [.int q9] (MM RR S) _
      refine mr_goto (t := 26) dX11_next_22 (by decide) ?_
      obtain rfl := Option.some.inj h11
      exact mr_ireturn dX11_next_26 rfl
def f_X11_clock (v1 : Int32) (v2 : Int32) (v3 : Int32) (S : fS) : Option (Int64) :=
  (f_X11_isFloor v1 S).bind fun q1 =>
  if q1 = (0 : Int32) then (some (-1 : Int64)) else
  ((f_X11_in (Int32.toInt64 v2) (0 : Int64) (9999 : Int64) S).bind fun q5 =>
  if q5 = (0 : Int32) then (some (-1 : Int64)) else
  ((f_X11_in (Int32.toInt64 v3) (0 : Int64) (1 : Int64) S).bind fun q9 =>
  if q9 = (0 : Int32) then (some (-1 : Int64)) else
  ((gI S 157 158 ((10 : Int32) + ((2 : Int32) * v1))).bind fun a13 =>
  (gI S 157 158 (((10 : Int32) + ((2 : Int32) * v1)) + (1 : Int32))).bind fun a16 =>
  (f_X11_lowest ((Int32.toInt64 v2) * (Int32.toInt64 a13)) (Int32.toInt64 a16) v3 S).bind fun q19 =>
  some q19)))
set_option maxHeartbeats 4000000 in
set_option maxRecDepth 100000 in
theorem ok_X11_clock {X : mm_C} {RR : Nat → Nat → Option Nat} (hR : RRok RR) {v1 : Int32} {v2 : Int32} {v3 : Int32}  {S : fS} {r : Int64} (h : f_X11_clock v1 v2 v3 S = some r) : mr X 2 mY_X11_clock 0 (lv_args 0 [.ref 145, .int v1, .int v2, .int v3]) [] (MM RR S) (some (.long r), MM RR S) := by
  unfold f_X11_clock at h
  show mr X _ _ 0 [(0, .ref 145), (1, .int v1), (2, .int v2), (3, .int v3)] [] (MM RR S) _
  refine mr_aload_n (pc' := 1) dX11_clock_0 rfl rfl ?_
  refine mr_iload_n (pc' := 2) dX11_clock_1 rfl rfl ?_
  obtain ⟨q1, g2, h3⟩ := Option.bind_eq_some_iff.mp h
  refine mr_cv (pc' := 5) (a := 145) (d1 := 0) dX11_clock_2 rfl rfl rfl rfl rfl rfl (by decide) rfl (by decide) (ok_X11_isFloor hR  g2) ?_
  show mr X _ _ 5 _ [.int q1] (MM RR S) _
  by_cases c4 : q1 = (0 : Int32)
  · rw [if_pos c4] at h3
    refine mr_if_eq_t (t := 30) dX11_clock_5 (by decide) c4 ?_
    refine mr_ldc2 (pc' := 33) (v := (-1 : Int64)) dX11_clock_30 rfl rfl ?_
    obtain rfl := Option.some.inj h3
    exact mr_lreturn dX11_clock_33 rfl
  · rw [if_neg c4] at h3
    refine mr_if_eq_f (t := 30) (pc' := 8) dX11_clock_5 (by decide) rfl c4 ?_
    refine mr_iload_n (pc' := 9) dX11_clock_8 rfl rfl ?_
    refine mr_i2l (pc' := 10) dX11_clock_9 rfl ?_
    refine mr_lconst (pc' := 11) (v := (0 : Int64)) dX11_clock_10 rfl (by decide) ?_
    refine mr_ldc2 (pc' := 14) (v := (9999 : Int64)) dX11_clock_11 rfl rfl ?_
    obtain ⟨q5, g6, h7⟩ := Option.bind_eq_some_iff.mp h3
    refine mr_cs (pc' := 17) (d1 := 0) dX11_clock_14 rfl rfl rfl rfl (by decide) (Nat.le_of_ble_eq_true rfl) rfl rfl rfl (by decide) (ok_X11_in hR  g6) ?_
    show mr X _ _ 17 _ [.int q5] (MM RR S) _
    by_cases c8 : q5 = (0 : Int32)
    · rw [if_pos c8] at h7
      refine mr_if_eq_t (t := 30) dX11_clock_17 (by decide) c8 ?_
      refine mr_ldc2 (pc' := 33) (v := (-1 : Int64)) dX11_clock_30 rfl rfl ?_
      obtain rfl := Option.some.inj h7
      exact mr_lreturn dX11_clock_33 rfl
    · rw [if_neg c8] at h7
      refine mr_if_eq_f (t := 30) (pc' := 20) dX11_clock_17 (by decide) rfl c8 ?_
      refine mr_iload_n (pc' := 21) dX11_clock_20 rfl rfl ?_
      refine mr_i2l (pc' := 22) dX11_clock_21 rfl ?_
      refine mr_lconst (pc' := 23) (v := (0 : Int64)) dX11_clock_22 rfl (by decide) ?_
      refine mr_lconst (pc' := 24) (v := (1 : Int64)) dX11_clock_23 rfl (by decide) ?_
      obtain ⟨q9, g10, h11⟩ := Option.bind_eq_some_iff.mp h7
      refine mr_cs (pc' := 27) (d1 := 0) dX11_clock_24 rfl rfl rfl rfl (by decide) (Nat.le_of_ble_eq_true rfl) rfl rfl rfl (by decide) (ok_X11_in hR  g10) ?_
      show mr X _ _ 27 _ [.int q9] (MM RR S) _
      by_cases c12 : q9 = (0 : Int32)
      · rw [if_pos c12] at h11
        refine mr_if_ne_f (t := 34) (pc' := 30) dX11_clock_27 (by decide) rfl (not_not_intro c12) ?_
        refine mr_ldc2 (pc' := 33) (v := (-1 : Int64)) dX11_clock_30 rfl rfl ?_
        obtain rfl := Option.some.inj h11
        exact mr_lreturn dX11_clock_33 rfl
      · rw [if_neg c12] at h11
        refine mr_if_ne_t (t := 34) dX11_clock_27 (by decide) c12 ?_
        refine mr_iload_n (pc' := 35) dX11_clock_34 rfl rfl ?_
        refine mr_i2l (pc' := 36) dX11_clock_35 rfl ?_
        refine mr_aload_n (pc' := 37) dX11_clock_36 rfl rfl ?_
        refine mr_getR (pc' := 40) (ci := 11) (j := 25) (b := 157) hR dX11_clock_37 rfl rfl rfl (by decide) (by decide) (by decide) rfl rfl ?_
        refine mr_bipush (pc' := 42) (v := (10 : Int32)) dX11_clock_40 rfl (by decide) ?_
        refine mr_iconst (pc' := 43) (v := (2 : Int32)) dX11_clock_42 rfl (by decide) ?_
        refine mr_iload_n (pc' := 44) dX11_clock_43 rfl rfl ?_
        refine mr_imul (pc' := 45) dX11_clock_44 rfl ?_
        refine mr_iadd (pc' := 46) dX11_clock_45 rfl ?_
        obtain ⟨a13, g14, h15⟩ := Option.bind_eq_some_iff.mp h11
        refine mr_iald (pc' := 47) dX11_clock_46 rfl rfl rfl g14 ?_
        refine mr_i2l (pc' := 48) dX11_clock_47 rfl ?_
        refine mr_lmul (pc' := 49) dX11_clock_48 rfl ?_
        refine mr_aload_n (pc' := 50) dX11_clock_49 rfl rfl ?_
        refine mr_getR (pc' := 53) (ci := 11) (j := 25) (b := 157) hR dX11_clock_50 rfl rfl rfl (by decide) (by decide) (by decide) rfl rfl ?_
        refine mr_bipush (pc' := 55) (v := (10 : Int32)) dX11_clock_53 rfl (by decide) ?_
        refine mr_iconst (pc' := 56) (v := (2 : Int32)) dX11_clock_55 rfl (by decide) ?_
        refine mr_iload_n (pc' := 57) dX11_clock_56 rfl rfl ?_
        refine mr_imul (pc' := 58) dX11_clock_57 rfl ?_
        refine mr_iadd (pc' := 59) dX11_clock_58 rfl ?_
        refine mr_iconst (pc' := 60) (v := (1 : Int32)) dX11_clock_59 rfl (by decide) ?_
        refine mr_iadd (pc' := 61) dX11_clock_60 rfl ?_
        obtain ⟨a16, g17, h18⟩ := Option.bind_eq_some_iff.mp h15
        refine mr_iald (pc' := 62) dX11_clock_61 rfl rfl rfl g17 ?_
        refine mr_i2l (pc' := 63) dX11_clock_62 rfl ?_
        refine mr_iload_n (pc' := 64) dX11_clock_63 rfl rfl ?_
        obtain ⟨q19, g20, h21⟩ := Option.bind_eq_some_iff.mp h18
        refine mr_cs (pc' := 67) (d1 := 1) dX11_clock_64 rfl rfl rfl rfl (by decide) (Nat.le_of_ble_eq_true rfl) rfl rfl rfl (by decide) (ok_X11_lowest hR  g20) ?_
        show mr X _ _ 67 _ [.long q19] (MM RR S) _
        obtain rfl := Option.some.inj h21
        exact mr_lreturn dX11_clock_67 rfl
def f_X11_noons (v1 : Int32) (v2 : Int32) (v3 : Int32) (S : fS) : Option (Int64) :=
  (f_X11_isFloor v1 S).bind fun q1 =>
  if q1 = (0 : Int32) then (some (-1 : Int64)) else
  ((f_X11_isFloor v2 S).bind fun q5 =>
  if q5 = (0 : Int32) then (some (-1 : Int64)) else
  ((f_X11_in (Int32.toInt64 v3) (0 : Int64) (1 : Int64) S).bind fun q9 =>
  if q9 = (0 : Int32) then (some (-1 : Int64)) else
  ((gI S 157 158 ((10 : Int32) + ((2 : Int32) * v1))).bind fun a13 =>
  (gI S 157 158 (((10 : Int32) + ((2 : Int32) * v1)) + (1 : Int32))).bind fun a16 =>
  (gI S 157 158 ((10 : Int32) + ((2 : Int32) * v2))).bind fun a19 =>
  (gI S 157 158 (((10 : Int32) + ((2 : Int32) * v2)) + (1 : Int32))).bind fun a22 =>
  (f_X11_lowest ((Int32.toInt64 a22) * (Int32.toInt64 a13)) ((Int32.toInt64 a16) * (Int32.toInt64 a19)) (0 : Int32) S).bind fun q25 =>
  (rL q25 (2 : Int64)).bind fun a28 =>
  if a28 = (0 : Int64) then (some (-2 : Int64)) else
  ((f_X11_lowest ((Int32.toInt64 a22) * (Int32.toInt64 a13)) ((Int32.toInt64 a16) * (Int32.toInt64 a19)) (1 : Int32) S).bind fun q32 =>
  (rL q32 (2 : Int64)).bind fun a35 =>
  if a35 = (0 : Int64) then (some (-2 : Int64)) else
  ((f_X11_lowest (((12 : Int64) * q25) * (Int32.toInt64 a16)) (Int32.toInt64 a13) v3 S).bind fun q39 =>
  some q39)))))
set_option maxHeartbeats 4000000 in
set_option maxRecDepth 100000 in
theorem ok_X11_noons {X : mm_C} {RR : Nat → Nat → Option Nat} (hR : RRok RR) {v1 : Int32} {v2 : Int32} {v3 : Int32}  {S : fS} {r : Int64} (h : f_X11_noons v1 v2 v3 S = some r) : mr X 2 mY_X11_noons 0 (lv_args 0 [.ref 145, .int v1, .int v2, .int v3]) [] (MM RR S) (some (.long r), MM RR S) := by
  unfold f_X11_noons at h
  show mr X _ _ 0 [(0, .ref 145), (1, .int v1), (2, .int v2), (3, .int v3)] [] (MM RR S) _
  refine mr_aload_n (pc' := 1) dX11_noons_0 rfl rfl ?_
  refine mr_iload_n (pc' := 2) dX11_noons_1 rfl rfl ?_
  obtain ⟨q1, g2, h3⟩ := Option.bind_eq_some_iff.mp h
  refine mr_cv (pc' := 5) (a := 145) (d1 := 0) dX11_noons_2 rfl rfl rfl rfl rfl rfl (by decide) rfl (by decide) (ok_X11_isFloor hR  g2) ?_
  show mr X _ _ 5 _ [.int q1] (MM RR S) _
  by_cases c4 : q1 = (0 : Int32)
  · rw [if_pos c4] at h3
    refine mr_if_eq_t (t := 26) dX11_noons_5 (by decide) c4 ?_
    refine mr_ldc2 (pc' := 29) (v := (-1 : Int64)) dX11_noons_26 rfl rfl ?_
    obtain rfl := Option.some.inj h3
    exact mr_lreturn dX11_noons_29 rfl
  · rw [if_neg c4] at h3
    refine mr_if_eq_f (t := 26) (pc' := 8) dX11_noons_5 (by decide) rfl c4 ?_
    refine mr_aload_n (pc' := 9) dX11_noons_8 rfl rfl ?_
    refine mr_iload_n (pc' := 10) dX11_noons_9 rfl rfl ?_
    obtain ⟨q5, g6, h7⟩ := Option.bind_eq_some_iff.mp h3
    refine mr_cv (pc' := 13) (a := 145) (d1 := 0) dX11_noons_10 rfl rfl rfl rfl rfl rfl (by decide) rfl (by decide) (ok_X11_isFloor hR  g6) ?_
    show mr X _ _ 13 _ [.int q5] (MM RR S) _
    by_cases c8 : q5 = (0 : Int32)
    · rw [if_pos c8] at h7
      refine mr_if_eq_t (t := 26) dX11_noons_13 (by decide) c8 ?_
      refine mr_ldc2 (pc' := 29) (v := (-1 : Int64)) dX11_noons_26 rfl rfl ?_
      obtain rfl := Option.some.inj h7
      exact mr_lreturn dX11_noons_29 rfl
    · rw [if_neg c8] at h7
      refine mr_if_eq_f (t := 26) (pc' := 16) dX11_noons_13 (by decide) rfl c8 ?_
      refine mr_iload_n (pc' := 17) dX11_noons_16 rfl rfl ?_
      refine mr_i2l (pc' := 18) dX11_noons_17 rfl ?_
      refine mr_lconst (pc' := 19) (v := (0 : Int64)) dX11_noons_18 rfl (by decide) ?_
      refine mr_lconst (pc' := 20) (v := (1 : Int64)) dX11_noons_19 rfl (by decide) ?_
      obtain ⟨q9, g10, h11⟩ := Option.bind_eq_some_iff.mp h7
      refine mr_cs (pc' := 23) (d1 := 0) dX11_noons_20 rfl rfl rfl rfl (by decide) (Nat.le_of_ble_eq_true rfl) rfl rfl rfl (by decide) (ok_X11_in hR  g10) ?_
      show mr X _ _ 23 _ [.int q9] (MM RR S) _
      by_cases c12 : q9 = (0 : Int32)
      · rw [if_pos c12] at h11
        refine mr_if_ne_f (t := 30) (pc' := 26) dX11_noons_23 (by decide) rfl (not_not_intro c12) ?_
        refine mr_ldc2 (pc' := 29) (v := (-1 : Int64)) dX11_noons_26 rfl rfl ?_
        obtain rfl := Option.some.inj h11
        exact mr_lreturn dX11_noons_29 rfl
      · rw [if_neg c12] at h11
        refine mr_if_ne_t (t := 30) dX11_noons_23 (by decide) c12 ?_
        refine mr_aload_n (pc' := 31) dX11_noons_30 rfl rfl ?_
        refine mr_getR (pc' := 34) (ci := 11) (j := 25) (b := 157) hR dX11_noons_31 rfl rfl rfl (by decide) (by decide) (by decide) rfl rfl ?_
        refine mr_bipush (pc' := 36) (v := (10 : Int32)) dX11_noons_34 rfl (by decide) ?_
        refine mr_iconst (pc' := 37) (v := (2 : Int32)) dX11_noons_36 rfl (by decide) ?_
        refine mr_iload_n (pc' := 38) dX11_noons_37 rfl rfl ?_
        refine mr_imul (pc' := 39) dX11_noons_38 rfl ?_
        refine mr_iadd (pc' := 40) dX11_noons_39 rfl ?_
        obtain ⟨a13, g14, h15⟩ := Option.bind_eq_some_iff.mp h11
        refine mr_iald (pc' := 41) dX11_noons_40 rfl rfl rfl g14 ?_
        refine mr_i2l (pc' := 42) dX11_noons_41 rfl ?_
        refine mr_lstore (pc' := 44) (lv' := [(4, .long (Int32.toInt64 a13)), (0, .ref 145), (1, .int v1), (2, .int v2), (3, .int v3)]) dX11_noons_42 rfl (by decide) rfl ?_
        refine mr_aload_n (pc' := 45) dX11_noons_44 rfl rfl ?_
        refine mr_getR (pc' := 48) (ci := 11) (j := 25) (b := 157) hR dX11_noons_45 rfl rfl rfl (by decide) (by decide) (by decide) rfl rfl ?_
        refine mr_bipush (pc' := 50) (v := (10 : Int32)) dX11_noons_48 rfl (by decide) ?_
        refine mr_iconst (pc' := 51) (v := (2 : Int32)) dX11_noons_50 rfl (by decide) ?_
        refine mr_iload_n (pc' := 52) dX11_noons_51 rfl rfl ?_
        refine mr_imul (pc' := 53) dX11_noons_52 rfl ?_
        refine mr_iadd (pc' := 54) dX11_noons_53 rfl ?_
        refine mr_iconst (pc' := 55) (v := (1 : Int32)) dX11_noons_54 rfl (by decide) ?_
        refine mr_iadd (pc' := 56) dX11_noons_55 rfl ?_
        obtain ⟨a16, g17, h18⟩ := Option.bind_eq_some_iff.mp h15
        refine mr_iald (pc' := 57) dX11_noons_56 rfl rfl rfl g17 ?_
        refine mr_i2l (pc' := 58) dX11_noons_57 rfl ?_
        refine mr_lstore (pc' := 60) (lv' := [(6, .long (Int32.toInt64 a16)), (4, .long (Int32.toInt64 a13)), (0, .ref 145), (1, .int v1), (2, .int v2), (3, .int v3)]) dX11_noons_58 rfl (by decide) rfl ?_
        refine mr_lload (pc' := 62) dX11_noons_60 rfl rfl ?_
        refine mr_aload_n (pc' := 63) dX11_noons_62 rfl rfl ?_
        refine mr_getR (pc' := 66) (ci := 11) (j := 25) (b := 157) hR dX11_noons_63 rfl rfl rfl (by decide) (by decide) (by decide) rfl rfl ?_
        refine mr_bipush (pc' := 68) (v := (10 : Int32)) dX11_noons_66 rfl (by decide) ?_
        refine mr_iconst (pc' := 69) (v := (2 : Int32)) dX11_noons_68 rfl (by decide) ?_
        refine mr_iload_n (pc' := 70) dX11_noons_69 rfl rfl ?_
        refine mr_imul (pc' := 71) dX11_noons_70 rfl ?_
        refine mr_iadd (pc' := 72) dX11_noons_71 rfl ?_
        obtain ⟨a19, g20, h21⟩ := Option.bind_eq_some_iff.mp h18
        refine mr_iald (pc' := 73) dX11_noons_72 rfl rfl rfl g20 ?_
        refine mr_i2l (pc' := 74) dX11_noons_73 rfl ?_
        refine mr_lmul (pc' := 75) dX11_noons_74 rfl ?_
        refine mr_lstore (pc' := 77) (lv' := [(8, .long ((Int32.toInt64 a16) * (Int32.toInt64 a19))), (6, .long (Int32.toInt64 a16)), (4, .long (Int32.toInt64 a13)), (0, .ref 145), (1, .int v1), (2, .int v2), (3, .int v3)]) dX11_noons_75 rfl (by decide) rfl ?_
        refine mr_aload_n (pc' := 78) dX11_noons_77 rfl rfl ?_
        refine mr_getR (pc' := 81) (ci := 11) (j := 25) (b := 157) hR dX11_noons_78 rfl rfl rfl (by decide) (by decide) (by decide) rfl rfl ?_
        refine mr_bipush (pc' := 83) (v := (10 : Int32)) dX11_noons_81 rfl (by decide) ?_
        refine mr_iconst (pc' := 84) (v := (2 : Int32)) dX11_noons_83 rfl (by decide) ?_
        refine mr_iload_n (pc' := 85) dX11_noons_84 rfl rfl ?_
        refine mr_imul (pc' := 86) dX11_noons_85 rfl ?_
        refine mr_iadd (pc' := 87) dX11_noons_86 rfl ?_
        refine mr_iconst (pc' := 88) (v := (1 : Int32)) dX11_noons_87 rfl (by decide) ?_
        refine mr_iadd (pc' := 89) dX11_noons_88 rfl ?_
        obtain ⟨a22, g23, h24⟩ := Option.bind_eq_some_iff.mp h21
        refine mr_iald (pc' := 90) dX11_noons_89 rfl rfl rfl g23 ?_
        refine mr_i2l (pc' := 91) dX11_noons_90 rfl ?_
        refine mr_lload (pc' := 93) dX11_noons_91 rfl rfl ?_
        refine mr_lmul (pc' := 94) dX11_noons_93 rfl ?_
        refine mr_lstore (pc' := 96) (lv' := [(10, .long ((Int32.toInt64 a22) * (Int32.toInt64 a13))), (8, .long ((Int32.toInt64 a16) * (Int32.toInt64 a19))), (6, .long (Int32.toInt64 a16)), (4, .long (Int32.toInt64 a13)), (0, .ref 145), (1, .int v1), (2, .int v2), (3, .int v3)]) dX11_noons_94 rfl (by decide) rfl ?_
        refine mr_lload (pc' := 98) dX11_noons_96 rfl rfl ?_
        refine mr_lload (pc' := 100) dX11_noons_98 rfl rfl ?_
        refine mr_iconst (pc' := 101) (v := (0 : Int32)) dX11_noons_100 rfl (by decide) ?_
        obtain ⟨q25, g26, h27⟩ := Option.bind_eq_some_iff.mp h24
        refine mr_cs (pc' := 104) (d1 := 1) dX11_noons_101 rfl rfl rfl rfl (by decide) (Nat.le_of_ble_eq_true rfl) rfl rfl rfl (by decide) (ok_X11_lowest hR  g26) ?_
        show mr X _ _ 104 _ [.long q25] (MM RR S) _
        refine mr_lstore (pc' := 106) (lv' := [(12, .long q25), (10, .long ((Int32.toInt64 a22) * (Int32.toInt64 a13))), (8, .long ((Int32.toInt64 a16) * (Int32.toInt64 a19))), (6, .long (Int32.toInt64 a16)), (4, .long (Int32.toInt64 a13)), (0, .ref 145), (1, .int v1), (2, .int v2), (3, .int v3)]) dX11_noons_104 rfl (by decide) rfl ?_
        refine mr_lload (pc' := 108) dX11_noons_106 rfl rfl ?_
        refine mr_ldc2 (pc' := 111) (v := (2 : Int64)) dX11_noons_108 rfl rfl ?_
        obtain ⟨a28, g29, h30⟩ := Option.bind_eq_some_iff.mp h27
        refine mr_lrem (pc' := 112) dX11_noons_111 rfl g29 ?_
        refine mr_lconst (pc' := 113) (v := (0 : Int64)) dX11_noons_112 rfl (by decide) ?_
        by_cases c31 : a28 = (0 : Int64)
        · rw [if_pos c31] at h30
          refine mr_lcmp_eq_t (t := 134) dX11_noons_113 rfl dX11_noons_114 (by decide) c31 ?_
          refine mr_ldc2 (pc' := 137) (v := (-2 : Int64)) dX11_noons_134 rfl rfl ?_
          obtain rfl := Option.some.inj h30
          exact mr_lreturn dX11_noons_137 rfl
        · rw [if_neg c31] at h30
          refine mr_lcmp_eq_f (t := 134) (pc' := 117) dX11_noons_113 rfl dX11_noons_114 (by decide) rfl c31 ?_
          refine mr_lload (pc' := 119) dX11_noons_117 rfl rfl ?_
          refine mr_lload (pc' := 121) dX11_noons_119 rfl rfl ?_
          refine mr_iconst (pc' := 122) (v := (1 : Int32)) dX11_noons_121 rfl (by decide) ?_
          obtain ⟨q32, g33, h34⟩ := Option.bind_eq_some_iff.mp h30
          refine mr_cs (pc' := 125) (d1 := 1) dX11_noons_122 rfl rfl rfl rfl (by decide) (Nat.le_of_ble_eq_true rfl) rfl rfl rfl (by decide) (ok_X11_lowest hR  g33) ?_
          show mr X _ _ 125 _ [.long q32] (MM RR S) _
          refine mr_ldc2 (pc' := 128) (v := (2 : Int64)) dX11_noons_125 rfl rfl ?_
          obtain ⟨a35, g36, h37⟩ := Option.bind_eq_some_iff.mp h34
          refine mr_lrem (pc' := 129) dX11_noons_128 rfl g36 ?_
          refine mr_lconst (pc' := 130) (v := (0 : Int64)) dX11_noons_129 rfl (by decide) ?_
          by_cases c38 : a35 = (0 : Int64)
          · rw [if_pos c38] at h37
            refine mr_lcmp_ne_f (t := 138) (pc' := 134) dX11_noons_130 rfl dX11_noons_131 (by decide) rfl (not_not_intro c38) ?_
            refine mr_ldc2 (pc' := 137) (v := (-2 : Int64)) dX11_noons_134 rfl rfl ?_
            obtain rfl := Option.some.inj h37
            exact mr_lreturn dX11_noons_137 rfl
          · rw [if_neg c38] at h37
            refine mr_lcmp_ne_t (t := 138) dX11_noons_130 rfl dX11_noons_131 (by decide) c38 ?_
            refine mr_ldc2 (pc' := 141) (v := (12 : Int64)) dX11_noons_138 rfl rfl ?_
            refine mr_lload (pc' := 143) dX11_noons_141 rfl rfl ?_
            refine mr_lmul (pc' := 144) dX11_noons_143 rfl ?_
            refine mr_lload (pc' := 146) dX11_noons_144 rfl rfl ?_
            refine mr_lmul (pc' := 147) dX11_noons_146 rfl ?_
            refine mr_lload (pc' := 149) dX11_noons_147 rfl rfl ?_
            refine mr_iload_n (pc' := 150) dX11_noons_149 rfl rfl ?_
            obtain ⟨q39, g40, h41⟩ := Option.bind_eq_some_iff.mp h37
            refine mr_cs (pc' := 153) (d1 := 1) dX11_noons_150 rfl rfl rfl rfl (by decide) (Nat.le_of_ble_eq_true rfl) rfl rfl rfl (by decide) (ok_X11_lowest hR  g40) ?_
            show mr X _ _ 153 _ [.long q39] (MM RR S) _
            obtain rfl := Option.some.inj h41
            exact mr_lreturn dX11_noons_153 rfl
def f_X11_by (v1 : Int32) (v2 : Int32) (v3 : Int32) (v4 : Int32) (S : fS) : Option (Int64) :=
  if (0 : Int32) ≤ v3 then ((f_X11_stairOf v3 (2 : Int32) S).bind fun q2 =>
  if (0 : Int32) ≤ v3 then ((f_X11_otherEnd v3 v1 S).bind fun q6 =>
  if q6 < (0 : Int32) then (some (-1 : Int64)) else
  (if v4 < (v2 + q2) then (some (-1 : Int64)) else
  ((gL S 162 1210 (((10 : Int32) * (v2 + q2)) + q6)).bind fun a11 =>
  if (0 : Int64) ≤ a11 then ((gL S 162 1210 (((10 : Int32) * (v2 + q2)) + q6)).bind fun a15 =>
  if (0 : Int32) ≤ v3 then ((f_X11_stairParts v3 S).bind fun q19 =>
  some (a15 + ((Int32.toInt64 q2) * q19))) else
  ((f_X11_floorParts v1 S).bind fun q22 =>
  some (a15 + ((Int32.toInt64 q2) * q22)))) else
  (some (-1 : Int64))))) else
  (if v1 < (0 : Int32) then (some (-1 : Int64)) else
  (if v4 < (v2 + q2) then (some (-1 : Int64)) else
  ((gL S 162 1210 (((10 : Int32) * (v2 + q2)) + v1)).bind fun a27 =>
  if (0 : Int64) ≤ a27 then ((gL S 162 1210 (((10 : Int32) * (v2 + q2)) + v1)).bind fun a31 =>
  if (0 : Int32) ≤ v3 then ((f_X11_stairParts v3 S).bind fun q35 =>
  some (a31 + ((Int32.toInt64 q2) * q35))) else
  ((f_X11_floorParts v1 S).bind fun q38 =>
  some (a31 + ((Int32.toInt64 q2) * q38)))) else
  (some (-1 : Int64)))))) else
  (if (0 : Int32) ≤ v3 then ((f_X11_otherEnd v3 v1 S).bind fun q42 =>
  if q42 < (0 : Int32) then (some (-1 : Int64)) else
  (if v4 < (v2 + (1 : Int32)) then (some (-1 : Int64)) else
  ((gL S 162 1210 (((10 : Int32) * (v2 + (1 : Int32))) + q42)).bind fun a47 =>
  if (0 : Int64) ≤ a47 then ((gL S 162 1210 (((10 : Int32) * (v2 + (1 : Int32))) + q42)).bind fun a51 =>
  if (0 : Int32) ≤ v3 then ((f_X11_stairParts v3 S).bind fun q55 =>
  some (a51 + ((Int32.toInt64 (1 : Int32)) * q55))) else
  ((f_X11_floorParts v1 S).bind fun q58 =>
  some (a51 + ((Int32.toInt64 (1 : Int32)) * q58)))) else
  (some (-1 : Int64))))) else
  (if v1 < (0 : Int32) then (some (-1 : Int64)) else
  (if v4 < (v2 + (1 : Int32)) then (some (-1 : Int64)) else
  ((gL S 162 1210 (((10 : Int32) * (v2 + (1 : Int32))) + v1)).bind fun a63 =>
  if (0 : Int64) ≤ a63 then ((gL S 162 1210 (((10 : Int32) * (v2 + (1 : Int32))) + v1)).bind fun a67 =>
  if (0 : Int32) ≤ v3 then ((f_X11_stairParts v3 S).bind fun q71 =>
  some (a67 + ((Int32.toInt64 (1 : Int32)) * q71))) else
  ((f_X11_floorParts v1 S).bind fun q74 =>
  some (a67 + ((Int32.toInt64 (1 : Int32)) * q74)))) else
  (some (-1 : Int64))))))
set_option maxHeartbeats 4000000 in
set_option maxRecDepth 100000 in
theorem ok_X11_by {X : mm_C} {RR : Nat → Nat → Option Nat} (hR : RRok RR) {v1 : Int32} {v2 : Int32} {v3 : Int32} {v4 : Int32}  {S : fS} {r : Int64} (h : f_X11_by v1 v2 v3 v4 S = some r) : mr X 2 mY_X11_by 0 (lv_args 0 [.ref 145, .int v1, .int v2, .int v3, .int v4]) [] (MM RR S) (some (.long r), MM RR S) := by
  unfold f_X11_by at h
  show mr X _ _ 0 [(0, .ref 145), (1, .int v1), (2, .int v2), (3, .int v3), (4, .int v4)] [] (MM RR S) _
  refine mr_iload_n (pc' := 1) dX11_by_0 rfl rfl ?_
  by_cases c1 : (0 : Int32) ≤ v3
  · rw [if_pos c1] at h
    refine mr_if_ge_t (t := 8) dX11_by_1 (by decide) c1 ?_
    refine mr_aload_n (pc' := 9) dX11_by_8 rfl rfl ?_
    refine mr_iload_n (pc' := 10) dX11_by_9 rfl rfl ?_
    refine mr_iconst (pc' := 11) (v := (2 : Int32)) dX11_by_10 rfl (by decide) ?_
    obtain ⟨q2, g3, h4⟩ := Option.bind_eq_some_iff.mp h
    refine mr_cv (pc' := 14) (a := 145) (d1 := 0) dX11_by_11 rfl rfl rfl rfl rfl rfl (by decide) rfl (by decide) (ok_X11_stairOf hR  g3) ?_
    show mr X _ _ 14 _ [.int q2] (MM RR S) _
    refine mr_istore (pc' := 16) (lv' := [(5, .int q2), (0, .ref 145), (1, .int v1), (2, .int v2), (3, .int v3), (4, .int v4)]) dX11_by_14 rfl (by decide) rfl ?_
    refine mr_iload_n (pc' := 17) dX11_by_16 rfl rfl ?_
    by_cases c5 : (0 : Int32) ≤ v3
    · rw [if_pos c5] at h4
      refine mr_if_ge_t (t := 24) dX11_by_17 (by decide) c5 ?_
      refine mr_aload_n (pc' := 25) dX11_by_24 rfl rfl ?_
      refine mr_iload_n (pc' := 26) dX11_by_25 rfl rfl ?_
      refine mr_iload_n (pc' := 27) dX11_by_26 rfl rfl ?_
      obtain ⟨q6, g7, h8⟩ := Option.bind_eq_some_iff.mp h4
      refine mr_cv (pc' := 30) (a := 145) (d1 := 1) dX11_by_27 rfl rfl rfl rfl rfl rfl (by decide) rfl (by decide) (ok_X11_otherEnd hR  g7) ?_
      show mr X _ _ 30 _ [.int q6] (MM RR S) _
      refine mr_istore (pc' := 32) (lv' := [(6, .int q6), (5, .int q2), (0, .ref 145), (1, .int v1), (2, .int v2), (3, .int v3), (4, .int v4)]) dX11_by_30 rfl (by decide) rfl ?_
      refine mr_iload (pc' := 34) dX11_by_32 rfl rfl ?_
      by_cases c9 : q6 < (0 : Int32)
      · rw [if_pos c9] at h8
        refine mr_if_lt_t (t := 66) dX11_by_34 (by decide) c9 ?_
        refine mr_ldc2 (pc' := 69) (v := (-1 : Int64)) dX11_by_66 rfl rfl ?_
        obtain rfl := Option.some.inj h8
        exact mr_lreturn dX11_by_69 rfl
      · rw [if_neg c9] at h8
        refine mr_if_lt_f (t := 66) (pc' := 37) dX11_by_34 (by decide) rfl c9 ?_
        refine mr_iload_n (pc' := 38) dX11_by_37 rfl rfl ?_
        refine mr_iload (pc' := 40) dX11_by_38 rfl rfl ?_
        refine mr_iadd (pc' := 41) dX11_by_40 rfl ?_
        refine mr_iload (pc' := 43) dX11_by_41 rfl rfl ?_
        by_cases c10 : v4 < (v2 + q2)
        · rw [if_pos c10] at h8
          refine mr_icmp_gt_t (t := 66) dX11_by_43 (by decide) c10 ?_
          refine mr_ldc2 (pc' := 69) (v := (-1 : Int64)) dX11_by_66 rfl rfl ?_
          obtain rfl := Option.some.inj h8
          exact mr_lreturn dX11_by_69 rfl
        · rw [if_neg c10] at h8
          refine mr_icmp_gt_f (t := 66) (pc' := 46) dX11_by_43 (by decide) rfl c10 ?_
          refine mr_aload_n (pc' := 47) dX11_by_46 rfl rfl ?_
          refine mr_getR (pc' := 50) (ci := 11) (j := 30) (b := 162) hR dX11_by_47 rfl rfl rfl (by decide) (by decide) (by decide) rfl rfl ?_
          refine mr_bipush (pc' := 52) (v := (10 : Int32)) dX11_by_50 rfl (by decide) ?_
          refine mr_iload_n (pc' := 53) dX11_by_52 rfl rfl ?_
          refine mr_iload (pc' := 55) dX11_by_53 rfl rfl ?_
          refine mr_iadd (pc' := 56) dX11_by_55 rfl ?_
          refine mr_imul (pc' := 57) dX11_by_56 rfl ?_
          refine mr_iload (pc' := 59) dX11_by_57 rfl rfl ?_
          refine mr_iadd (pc' := 60) dX11_by_59 rfl ?_
          obtain ⟨a11, g12, h13⟩ := Option.bind_eq_some_iff.mp h8
          refine mr_lald (pc' := 61) dX11_by_60 rfl rfl rfl g12 ?_
          refine mr_lconst (pc' := 62) (v := (0 : Int64)) dX11_by_61 rfl (by decide) ?_
          by_cases c14 : (0 : Int64) ≤ a11
          · rw [if_pos c14] at h13
            refine mr_lcmp_ge_t (t := 70) dX11_by_62 rfl dX11_by_63 (by decide) c14 ?_
            refine mr_aload_n (pc' := 71) dX11_by_70 rfl rfl ?_
            refine mr_getR (pc' := 74) (ci := 11) (j := 30) (b := 162) hR dX11_by_71 rfl rfl rfl (by decide) (by decide) (by decide) rfl rfl ?_
            refine mr_bipush (pc' := 76) (v := (10 : Int32)) dX11_by_74 rfl (by decide) ?_
            refine mr_iload_n (pc' := 77) dX11_by_76 rfl rfl ?_
            refine mr_iload (pc' := 79) dX11_by_77 rfl rfl ?_
            refine mr_iadd (pc' := 80) dX11_by_79 rfl ?_
            refine mr_imul (pc' := 81) dX11_by_80 rfl ?_
            refine mr_iload (pc' := 83) dX11_by_81 rfl rfl ?_
            refine mr_iadd (pc' := 84) dX11_by_83 rfl ?_
            obtain ⟨a15, g16, h17⟩ := Option.bind_eq_some_iff.mp h13
            refine mr_lald (pc' := 85) dX11_by_84 rfl rfl rfl g16 ?_
            refine mr_iload (pc' := 87) dX11_by_85 rfl rfl ?_
            refine mr_i2l (pc' := 88) dX11_by_87 rfl ?_
            refine mr_iload_n (pc' := 89) dX11_by_88 rfl rfl ?_
            by_cases c18 : (0 : Int32) ≤ v3
            · rw [if_pos c18] at h17
              refine mr_if_ge_t (t := 100) dX11_by_89 (by decide) c18 ?_
              refine mr_aload_n (pc' := 101) dX11_by_100 rfl rfl ?_
              refine mr_iload_n (pc' := 102) dX11_by_101 rfl rfl ?_
              obtain ⟨q19, g20, h21⟩ := Option.bind_eq_some_iff.mp h17
              refine mr_cv (pc' := 105) (a := 145) (d1 := 1) dX11_by_102 rfl rfl rfl rfl rfl rfl (by decide) rfl (by decide) (ok_X11_stairParts hR  g20) ?_
              show mr X _ _ 105 _ [.long q19, .long (Int32.toInt64 q2), .long a15] (MM RR S) _
              refine mr_lmul (pc' := 106) dX11_by_105 rfl ?_
              refine mr_ladd (pc' := 107) dX11_by_106 rfl ?_
              obtain rfl := Option.some.inj h21
              exact mr_lreturn dX11_by_107 rfl
            · rw [if_neg c18] at h17
              refine mr_if_ge_f (t := 100) (pc' := 92) dX11_by_89 (by decide) rfl c18 ?_
              refine mr_aload_n (pc' := 93) dX11_by_92 rfl rfl ?_
              refine mr_iload_n (pc' := 94) dX11_by_93 rfl rfl ?_
              obtain ⟨q22, g23, h24⟩ := Option.bind_eq_some_iff.mp h17
              refine mr_cv (pc' := 97) (a := 145) (d1 := 0) dX11_by_94 rfl rfl rfl rfl rfl rfl (by decide) rfl (by decide) (ok_X11_floorParts hR  g23) ?_
              show mr X _ _ 97 _ [.long q22, .long (Int32.toInt64 q2), .long a15] (MM RR S) _
              refine mr_goto (t := 105) dX11_by_97 (by decide) ?_
              refine mr_lmul (pc' := 106) dX11_by_105 rfl ?_
              refine mr_ladd (pc' := 107) dX11_by_106 rfl ?_
              obtain rfl := Option.some.inj h24
              exact mr_lreturn dX11_by_107 rfl
          · rw [if_neg c14] at h13
            refine mr_lcmp_ge_f (t := 70) (pc' := 66) dX11_by_62 rfl dX11_by_63 (by decide) rfl c14 ?_
            refine mr_ldc2 (pc' := 69) (v := (-1 : Int64)) dX11_by_66 rfl rfl ?_
            obtain rfl := Option.some.inj h13
            exact mr_lreturn dX11_by_69 rfl
    · rw [if_neg c5] at h4
      refine mr_if_ge_f (t := 24) (pc' := 20) dX11_by_17 (by decide) rfl c5 ?_
      refine mr_iload_n (pc' := 21) dX11_by_20 rfl rfl ?_
      refine mr_goto (t := 30) dX11_by_21 (by decide) ?_
      refine mr_istore (pc' := 32) (lv' := [(6, .int v1), (5, .int q2), (0, .ref 145), (1, .int v1), (2, .int v2), (3, .int v3), (4, .int v4)]) dX11_by_30 rfl (by decide) rfl ?_
      refine mr_iload (pc' := 34) dX11_by_32 rfl rfl ?_
      by_cases c25 : v1 < (0 : Int32)
      · rw [if_pos c25] at h4
        refine mr_if_lt_t (t := 66) dX11_by_34 (by decide) c25 ?_
        refine mr_ldc2 (pc' := 69) (v := (-1 : Int64)) dX11_by_66 rfl rfl ?_
        obtain rfl := Option.some.inj h4
        exact mr_lreturn dX11_by_69 rfl
      · rw [if_neg c25] at h4
        refine mr_if_lt_f (t := 66) (pc' := 37) dX11_by_34 (by decide) rfl c25 ?_
        refine mr_iload_n (pc' := 38) dX11_by_37 rfl rfl ?_
        refine mr_iload (pc' := 40) dX11_by_38 rfl rfl ?_
        refine mr_iadd (pc' := 41) dX11_by_40 rfl ?_
        refine mr_iload (pc' := 43) dX11_by_41 rfl rfl ?_
        by_cases c26 : v4 < (v2 + q2)
        · rw [if_pos c26] at h4
          refine mr_icmp_gt_t (t := 66) dX11_by_43 (by decide) c26 ?_
          refine mr_ldc2 (pc' := 69) (v := (-1 : Int64)) dX11_by_66 rfl rfl ?_
          obtain rfl := Option.some.inj h4
          exact mr_lreturn dX11_by_69 rfl
        · rw [if_neg c26] at h4
          refine mr_icmp_gt_f (t := 66) (pc' := 46) dX11_by_43 (by decide) rfl c26 ?_
          refine mr_aload_n (pc' := 47) dX11_by_46 rfl rfl ?_
          refine mr_getR (pc' := 50) (ci := 11) (j := 30) (b := 162) hR dX11_by_47 rfl rfl rfl (by decide) (by decide) (by decide) rfl rfl ?_
          refine mr_bipush (pc' := 52) (v := (10 : Int32)) dX11_by_50 rfl (by decide) ?_
          refine mr_iload_n (pc' := 53) dX11_by_52 rfl rfl ?_
          refine mr_iload (pc' := 55) dX11_by_53 rfl rfl ?_
          refine mr_iadd (pc' := 56) dX11_by_55 rfl ?_
          refine mr_imul (pc' := 57) dX11_by_56 rfl ?_
          refine mr_iload (pc' := 59) dX11_by_57 rfl rfl ?_
          refine mr_iadd (pc' := 60) dX11_by_59 rfl ?_
          obtain ⟨a27, g28, h29⟩ := Option.bind_eq_some_iff.mp h4
          refine mr_lald (pc' := 61) dX11_by_60 rfl rfl rfl g28 ?_
          refine mr_lconst (pc' := 62) (v := (0 : Int64)) dX11_by_61 rfl (by decide) ?_
          by_cases c30 : (0 : Int64) ≤ a27
          · rw [if_pos c30] at h29
            refine mr_lcmp_ge_t (t := 70) dX11_by_62 rfl dX11_by_63 (by decide) c30 ?_
            refine mr_aload_n (pc' := 71) dX11_by_70 rfl rfl ?_
            refine mr_getR (pc' := 74) (ci := 11) (j := 30) (b := 162) hR dX11_by_71 rfl rfl rfl (by decide) (by decide) (by decide) rfl rfl ?_
            refine mr_bipush (pc' := 76) (v := (10 : Int32)) dX11_by_74 rfl (by decide) ?_
            refine mr_iload_n (pc' := 77) dX11_by_76 rfl rfl ?_
            refine mr_iload (pc' := 79) dX11_by_77 rfl rfl ?_
            refine mr_iadd (pc' := 80) dX11_by_79 rfl ?_
            refine mr_imul (pc' := 81) dX11_by_80 rfl ?_
            refine mr_iload (pc' := 83) dX11_by_81 rfl rfl ?_
            refine mr_iadd (pc' := 84) dX11_by_83 rfl ?_
            obtain ⟨a31, g32, h33⟩ := Option.bind_eq_some_iff.mp h29
            refine mr_lald (pc' := 85) dX11_by_84 rfl rfl rfl g32 ?_
            refine mr_iload (pc' := 87) dX11_by_85 rfl rfl ?_
            refine mr_i2l (pc' := 88) dX11_by_87 rfl ?_
            refine mr_iload_n (pc' := 89) dX11_by_88 rfl rfl ?_
            by_cases c34 : (0 : Int32) ≤ v3
            · rw [if_pos c34] at h33
              refine mr_if_ge_t (t := 100) dX11_by_89 (by decide) c34 ?_
              refine mr_aload_n (pc' := 101) dX11_by_100 rfl rfl ?_
              refine mr_iload_n (pc' := 102) dX11_by_101 rfl rfl ?_
              obtain ⟨q35, g36, h37⟩ := Option.bind_eq_some_iff.mp h33
              refine mr_cv (pc' := 105) (a := 145) (d1 := 1) dX11_by_102 rfl rfl rfl rfl rfl rfl (by decide) rfl (by decide) (ok_X11_stairParts hR  g36) ?_
              show mr X _ _ 105 _ [.long q35, .long (Int32.toInt64 q2), .long a31] (MM RR S) _
              refine mr_lmul (pc' := 106) dX11_by_105 rfl ?_
              refine mr_ladd (pc' := 107) dX11_by_106 rfl ?_
              obtain rfl := Option.some.inj h37
              exact mr_lreturn dX11_by_107 rfl
            · rw [if_neg c34] at h33
              refine mr_if_ge_f (t := 100) (pc' := 92) dX11_by_89 (by decide) rfl c34 ?_
              refine mr_aload_n (pc' := 93) dX11_by_92 rfl rfl ?_
              refine mr_iload_n (pc' := 94) dX11_by_93 rfl rfl ?_
              obtain ⟨q38, g39, h40⟩ := Option.bind_eq_some_iff.mp h33
              refine mr_cv (pc' := 97) (a := 145) (d1 := 0) dX11_by_94 rfl rfl rfl rfl rfl rfl (by decide) rfl (by decide) (ok_X11_floorParts hR  g39) ?_
              show mr X _ _ 97 _ [.long q38, .long (Int32.toInt64 q2), .long a31] (MM RR S) _
              refine mr_goto (t := 105) dX11_by_97 (by decide) ?_
              refine mr_lmul (pc' := 106) dX11_by_105 rfl ?_
              refine mr_ladd (pc' := 107) dX11_by_106 rfl ?_
              obtain rfl := Option.some.inj h40
              exact mr_lreturn dX11_by_107 rfl
          · rw [if_neg c30] at h29
            refine mr_lcmp_ge_f (t := 70) (pc' := 66) dX11_by_62 rfl dX11_by_63 (by decide) rfl c30 ?_
            refine mr_ldc2 (pc' := 69) (v := (-1 : Int64)) dX11_by_66 rfl rfl ?_
            obtain rfl := Option.some.inj h29
            exact mr_lreturn dX11_by_69 rfl
  · rw [if_neg c1] at h
    refine mr_if_ge_f (t := 8) (pc' := 4) dX11_by_1 (by decide) rfl c1 ?_
    refine mr_iconst (pc' := 5) (v := (1 : Int32)) dX11_by_4 rfl (by decide) ?_
    refine mr_goto (t := 14) dX11_by_5 (by decide) ?_
    refine mr_istore (pc' := 16) (lv' := [(5, .int (1 : Int32)), (0, .ref 145), (1, .int v1), (2, .int v2), (3, .int v3), (4, .int v4)]) dX11_by_14 rfl (by decide) rfl ?_
    refine mr_iload_n (pc' := 17) dX11_by_16 rfl rfl ?_
    by_cases c41 : (0 : Int32) ≤ v3
    · rw [if_pos c41] at h
      refine mr_if_ge_t (t := 24) dX11_by_17 (by decide) c41 ?_
      refine mr_aload_n (pc' := 25) dX11_by_24 rfl rfl ?_
      refine mr_iload_n (pc' := 26) dX11_by_25 rfl rfl ?_
      refine mr_iload_n (pc' := 27) dX11_by_26 rfl rfl ?_
      obtain ⟨q42, g43, h44⟩ := Option.bind_eq_some_iff.mp h
      refine mr_cv (pc' := 30) (a := 145) (d1 := 1) dX11_by_27 rfl rfl rfl rfl rfl rfl (by decide) rfl (by decide) (ok_X11_otherEnd hR  g43) ?_
      show mr X _ _ 30 _ [.int q42] (MM RR S) _
      refine mr_istore (pc' := 32) (lv' := [(6, .int q42), (5, .int (1 : Int32)), (0, .ref 145), (1, .int v1), (2, .int v2), (3, .int v3), (4, .int v4)]) dX11_by_30 rfl (by decide) rfl ?_
      refine mr_iload (pc' := 34) dX11_by_32 rfl rfl ?_
      by_cases c45 : q42 < (0 : Int32)
      · rw [if_pos c45] at h44
        refine mr_if_lt_t (t := 66) dX11_by_34 (by decide) c45 ?_
        refine mr_ldc2 (pc' := 69) (v := (-1 : Int64)) dX11_by_66 rfl rfl ?_
        obtain rfl := Option.some.inj h44
        exact mr_lreturn dX11_by_69 rfl
      · rw [if_neg c45] at h44
        refine mr_if_lt_f (t := 66) (pc' := 37) dX11_by_34 (by decide) rfl c45 ?_
        refine mr_iload_n (pc' := 38) dX11_by_37 rfl rfl ?_
        refine mr_iload (pc' := 40) dX11_by_38 rfl rfl ?_
        refine mr_iadd (pc' := 41) dX11_by_40 rfl ?_
        refine mr_iload (pc' := 43) dX11_by_41 rfl rfl ?_
        by_cases c46 : v4 < (v2 + (1 : Int32))
        · rw [if_pos c46] at h44
          refine mr_icmp_gt_t (t := 66) dX11_by_43 (by decide) c46 ?_
          refine mr_ldc2 (pc' := 69) (v := (-1 : Int64)) dX11_by_66 rfl rfl ?_
          obtain rfl := Option.some.inj h44
          exact mr_lreturn dX11_by_69 rfl
        · rw [if_neg c46] at h44
          refine mr_icmp_gt_f (t := 66) (pc' := 46) dX11_by_43 (by decide) rfl c46 ?_
          refine mr_aload_n (pc' := 47) dX11_by_46 rfl rfl ?_
          refine mr_getR (pc' := 50) (ci := 11) (j := 30) (b := 162) hR dX11_by_47 rfl rfl rfl (by decide) (by decide) (by decide) rfl rfl ?_
          refine mr_bipush (pc' := 52) (v := (10 : Int32)) dX11_by_50 rfl (by decide) ?_
          refine mr_iload_n (pc' := 53) dX11_by_52 rfl rfl ?_
          refine mr_iload (pc' := 55) dX11_by_53 rfl rfl ?_
          refine mr_iadd (pc' := 56) dX11_by_55 rfl ?_
          refine mr_imul (pc' := 57) dX11_by_56 rfl ?_
          refine mr_iload (pc' := 59) dX11_by_57 rfl rfl ?_
          refine mr_iadd (pc' := 60) dX11_by_59 rfl ?_
          obtain ⟨a47, g48, h49⟩ := Option.bind_eq_some_iff.mp h44
          refine mr_lald (pc' := 61) dX11_by_60 rfl rfl rfl g48 ?_
          refine mr_lconst (pc' := 62) (v := (0 : Int64)) dX11_by_61 rfl (by decide) ?_
          by_cases c50 : (0 : Int64) ≤ a47
          · rw [if_pos c50] at h49
            refine mr_lcmp_ge_t (t := 70) dX11_by_62 rfl dX11_by_63 (by decide) c50 ?_
            refine mr_aload_n (pc' := 71) dX11_by_70 rfl rfl ?_
            refine mr_getR (pc' := 74) (ci := 11) (j := 30) (b := 162) hR dX11_by_71 rfl rfl rfl (by decide) (by decide) (by decide) rfl rfl ?_
            refine mr_bipush (pc' := 76) (v := (10 : Int32)) dX11_by_74 rfl (by decide) ?_
            refine mr_iload_n (pc' := 77) dX11_by_76 rfl rfl ?_
            refine mr_iload (pc' := 79) dX11_by_77 rfl rfl ?_
            refine mr_iadd (pc' := 80) dX11_by_79 rfl ?_
            refine mr_imul (pc' := 81) dX11_by_80 rfl ?_
            refine mr_iload (pc' := 83) dX11_by_81 rfl rfl ?_
            refine mr_iadd (pc' := 84) dX11_by_83 rfl ?_
            obtain ⟨a51, g52, h53⟩ := Option.bind_eq_some_iff.mp h49
            refine mr_lald (pc' := 85) dX11_by_84 rfl rfl rfl g52 ?_
            refine mr_iload (pc' := 87) dX11_by_85 rfl rfl ?_
            refine mr_i2l (pc' := 88) dX11_by_87 rfl ?_
            refine mr_iload_n (pc' := 89) dX11_by_88 rfl rfl ?_
            by_cases c54 : (0 : Int32) ≤ v3
            · rw [if_pos c54] at h53
              refine mr_if_ge_t (t := 100) dX11_by_89 (by decide) c54 ?_
              refine mr_aload_n (pc' := 101) dX11_by_100 rfl rfl ?_
              refine mr_iload_n (pc' := 102) dX11_by_101 rfl rfl ?_
              obtain ⟨q55, g56, h57⟩ := Option.bind_eq_some_iff.mp h53
              refine mr_cv (pc' := 105) (a := 145) (d1 := 1) dX11_by_102 rfl rfl rfl rfl rfl rfl (by decide) rfl (by decide) (ok_X11_stairParts hR  g56) ?_
              show mr X _ _ 105 _ [.long q55, .long (Int32.toInt64 (1 : Int32)), .long a51] (MM RR S) _
              refine mr_lmul (pc' := 106) dX11_by_105 rfl ?_
              refine mr_ladd (pc' := 107) dX11_by_106 rfl ?_
              obtain rfl := Option.some.inj h57
              exact mr_lreturn dX11_by_107 rfl
            · rw [if_neg c54] at h53
              refine mr_if_ge_f (t := 100) (pc' := 92) dX11_by_89 (by decide) rfl c54 ?_
              refine mr_aload_n (pc' := 93) dX11_by_92 rfl rfl ?_
              refine mr_iload_n (pc' := 94) dX11_by_93 rfl rfl ?_
              obtain ⟨q58, g59, h60⟩ := Option.bind_eq_some_iff.mp h53
              refine mr_cv (pc' := 97) (a := 145) (d1 := 0) dX11_by_94 rfl rfl rfl rfl rfl rfl (by decide) rfl (by decide) (ok_X11_floorParts hR  g59) ?_
              show mr X _ _ 97 _ [.long q58, .long (Int32.toInt64 (1 : Int32)), .long a51] (MM RR S) _
              refine mr_goto (t := 105) dX11_by_97 (by decide) ?_
              refine mr_lmul (pc' := 106) dX11_by_105 rfl ?_
              refine mr_ladd (pc' := 107) dX11_by_106 rfl ?_
              obtain rfl := Option.some.inj h60
              exact mr_lreturn dX11_by_107 rfl
          · rw [if_neg c50] at h49
            refine mr_lcmp_ge_f (t := 70) (pc' := 66) dX11_by_62 rfl dX11_by_63 (by decide) rfl c50 ?_
            refine mr_ldc2 (pc' := 69) (v := (-1 : Int64)) dX11_by_66 rfl rfl ?_
            obtain rfl := Option.some.inj h49
            exact mr_lreturn dX11_by_69 rfl
    · rw [if_neg c41] at h
      refine mr_if_ge_f (t := 24) (pc' := 20) dX11_by_17 (by decide) rfl c41 ?_
      refine mr_iload_n (pc' := 21) dX11_by_20 rfl rfl ?_
      refine mr_goto (t := 30) dX11_by_21 (by decide) ?_
      refine mr_istore (pc' := 32) (lv' := [(6, .int v1), (5, .int (1 : Int32)), (0, .ref 145), (1, .int v1), (2, .int v2), (3, .int v3), (4, .int v4)]) dX11_by_30 rfl (by decide) rfl ?_
      refine mr_iload (pc' := 34) dX11_by_32 rfl rfl ?_
      by_cases c61 : v1 < (0 : Int32)
      · rw [if_pos c61] at h
        refine mr_if_lt_t (t := 66) dX11_by_34 (by decide) c61 ?_
        refine mr_ldc2 (pc' := 69) (v := (-1 : Int64)) dX11_by_66 rfl rfl ?_
        obtain rfl := Option.some.inj h
        exact mr_lreturn dX11_by_69 rfl
      · rw [if_neg c61] at h
        refine mr_if_lt_f (t := 66) (pc' := 37) dX11_by_34 (by decide) rfl c61 ?_
        refine mr_iload_n (pc' := 38) dX11_by_37 rfl rfl ?_
        refine mr_iload (pc' := 40) dX11_by_38 rfl rfl ?_
        refine mr_iadd (pc' := 41) dX11_by_40 rfl ?_
        refine mr_iload (pc' := 43) dX11_by_41 rfl rfl ?_
        by_cases c62 : v4 < (v2 + (1 : Int32))
        · rw [if_pos c62] at h
          refine mr_icmp_gt_t (t := 66) dX11_by_43 (by decide) c62 ?_
          refine mr_ldc2 (pc' := 69) (v := (-1 : Int64)) dX11_by_66 rfl rfl ?_
          obtain rfl := Option.some.inj h
          exact mr_lreturn dX11_by_69 rfl
        · rw [if_neg c62] at h
          refine mr_icmp_gt_f (t := 66) (pc' := 46) dX11_by_43 (by decide) rfl c62 ?_
          refine mr_aload_n (pc' := 47) dX11_by_46 rfl rfl ?_
          refine mr_getR (pc' := 50) (ci := 11) (j := 30) (b := 162) hR dX11_by_47 rfl rfl rfl (by decide) (by decide) (by decide) rfl rfl ?_
          refine mr_bipush (pc' := 52) (v := (10 : Int32)) dX11_by_50 rfl (by decide) ?_
          refine mr_iload_n (pc' := 53) dX11_by_52 rfl rfl ?_
          refine mr_iload (pc' := 55) dX11_by_53 rfl rfl ?_
          refine mr_iadd (pc' := 56) dX11_by_55 rfl ?_
          refine mr_imul (pc' := 57) dX11_by_56 rfl ?_
          refine mr_iload (pc' := 59) dX11_by_57 rfl rfl ?_
          refine mr_iadd (pc' := 60) dX11_by_59 rfl ?_
          obtain ⟨a63, g64, h65⟩ := Option.bind_eq_some_iff.mp h
          refine mr_lald (pc' := 61) dX11_by_60 rfl rfl rfl g64 ?_
          refine mr_lconst (pc' := 62) (v := (0 : Int64)) dX11_by_61 rfl (by decide) ?_
          by_cases c66 : (0 : Int64) ≤ a63
          · rw [if_pos c66] at h65
            refine mr_lcmp_ge_t (t := 70) dX11_by_62 rfl dX11_by_63 (by decide) c66 ?_
            refine mr_aload_n (pc' := 71) dX11_by_70 rfl rfl ?_
            refine mr_getR (pc' := 74) (ci := 11) (j := 30) (b := 162) hR dX11_by_71 rfl rfl rfl (by decide) (by decide) (by decide) rfl rfl ?_
            refine mr_bipush (pc' := 76) (v := (10 : Int32)) dX11_by_74 rfl (by decide) ?_
            refine mr_iload_n (pc' := 77) dX11_by_76 rfl rfl ?_
            refine mr_iload (pc' := 79) dX11_by_77 rfl rfl ?_
            refine mr_iadd (pc' := 80) dX11_by_79 rfl ?_
            refine mr_imul (pc' := 81) dX11_by_80 rfl ?_
            refine mr_iload (pc' := 83) dX11_by_81 rfl rfl ?_
            refine mr_iadd (pc' := 84) dX11_by_83 rfl ?_
            obtain ⟨a67, g68, h69⟩ := Option.bind_eq_some_iff.mp h65
            refine mr_lald (pc' := 85) dX11_by_84 rfl rfl rfl g68 ?_
            refine mr_iload (pc' := 87) dX11_by_85 rfl rfl ?_
            refine mr_i2l (pc' := 88) dX11_by_87 rfl ?_
            refine mr_iload_n (pc' := 89) dX11_by_88 rfl rfl ?_
            by_cases c70 : (0 : Int32) ≤ v3
            · rw [if_pos c70] at h69
              refine mr_if_ge_t (t := 100) dX11_by_89 (by decide) c70 ?_
              refine mr_aload_n (pc' := 101) dX11_by_100 rfl rfl ?_
              refine mr_iload_n (pc' := 102) dX11_by_101 rfl rfl ?_
              obtain ⟨q71, g72, h73⟩ := Option.bind_eq_some_iff.mp h69
              refine mr_cv (pc' := 105) (a := 145) (d1 := 1) dX11_by_102 rfl rfl rfl rfl rfl rfl (by decide) rfl (by decide) (ok_X11_stairParts hR  g72) ?_
              show mr X _ _ 105 _ [.long q71, .long (Int32.toInt64 (1 : Int32)), .long a67] (MM RR S) _
              refine mr_lmul (pc' := 106) dX11_by_105 rfl ?_
              refine mr_ladd (pc' := 107) dX11_by_106 rfl ?_
              obtain rfl := Option.some.inj h73
              exact mr_lreturn dX11_by_107 rfl
            · rw [if_neg c70] at h69
              refine mr_if_ge_f (t := 100) (pc' := 92) dX11_by_89 (by decide) rfl c70 ?_
              refine mr_aload_n (pc' := 93) dX11_by_92 rfl rfl ?_
              refine mr_iload_n (pc' := 94) dX11_by_93 rfl rfl ?_
              obtain ⟨q74, g75, h76⟩ := Option.bind_eq_some_iff.mp h69
              refine mr_cv (pc' := 97) (a := 145) (d1 := 0) dX11_by_94 rfl rfl rfl rfl rfl rfl (by decide) rfl (by decide) (ok_X11_floorParts hR  g75) ?_
              show mr X _ _ 97 _ [.long q74, .long (Int32.toInt64 (1 : Int32)), .long a67] (MM RR S) _
              refine mr_goto (t := 105) dX11_by_97 (by decide) ?_
              refine mr_lmul (pc' := 106) dX11_by_105 rfl ?_
              refine mr_ladd (pc' := 107) dX11_by_106 rfl ?_
              obtain rfl := Option.some.inj h76
              exact mr_lreturn dX11_by_107 rfl
          · rw [if_neg c66] at h65
            refine mr_lcmp_ge_f (t := 70) (pc' := 66) dX11_by_62 rfl dX11_by_63 (by decide) rfl c66 ?_
            refine mr_ldc2 (pc' := 69) (v := (-1 : Int64)) dX11_by_66 rfl rfl ?_
            obtain rfl := Option.some.inj h65
            exact mr_lreturn dX11_by_69 rfl
def f_X11_isBetter (v1 : Int64) (v3 : Int64) (v5 : Int32) (S : fS) : Option (Int32) :=
  if v3 < (0 : Int64) then (some (1 : Int32)) else
  (if v5 = (0 : Int32) then (if v3 ≤ v1 then (some (0 : Int32)) else
  (some (1 : Int32))) else
  (if v1 ≤ v3 then (some (0 : Int32)) else
  (some (1 : Int32))))
set_option maxHeartbeats 4000000 in
set_option maxRecDepth 100000 in
theorem ok_X11_isBetter {X : mm_C} {RR : Nat → Nat → Option Nat} (hR : RRok RR) {v1 : Int64} {v3 : Int64} {v5 : Int32}  {S : fS} {r : Int32} (h : f_X11_isBetter v1 v3 v5 S = some r) : mr X 0 mY_X11_isBetter 0 (lv_args 0 [.ref 145, .long v1, .long v3, .int v5]) [] (MM RR S) (some (.int r), MM RR S) := by
  unfold f_X11_isBetter at h
  show mr X _ _ 0 [(0, .ref 145), (1, .long v1), (3, .long v3), (5, .int v5)] [] (MM RR S) _
  refine mr_lload_n (pc' := 1) dX11_isBetter_0 rfl rfl ?_
  refine mr_lconst (pc' := 2) (v := (0 : Int64)) dX11_isBetter_1 rfl (by decide) ?_
  by_cases c1 : v3 < (0 : Int64)
  · rw [if_pos c1] at h
    refine mr_lcmp_lt_t (t := 26) dX11_isBetter_2 rfl dX11_isBetter_3 (by decide) c1 ?_
    refine mr_iconst (pc' := 27) (v := (1 : Int32)) dX11_isBetter_26 rfl (by decide) ?_
    refine mr_goto (t := 31) dX11_isBetter_27 (by decide) ?_
    obtain rfl := Option.some.inj h
    exact mr_zreturn dX11_isBetter_31 rfl (by decide)
  · rw [if_neg c1] at h
    refine mr_lcmp_lt_f (t := 26) (pc' := 6) dX11_isBetter_2 rfl dX11_isBetter_3 (by decide) rfl c1 ?_
    refine mr_iload (pc' := 8) dX11_isBetter_6 rfl rfl ?_
    by_cases c2 : v5 = (0 : Int32)
    · rw [if_pos c2] at h
      refine mr_if_eq_t (t := 20) dX11_isBetter_8 (by decide) c2 ?_
      refine mr_lload_n (pc' := 21) dX11_isBetter_20 rfl rfl ?_
      refine mr_lload_n (pc' := 22) dX11_isBetter_21 rfl rfl ?_
      by_cases c3 : v3 ≤ v1
      · rw [if_pos c3] at h
        refine mr_lcmp_ge_t (t := 30) dX11_isBetter_22 rfl dX11_isBetter_23 (by decide) c3 ?_
        refine mr_iconst (pc' := 31) (v := (0 : Int32)) dX11_isBetter_30 rfl (by decide) ?_
        obtain rfl := Option.some.inj h
        exact mr_zreturn dX11_isBetter_31 rfl (by decide)
      · rw [if_neg c3] at h
        refine mr_lcmp_ge_f (t := 30) (pc' := 26) dX11_isBetter_22 rfl dX11_isBetter_23 (by decide) rfl c3 ?_
        refine mr_iconst (pc' := 27) (v := (1 : Int32)) dX11_isBetter_26 rfl (by decide) ?_
        refine mr_goto (t := 31) dX11_isBetter_27 (by decide) ?_
        obtain rfl := Option.some.inj h
        exact mr_zreturn dX11_isBetter_31 rfl (by decide)
    · rw [if_neg c2] at h
      refine mr_if_eq_f (t := 20) (pc' := 11) dX11_isBetter_8 (by decide) rfl c2 ?_
      refine mr_lload_n (pc' := 12) dX11_isBetter_11 rfl rfl ?_
      refine mr_lload_n (pc' := 13) dX11_isBetter_12 rfl rfl ?_
      by_cases c4 : v1 ≤ v3
      · rw [if_pos c4] at h
        refine mr_lcmp_le_t (t := 30) dX11_isBetter_13 rfl dX11_isBetter_14 (by decide) c4 ?_
        refine mr_iconst (pc' := 31) (v := (0 : Int32)) dX11_isBetter_30 rfl (by decide) ?_
        obtain rfl := Option.some.inj h
        exact mr_zreturn dX11_isBetter_31 rfl (by decide)
      · rw [if_neg c4] at h
        refine mr_lcmp_le_f (t := 30) (pc' := 17) dX11_isBetter_13 rfl dX11_isBetter_14 (by decide) rfl c4 ?_
        refine mr_goto (t := 26) dX11_isBetter_17 (by decide) ?_
        refine mr_iconst (pc' := 27) (v := (1 : Int32)) dX11_isBetter_26 rfl (by decide) ?_
        refine mr_goto (t := 31) dX11_isBetter_27 (by decide) ?_
        obtain rfl := Option.some.inj h
        exact mr_zreturn dX11_isBetter_31 rfl (by decide)
