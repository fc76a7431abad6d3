def lp_X11_readsAll_35  (K : Int32 → fS → Option (Int32 × fS)) : Nat → Int32 → fS → Option (Int32 × fS)
  | 0, _, _ => none
  | n + 1, p1, S0 =>
    if p1 = (0 : Int32) then (K p1 S0) else
    ((f_X11_see  S0).bind fun q20 =>
    if q20.1 = (59 : Int32) then ((some (pI q20.2 145 13 ((q20.2.1 145 13) + (1 : Int32)))).bind fun S24 =>
    (f_X11_clauseHere  S24).bind fun q27 =>
    lp_X11_readsAll_35  K n q27.1 q27.2) else
    (K p1 q20.2))
set_option maxHeartbeats 4000000 in
set_option maxRecDepth 100000 in
theorem ok_lp_X11_readsAll_35 {X : mm_C} {RR : Nat → Nat → Option Nat} (hR : RRok RR)   {K : Int32 → fS → Option (Int32 × fS)} {r : Int32 × fS} (hK : ∀ (k1 : Int32) (Sk : fS), K k1 Sk = some r → mr X 11 mY_X11_readsAll 66 [(0, .ref 145), (1, .int k1)] [] (MM RR Sk) (some (.int r.1), MM RR r.2)) : ∀ (n : Nat) (p1 : Int32) (S0 : fS), lp_X11_readsAll_35  K n p1 S0 = some r → mr X 11 mY_X11_readsAll 35 [(0, .ref 145), (1, .int p1)] [] (MM RR S0) (some (.int r.1), MM RR r.2) := by
  intro n
  induction n with
  | zero => intro p1 S0 h; exact mm_no h
  | succ n ih =>
    intro p1 S0 h
    unfold lp_X11_readsAll_35 at h
    refine mr_iload_n (pc' := 36) dX11_readsAll_35 rfl rfl ?_
    by_cases c19 : p1 = (0 : Int32)
    · rw [if_pos c19] at h
      refine mr_if_eq_t (t := 66) dX11_readsAll_36 (by decide) c19 ?_
      exact mr_sub [(0, .ref 145), (1, .int p1)] ⟨rfl, rfl, trivial⟩ rfl (hK _ _  h)
    · rw [if_neg c19] at h
      refine mr_if_eq_f (t := 66) (pc' := 39) dX11_readsAll_36 (by decide) rfl c19 ?_
      refine mr_aload_n (pc' := 40) dX11_readsAll_39 rfl rfl ?_
      obtain ⟨q20, g21, h22⟩ := Option.bind_eq_some_iff.mp h
      refine mr_cv (pc' := 43) (a := 145) (d1 := 0) dX11_readsAll_40 rfl rfl rfl rfl rfl rfl (by decide) rfl (by decide) (ok_X11_see hR  g21) ?_
      show mr X _ _ 43 _ [.int q20.1] (MM RR q20.2) _
      refine mr_bipush (pc' := 45) (v := (59 : Int32)) dX11_readsAll_43 rfl (by decide) ?_
      by_cases c23 : q20.1 = (59 : Int32)
      · rw [if_pos c23] at h22
        refine mr_icmp_ne_f (t := 66) (pc' := 48) dX11_readsAll_45 (by decide) rfl (not_not_intro c23) ?_
        refine mr_aload_n (pc' := 49) dX11_readsAll_48 rfl rfl ?_
        refine mr_dup_ref (pc' := 50) dX11_readsAll_49 rfl ?_
        refine mr_getI (pc' := 53) (ci := 11) (j := 13) dX11_readsAll_50 rfl rfl rfl (by decide) (by decide) rfl ?_
        refine mr_iconst (pc' := 54) (v := (1 : Int32)) dX11_readsAll_53 rfl (by decide) ?_
        refine mr_iadd (pc' := 55) dX11_readsAll_54 rfl ?_
        obtain ⟨S24, g25, h26⟩ := Option.bind_eq_some_iff.mp h22
        refine mr_putI (pc' := 58) (ci := 11) (j := 13) dX11_readsAll_55 rfl rfl rfl (by decide) (by decide) rfl rfl ?_
        rw [Option.some.inj g25]
        refine mr_aload_n (pc' := 59) dX11_readsAll_58 rfl rfl ?_
        obtain ⟨q27, g28, h29⟩ := Option.bind_eq_some_iff.mp h26
        refine mr_cv (pc' := 62) (a := 145) (d1 := 10) dX11_readsAll_59 rfl rfl rfl rfl rfl rfl (by decide) rfl (by decide) (ok_X11_clauseHere hR  g28) ?_
        show mr X _ _ 62 _ [.int q27.1] (MM RR q27.2) _
        refine mr_istore_n (pc' := 63) (lv' := [(1, .int q27.1), (0, .ref 145)]) dX11_readsAll_62 rfl (by decide) rfl ?_
        refine mr_goto (t := 35) dX11_readsAll_63 (by decide) ?_
        exact mr_sub [(0, .ref 145), (1, .int q27.1)] ⟨rfl, rfl, trivial⟩ rfl (ih _ _  h29)
      · rw [if_neg c23] at h22
        refine mr_icmp_ne_t (t := 66) dX11_readsAll_45 (by decide) c23 ?_
        exact mr_sub [(0, .ref 145), (1, .int p1)] ⟨rfl, rfl, trivial⟩ rfl (hK _ _  h22)
def f_X11_readsAll  (S : fS) : Option (Int32 × fS) :=
  (sI S 148 7 (S.1 145 16) (0 : Int32)).bind fun S1 =>
  (some (pI S1 145 19 (0 : Int32))).bind fun S4 =>
  (some (pI S4 145 13 (0 : Int32))).bind fun S7 =>
  (some (pI S7 145 14 (0 : Int32))).bind fun S10 =>
  (some (pI S10 145 17 (0 : Int32))).bind fun S13 =>
  (f_X11_clauseHere  S13).bind fun q16 =>
  lp_X11_readsAll_35  (fun u30 S31 => if u30 = (0 : Int32) then (if u30 = (0 : Int32) then ((some (pI S31 145 1 (0 : Int32))).bind fun S35 =>
  if (S35.1 145 14) = (0 : Int32) then (some ((1 : Int32), S35)) else
  (some ((0 : Int32), S35))) else
  (if (S31.1 145 16) = (6 : Int32) then (if (S31.1 145 7) = (0 : Int32) then ((f_X11_fails (0 : Int32) (S31.1 145 13) S31).bind fun q49 =>
  (some (pI q49.2 145 1 (0 : Int32))).bind fun S52 =>
  if (S52.1 145 14) = (0 : Int32) then (some ((1 : Int32), S52)) else
  (some ((0 : Int32), S52))) else
  ((some (pI S31 145 1 (0 : Int32))).bind fun S45 =>
  if (S45.1 145 14) = (0 : Int32) then (some ((1 : Int32), S45)) else
  (some ((0 : Int32), S45)))) else
  ((some (pI S31 145 1 (0 : Int32))).bind fun S40 =>
  if (S40.1 145 14) = (0 : Int32) then (some ((1 : Int32), S40)) else
  (some ((0 : Int32), S40))))) else
  ((f_X11_see  S31).bind fun q56 =>
  if q56.1 = (-1 : Int32) then (if u30 = (0 : Int32) then ((some (pI q56.2 145 1 (0 : Int32))).bind fun S61 =>
  if (S61.1 145 14) = (0 : Int32) then (some ((1 : Int32), S61)) else
  (some ((0 : Int32), S61))) else
  (if (q56.2.1 145 16) = (6 : Int32) then (if (q56.2.1 145 7) = (0 : Int32) then ((f_X11_fails (0 : Int32) (q56.2.1 145 13) q56.2).bind fun q75 =>
  (some (pI q75.2 145 1 (0 : Int32))).bind fun S78 =>
  if (S78.1 145 14) = (0 : Int32) then (some ((1 : Int32), S78)) else
  (some ((0 : Int32), S78))) else
  ((some (pI q56.2 145 1 (0 : Int32))).bind fun S71 =>
  if (S71.1 145 14) = (0 : Int32) then (some ((1 : Int32), S71)) else
  (some ((0 : Int32), S71)))) else
  ((some (pI q56.2 145 1 (0 : Int32))).bind fun S66 =>
  if (S66.1 145 14) = (0 : Int32) then (some ((1 : Int32), S66)) else
  (some ((0 : Int32), S66))))) else
  ((f_X11_fails (0 : Int32) (q56.2.1 145 13) q56.2).bind fun q82 =>
  if q82.1 = (0 : Int32) then ((some (pI q82.2 145 1 (0 : Int32))).bind fun S86 =>
  if (S86.1 145 14) = (0 : Int32) then (some ((1 : Int32), S86)) else
  (some ((0 : Int32), S86))) else
  (if (q82.2.1 145 16) = (6 : Int32) then (if (q82.2.1 145 7) = (0 : Int32) then ((f_X11_fails (0 : Int32) (q82.2.1 145 13) q82.2).bind fun q100 =>
  (some (pI q100.2 145 1 (0 : Int32))).bind fun S103 =>
  if (S103.1 145 14) = (0 : Int32) then (some ((1 : Int32), S103)) else
  (some ((0 : Int32), S103))) else
  ((some (pI q82.2 145 1 (0 : Int32))).bind fun S96 =>
  if (S96.1 145 14) = (0 : Int32) then (some ((1 : Int32), S96)) else
  (some ((0 : Int32), S96)))) else
  ((some (pI q82.2 145 1 (0 : Int32))).bind fun S91 =>
  if (S91.1 145 14) = (0 : Int32) then (some ((1 : Int32), S91)) else
  (some ((0 : Int32), S91))))))) FU q16.1 q16.2
set_option maxHeartbeats 4000000 in
set_option maxRecDepth 100000 in
theorem ok_X11_readsAll {X : mm_C} {RR : Nat → Nat → Option Nat} (hR : RRok RR)   {S : fS} {r : Int32 × fS} (h : f_X11_readsAll  S = some r) : mr X 11 mY_X11_readsAll 0 (lv_args 0 [.ref 145]) [] (MM RR S) (some (.int r.1), MM RR r.2) := by
  unfold f_X11_readsAll at h
  show mr X _ _ 0 [(0, .ref 145)] [] (MM RR S) _
  refine mr_aload_n (pc' := 1) dX11_readsAll_0 rfl rfl ?_
  refine mr_getR (pc' := 4) (ci := 11) (j := 4) (b := 148) hR dX11_readsAll_1 rfl rfl rfl (by decide) (by decide) (by decide) rfl rfl ?_
  refine mr_aload_n (pc' := 5) dX11_readsAll_4 rfl rfl ?_
  refine mr_getI (pc' := 8) (ci := 11) (j := 16) dX11_readsAll_5 rfl rfl rfl (by decide) (by decide) rfl ?_
  refine mr_iconst (pc' := 9) (v := (0 : Int32)) dX11_readsAll_8 rfl (by decide) ?_
  obtain ⟨S1, g2, h3⟩ := Option.bind_eq_some_iff.mp h
  refine mr_iast (pc' := 10) dX11_readsAll_9 rfl rfl rfl g2 ?_
  refine mr_aload_n (pc' := 11) dX11_readsAll_10 rfl rfl ?_
  refine mr_iconst (pc' := 12) (v := (0 : Int32)) dX11_readsAll_11 rfl (by decide) ?_
  obtain ⟨S4, g5, h6⟩ := Option.bind_eq_some_iff.mp h3
  refine mr_putI (pc' := 15) (ci := 11) (j := 19) dX11_readsAll_12 rfl rfl rfl (by decide) (by decide) rfl rfl ?_
  rw [Option.some.inj g5]
  refine mr_aload_n (pc' := 16) dX11_readsAll_15 rfl rfl ?_
  refine mr_iconst (pc' := 17) (v := (0 : Int32)) dX11_readsAll_16 rfl (by decide) ?_
  obtain ⟨S7, g8, h9⟩ := Option.bind_eq_some_iff.mp h6
  refine mr_putI (pc' := 20) (ci := 11) (j := 13) dX11_readsAll_17 rfl rfl rfl (by decide) (by decide) rfl rfl ?_
  rw [Option.some.inj g8]
  refine mr_aload_n (pc' := 21) dX11_readsAll_20 rfl rfl ?_
  refine mr_iconst (pc' := 22) (v := (0 : Int32)) dX11_readsAll_21 rfl (by decide) ?_
  obtain ⟨S10, g11, h12⟩ := Option.bind_eq_some_iff.mp h9
  refine mr_putI (pc' := 25) (ci := 11) (j := 14) dX11_readsAll_22 rfl rfl rfl (by decide) (by decide) rfl rfl ?_
  rw [Option.some.inj g11]
  refine mr_aload_n (pc' := 26) dX11_readsAll_25 rfl rfl ?_
  refine mr_iconst (pc' := 27) (v := (0 : Int32)) dX11_readsAll_26 rfl (by decide) ?_
  obtain ⟨S13, g14, h15⟩ := Option.bind_eq_some_iff.mp h12
  refine mr_putI (pc' := 30) (ci := 11) (j := 17) dX11_readsAll_27 rfl rfl rfl (by decide) (by decide) rfl rfl ?_
  rw [Option.some.inj g14]
  refine mr_aload_n (pc' := 31) dX11_readsAll_30 rfl rfl ?_
  obtain ⟨q16, g17, h18⟩ := Option.bind_eq_some_iff.mp h15
  refine mr_cv (pc' := 34) (a := 145) (d1 := 10) dX11_readsAll_31 rfl rfl rfl rfl rfl rfl (by decide) rfl (by decide) (ok_X11_clauseHere hR  g17) ?_
  show mr X _ _ 34 _ [.int q16.1] (MM RR q16.2) _
  refine mr_istore_n (pc' := 35) (lv' := [(1, .int q16.1), (0, .ref 145)]) dX11_readsAll_34 rfl (by decide) rfl ?_
  refine mr_sub [(0, .ref 145), (1, .int q16.1)] ⟨rfl, rfl, trivial⟩ rfl ?_
  refine ok_lp_X11_readsAll_35 hR  (fun u30 S31 h32 => ?_) FU _ _  h18
  refine mr_iload_n (pc' := 67) dX11_readsAll_66 rfl rfl ?_
  by_cases c33 : u30 = (0 : Int32)
  · rw [if_pos c33] at h32
    refine mr_if_eq_t (t := 88) dX11_readsAll_67 (by decide) c33 ?_
    refine mr_iload_n (pc' := 89) dX11_readsAll_88 rfl rfl ?_
    by_cases c34 : u30 = (0 : Int32)
    · rw [if_pos c34] at h32
      refine mr_if_eq_t (t := 118) dX11_readsAll_89 (by decide) c34 ?_
      refine mr_aload_n (pc' := 119) dX11_readsAll_118 rfl rfl ?_
      refine mr_iconst (pc' := 120) (v := (0 : Int32)) dX11_readsAll_119 rfl (by decide) ?_
      obtain ⟨S35, g36, h37⟩ := Option.bind_eq_some_iff.mp h32
      refine mr_putI (pc' := 123) (ci := 11) (j := 1) dX11_readsAll_120 rfl rfl rfl (by decide) (by decide) rfl rfl ?_
      rw [Option.some.inj g36]
      refine mr_aload_n (pc' := 124) dX11_readsAll_123 rfl rfl ?_
      refine mr_getI (pc' := 127) (ci := 11) (j := 14) dX11_readsAll_124 rfl rfl rfl (by decide) (by decide) rfl ?_
      by_cases c38 : (S35.1 145 14) = (0 : Int32)
      · rw [if_pos c38] at h37
        refine mr_if_ne_f (t := 134) (pc' := 130) dX11_readsAll_127 (by decide) rfl (not_not_intro c38) ?_
        refine mr_iconst (pc' := 131) (v := (1 : Int32)) dX11_readsAll_130 rfl (by decide) ?_
        refine mr_goto (t := 135) dX11_readsAll_131 (by decide) ?_
        obtain rfl := Option.some.inj h37
        exact mr_zreturn dX11_readsAll_135 rfl (by decide)
      · rw [if_neg c38] at h37
        refine mr_if_ne_t (t := 134) dX11_readsAll_127 (by decide) c38 ?_
        refine mr_iconst (pc' := 135) (v := (0 : Int32)) dX11_readsAll_134 rfl (by decide) ?_
        obtain rfl := Option.some.inj h37
        exact mr_zreturn dX11_readsAll_135 rfl (by decide)
    · rw [if_neg c34] at h32
      refine mr_if_eq_f (t := 118) (pc' := 92) dX11_readsAll_89 (by decide) rfl c34 ?_
      refine mr_aload_n (pc' := 93) dX11_readsAll_92 rfl rfl ?_
      refine mr_getI (pc' := 96) (ci := 11) (j := 16) dX11_readsAll_93 rfl rfl rfl (by decide) (by decide) rfl ?_
      refine mr_bipush (pc' := 98) (v := (6 : Int32)) dX11_readsAll_96 rfl (by decide) ?_
      by_cases c39 : (S31.1 145 16) = (6 : Int32)
      · rw [if_pos c39] at h32
        refine mr_icmp_ne_f (t := 118) (pc' := 101) dX11_readsAll_98 (by decide) rfl (not_not_intro c39) ?_
        refine mr_aload_n (pc' := 102) dX11_readsAll_101 rfl rfl ?_
        refine mr_getI (pc' := 105) (ci := 11) (j := 7) dX11_readsAll_102 rfl rfl rfl (by decide) (by decide) rfl ?_
        by_cases c44 : (S31.1 145 7) = (0 : Int32)
        · rw [if_pos c44] at h32
          refine mr_if_ne_f (t := 118) (pc' := 108) dX11_readsAll_105 (by decide) rfl (not_not_intro c44) ?_
          refine mr_aload_n (pc' := 109) dX11_readsAll_108 rfl rfl ?_
          refine mr_iconst (pc' := 110) (v := (0 : Int32)) dX11_readsAll_109 rfl (by decide) ?_
          refine mr_aload_n (pc' := 111) dX11_readsAll_110 rfl rfl ?_
          refine mr_getI (pc' := 114) (ci := 11) (j := 13) dX11_readsAll_111 rfl rfl rfl (by decide) (by decide) rfl ?_
          obtain ⟨q49, g50, h51⟩ := Option.bind_eq_some_iff.mp h32
          refine mr_cv (pc' := 117) (a := 145) (d1 := 0) dX11_readsAll_114 rfl rfl rfl rfl rfl rfl (by decide) rfl (by decide) (ok_X11_fails hR  g50) ?_
          show mr X _ _ 117 _ [.int q49.1] (MM RR q49.2) _
          refine mr_pop_int (pc' := 118) dX11_readsAll_117 rfl ?_
          refine mr_aload_n (pc' := 119) dX11_readsAll_118 rfl rfl ?_
          refine mr_iconst (pc' := 120) (v := (0 : Int32)) dX11_readsAll_119 rfl (by decide) ?_
          obtain ⟨S52, g53, h54⟩ := Option.bind_eq_some_iff.mp h51
          refine mr_putI (pc' := 123) (ci := 11) (j := 1) dX11_readsAll_120 rfl rfl rfl (by decide) (by decide) rfl rfl ?_
          rw [Option.some.inj g53]
          refine mr_aload_n (pc' := 124) dX11_readsAll_123 rfl rfl ?_
          refine mr_getI (pc' := 127) (ci := 11) (j := 14) dX11_readsAll_124 rfl rfl rfl (by decide) (by decide) rfl ?_
          by_cases c55 : (S52.1 145 14) = (0 : Int32)
          · rw [if_pos c55] at h54
            refine mr_if_ne_f (t := 134) (pc' := 130) dX11_readsAll_127 (by decide) rfl (not_not_intro c55) ?_
            refine mr_iconst (pc' := 131) (v := (1 : Int32)) dX11_readsAll_130 rfl (by decide) ?_
            refine mr_goto (t := 135) dX11_readsAll_131 (by decide) ?_
            obtain rfl := Option.some.inj h54
            exact mr_zreturn dX11_readsAll_135 rfl (by decide)
          · rw [if_neg c55] at h54
            refine mr_if_ne_t (t := 134) dX11_readsAll_127 (by decide) c55 ?_
            refine mr_iconst (pc' := 135) (v := (0 : Int32)) dX11_readsAll_134 rfl (by decide) ?_
            obtain rfl := Option.some.inj h54
            exact mr_zreturn dX11_readsAll_135 rfl (by decide)
        · rw [if_neg c44] at h32
          refine mr_if_ne_t (t := 118) dX11_readsAll_105 (by decide) c44 ?_
          refine mr_aload_n (pc' := 119) dX11_readsAll_118 rfl rfl ?_
          refine mr_iconst (pc' := 120) (v := (0 : Int32)) dX11_readsAll_119 rfl (by decide) ?_
          obtain ⟨S45, g46, h47⟩ := Option.bind_eq_some_iff.mp h32
          refine mr_putI (pc' := 123) (ci := 11) (j := 1) dX11_readsAll_120 rfl rfl rfl (by decide) (by decide) rfl rfl ?_
          rw [Option.some.inj g46]
          refine mr_aload_n (pc' := 124) dX11_readsAll_123 rfl rfl ?_
          refine mr_getI (pc' := 127) (ci := 11) (j := 14) dX11_readsAll_124 rfl rfl rfl (by decide) (by decide) rfl ?_
          by_cases c48 : (S45.1 145 14) = (0 : Int32)
          · rw [if_pos c48] at h47
            refine mr_if_ne_f (t := 134) (pc' := 130) dX11_readsAll_127 (by decide) rfl (not_not_intro c48) ?_
            refine mr_iconst (pc' := 131) (v := (1 : Int32)) dX11_readsAll_130 rfl (by decide) ?_
            refine mr_goto (t := 135) dX11_readsAll_131 (by decide) ?_
            obtain rfl := Option.some.inj h47
            exact mr_zreturn dX11_readsAll_135 rfl (by decide)
          · rw [if_neg c48] at h47
            refine mr_if_ne_t (t := 134) dX11_readsAll_127 (by decide) c48 ?_
            refine mr_iconst (pc' := 135) (v := (0 : Int32)) dX11_readsAll_134 rfl (by decide) ?_
            obtain rfl := Option.some.inj h47
            exact mr_zreturn dX11_readsAll_135 rfl (by decide)
      · rw [if_neg c39] at h32
        refine mr_icmp_ne_t (t := 118) dX11_readsAll_98 (by decide) c39 ?_
        refine mr_aload_n (pc' := 119) dX11_readsAll_118 rfl rfl ?_
        refine mr_iconst (pc' := 120) (v := (0 : Int32)) dX11_readsAll_119 rfl (by decide) ?_
        obtain ⟨S40, g41, h42⟩ := Option.bind_eq_some_iff.mp h32
        refine mr_putI (pc' := 123) (ci := 11) (j := 1) dX11_readsAll_120 rfl rfl rfl (by decide) (by decide) rfl rfl ?_
        rw [Option.some.inj g41]
        refine mr_aload_n (pc' := 124) dX11_readsAll_123 rfl rfl ?_
        refine mr_getI (pc' := 127) (ci := 11) (j := 14) dX11_readsAll_124 rfl rfl rfl (by decide) (by decide) rfl ?_
        by_cases c43 : (S40.1 145 14) = (0 : Int32)
        · rw [if_pos c43] at h42
          refine mr_if_ne_f (t := 134) (pc' := 130) dX11_readsAll_127 (by decide) rfl (not_not_intro c43) ?_
          refine mr_iconst (pc' := 131) (v := (1 : Int32)) dX11_readsAll_130 rfl (by decide) ?_
          refine mr_goto (t := 135) dX11_readsAll_131 (by decide) ?_
          obtain rfl := Option.some.inj h42
          exact mr_zreturn dX11_readsAll_135 rfl (by decide)
        · rw [if_neg c43] at h42
          refine mr_if_ne_t (t := 134) dX11_readsAll_127 (by decide) c43 ?_
          refine mr_iconst (pc' := 135) (v := (0 : Int32)) dX11_readsAll_134 rfl (by decide) ?_
          obtain rfl := Option.some.inj h42
          exact mr_zreturn dX11_readsAll_135 rfl (by decide)
  · rw [if_neg c33] at h32
    refine mr_if_eq_f (t := 88) (pc' := 70) dX11_readsAll_67 (by decide) rfl c33 ?_
    refine mr_aload_n (pc' := 71) dX11_readsAll_70 rfl rfl ?_
    obtain ⟨q56, g57, h58⟩ := Option.bind_eq_some_iff.mp h32
    refine mr_cv (pc' := 74) (a := 145) (d1 := 0) dX11_readsAll_71 rfl rfl rfl rfl rfl rfl (by decide) rfl (by decide) (ok_X11_see hR  g57) ?_
    show mr X _ _ 74 _ [.int q56.1] (MM RR q56.2) _
    refine mr_iconst (pc' := 75) (v := (-1 : Int32)) dX11_readsAll_74 rfl (by decide) ?_
    by_cases c59 : q56.1 = (-1 : Int32)
    · rw [if_pos c59] at h58
      refine mr_icmp_eq_t (t := 88) dX11_readsAll_75 (by decide) c59 ?_
      refine mr_iload_n (pc' := 89) dX11_readsAll_88 rfl rfl ?_
      by_cases c60 : u30 = (0 : Int32)
      · rw [if_pos c60] at h58
        refine mr_if_eq_t (t := 118) dX11_readsAll_89 (by decide) c60 ?_
        refine mr_aload_n (pc' := 119) dX11_readsAll_118 rfl rfl ?_
        refine mr_iconst (pc' := 120) (v := (0 : Int32)) dX11_readsAll_119 rfl (by decide) ?_
        obtain ⟨S61, g62, h63⟩ := Option.bind_eq_some_iff.mp h58
        refine mr_putI (pc' := 123) (ci := 11) (j := 1) dX11_readsAll_120 rfl rfl rfl (by decide) (by decide) rfl rfl ?_
        rw [Option.some.inj g62]
        refine mr_aload_n (pc' := 124) dX11_readsAll_123 rfl rfl ?_
        refine mr_getI (pc' := 127) (ci := 11) (j := 14) dX11_readsAll_124 rfl rfl rfl (by decide) (by decide) rfl ?_
        by_cases c64 : (S61.1 145 14) = (0 : Int32)
        · rw [if_pos c64] at h63
          refine mr_if_ne_f (t := 134) (pc' := 130) dX11_readsAll_127 (by decide) rfl (not_not_intro c64) ?_
          refine mr_iconst (pc' := 131) (v := (1 : Int32)) dX11_readsAll_130 rfl (by decide) ?_
          refine mr_goto (t := 135) dX11_readsAll_131 (by decide) ?_
          obtain rfl := Option.some.inj h63
          exact mr_zreturn dX11_readsAll_135 rfl (by decide)
        · rw [if_neg c64] at h63
          refine mr_if_ne_t (t := 134) dX11_readsAll_127 (by decide) c64 ?_
          refine mr_iconst (pc' := 135) (v := (0 : Int32)) dX11_readsAll_134 rfl (by decide) ?_
          obtain rfl := Option.some.inj h63
          exact mr_zreturn dX11_readsAll_135 rfl (by decide)
      · rw [if_neg c60] at h58
        refine mr_if_eq_f (t := 118) (pc' := 92) dX11_readsAll_89 (by decide) rfl c60 ?_
        refine mr_aload_n (pc' := 93) dX11_readsAll_92 rfl rfl ?_
        refine mr_getI (pc' := 96) (ci := 11) (j := 16) dX11_readsAll_93 rfl rfl rfl (by decide) (by decide) rfl ?_
        refine mr_bipush (pc' := 98) (v := (6 : Int32)) dX11_readsAll_96 rfl (by decide) ?_
        by_cases c65 : (q56.2.1 145 16) = (6 : Int32)
        · rw [if_pos c65] at h58
          refine mr_icmp_ne_f (t := 118) (pc' := 101) dX11_readsAll_98 (by decide) rfl (not_not_intro c65) ?_
          refine mr_aload_n (pc' := 102) dX11_readsAll_101 rfl rfl ?_
          refine mr_getI (pc' := 105) (ci := 11) (j := 7) dX11_readsAll_102 rfl rfl rfl (by decide) (by decide) rfl ?_
          by_cases c70 : (q56.2.1 145 7) = (0 : Int32)
          · rw [if_pos c70] at h58
            refine mr_if_ne_f (t := 118) (pc' := 108) dX11_readsAll_105 (by decide) rfl (not_not_intro c70) ?_
            refine mr_aload_n (pc' := 109) dX11_readsAll_108 rfl rfl ?_
            refine mr_iconst (pc' := 110) (v := (0 : Int32)) dX11_readsAll_109 rfl (by decide) ?_
            refine mr_aload_n (pc' := 111) dX11_readsAll_110 rfl rfl ?_
            refine mr_getI (pc' := 114) (ci := 11) (j := 13) dX11_readsAll_111 rfl rfl rfl (by decide) (by decide) rfl ?_
            obtain ⟨q75, g76, h77⟩ := Option.bind_eq_some_iff.mp h58
            refine mr_cv (pc' := 117) (a := 145) (d1 := 0) dX11_readsAll_114 rfl rfl rfl rfl rfl rfl (by decide) rfl (by decide) (ok_X11_fails hR  g76) ?_
            show mr X _ _ 117 _ [.int q75.1] (MM RR q75.2) _
            refine mr_pop_int (pc' := 118) dX11_readsAll_117 rfl ?_
            refine mr_aload_n (pc' := 119) dX11_readsAll_118 rfl rfl ?_
            refine mr_iconst (pc' := 120) (v := (0 : Int32)) dX11_readsAll_119 rfl (by decide) ?_
            obtain ⟨S78, g79, h80⟩ := Option.bind_eq_some_iff.mp h77
            refine mr_putI (pc' := 123) (ci := 11) (j := 1) dX11_readsAll_120 rfl rfl rfl (by decide) (by decide) rfl rfl ?_
            rw [Option.some.inj g79]
            refine mr_aload_n (pc' := 124) dX11_readsAll_123 rfl rfl ?_
            refine mr_getI (pc' := 127) (ci := 11) (j := 14) dX11_readsAll_124 rfl rfl rfl (by decide) (by decide) rfl ?_
            by_cases c81 : (S78.1 145 14) = (0 : Int32)
            · rw [if_pos c81] at h80
              refine mr_if_ne_f (t := 134) (pc' := 130) dX11_readsAll_127 (by decide) rfl (not_not_intro c81) ?_
              refine mr_iconst (pc' := 131) (v := (1 : Int32)) dX11_readsAll_130 rfl (by decide) ?_
              refine mr_goto (t := 135) dX11_readsAll_131 (by decide) ?_
              obtain rfl := Option.some.inj h80
              exact mr_zreturn dX11_readsAll_135 rfl (by decide)
            · rw [if_neg c81] at h80
              refine mr_if_ne_t (t := 134) dX11_readsAll_127 (by decide) c81 ?_
              refine mr_iconst (pc' := 135) (v := (0 : Int32)) dX11_readsAll_134 rfl (by decide) ?_
              obtain rfl := Option.some.inj h80
              exact mr_zreturn dX11_readsAll_135 rfl (by decide)
          · rw [if_neg c70] at h58
            refine mr_if_ne_t (t := 118) dX11_readsAll_105 (by decide) c70 ?_
            refine mr_aload_n (pc' := 119) dX11_readsAll_118 rfl rfl ?_
            refine mr_iconst (pc' := 120) (v := (0 : Int32)) dX11_readsAll_119 rfl (by decide) ?_
            obtain ⟨S71, g72, h73⟩ := Option.bind_eq_some_iff.mp h58
            refine mr_putI (pc' := 123) (ci := 11) (j := 1) dX11_readsAll_120 rfl rfl rfl (by decide) (by decide) rfl rfl ?_
            rw [Option.some.inj g72]
            refine mr_aload_n (pc' := 124) dX11_readsAll_123 rfl rfl ?_
            refine mr_getI (pc' := 127) (ci := 11) (j := 14) dX11_readsAll_124 rfl rfl rfl (by decide) (by decide) rfl ?_
            by_cases c74 : (S71.1 145 14) = (0 : Int32)
            · rw [if_pos c74] at h73
              refine mr_if_ne_f (t := 134) (pc' := 130) dX11_readsAll_127 (by decide) rfl (not_not_intro c74) ?_
              refine mr_iconst (pc' := 131) (v := (1 : Int32)) dX11_readsAll_130 rfl (by decide) ?_
              refine mr_goto (t := 135) dX11_readsAll_131 (by decide) ?_
              obtain rfl := Option.some.inj h73
              exact mr_zreturn dX11_readsAll_135 rfl (by decide)
            · rw [if_neg c74] at h73
              refine mr_if_ne_t (t := 134) dX11_readsAll_127 (by decide) c74 ?_
              refine mr_iconst (pc' := 135) (v := (0 : Int32)) dX11_readsAll_134 rfl (by decide) ?_
              obtain rfl := Option.some.inj h73
              exact mr_zreturn dX11_readsAll_135 rfl (by decide)
        · rw [if_neg c65] at h58
          refine mr_icmp_ne_t (t := 118) dX11_readsAll_98 (by decide) c65 ?_
          refine mr_aload_n (pc' := 119) dX11_readsAll_118 rfl rfl ?_
          refine mr_iconst (pc' := 120) (v := (0 : Int32)) dX11_readsAll_119 rfl (by decide) ?_
          obtain ⟨S66, g67, h68⟩ := Option.bind_eq_some_iff.mp h58
          refine mr_putI (pc' := 123) (ci := 11) (j := 1) dX11_readsAll_120 rfl rfl rfl (by decide) (by decide) rfl rfl ?_
          rw [Option.some.inj g67]
          refine mr_aload_n (pc' := 124) dX11_readsAll_123 rfl rfl ?_
          refine mr_getI (pc' := 127) (ci := 11) (j := 14) dX11_readsAll_124 rfl rfl rfl (by decide) (by decide) rfl ?_
          by_cases c69 : (S66.1 145 14) = (0 : Int32)
          · rw [if_pos c69] at h68
            refine mr_if_ne_f (t := 134) (pc' := 130) dX11_readsAll_127 (by decide) rfl (not_not_intro c69) ?_
            refine mr_iconst (pc' := 131) (v := (1 : Int32)) dX11_readsAll_130 rfl (by decide) ?_
            refine mr_goto (t := 135) dX11_readsAll_131 (by decide) ?_
            obtain rfl := Option.some.inj h68
            exact mr_zreturn dX11_readsAll_135 rfl (by decide)
          · rw [if_neg c69] at h68
            refine mr_if_ne_t (t := 134) dX11_readsAll_127 (by decide) c69 ?_
            refine mr_iconst (pc' := 135) (v := (0 : Int32)) dX11_readsAll_134 rfl (by decide) ?_
            obtain rfl := Option.some.inj h68
            exact mr_zreturn dX11_readsAll_135 rfl (by decide)
    · rw [if_neg c59] at h58
      refine mr_icmp_eq_f (t := 88) (pc' := 78) dX11_readsAll_75 (by decide) rfl c59 ?_
      refine mr_aload_n (pc' := 79) dX11_readsAll_78 rfl rfl ?_
      refine mr_iconst (pc' := 80) (v := (0 : Int32)) dX11_readsAll_79 rfl (by decide) ?_
      refine mr_aload_n (pc' := 81) dX11_readsAll_80 rfl rfl ?_
      refine mr_getI (pc' := 84) (ci := 11) (j := 13) dX11_readsAll_81 rfl rfl rfl (by decide) (by decide) rfl ?_
      obtain ⟨q82, g83, h84⟩ := Option.bind_eq_some_iff.mp h58
      refine mr_cv (pc' := 87) (a := 145) (d1 := 0) dX11_readsAll_84 rfl rfl rfl rfl rfl rfl (by decide) rfl (by decide) (ok_X11_fails hR  g83) ?_
      show mr X _ _ 87 _ [.int q82.1] (MM RR q82.2) _
      refine mr_istore_n (pc' := 88) (lv' := [(1, .int q82.1), (0, .ref 145)]) dX11_readsAll_87 rfl (by decide) rfl ?_
      refine mr_iload_n (pc' := 89) dX11_readsAll_88 rfl rfl ?_
      by_cases c85 : q82.1 = (0 : Int32)
      · rw [if_pos c85] at h84
        refine mr_if_eq_t (t := 118) dX11_readsAll_89 (by decide) c85 ?_
        refine mr_aload_n (pc' := 119) dX11_readsAll_118 rfl rfl ?_
        refine mr_iconst (pc' := 120) (v := (0 : Int32)) dX11_readsAll_119 rfl (by decide) ?_
        obtain ⟨S86, g87, h88⟩ := Option.bind_eq_some_iff.mp h84
        refine mr_putI (pc' := 123) (ci := 11) (j := 1) dX11_readsAll_120 rfl rfl rfl (by decide) (by decide) rfl rfl ?_
        rw [Option.some.inj g87]
        refine mr_aload_n (pc' := 124) dX11_readsAll_123 rfl rfl ?_
        refine mr_getI (pc' := 127) (ci := 11) (j := 14) dX11_readsAll_124 rfl rfl rfl (by decide) (by decide) rfl ?_
        by_cases c89 : (S86.1 145 14) = (0 : Int32)
        · rw [if_pos c89] at h88
          refine mr_if_ne_f (t := 134) (pc' := 130) dX11_readsAll_127 (by decide) rfl (not_not_intro c89) ?_
          refine mr_iconst (pc' := 131) (v := (1 : Int32)) dX11_readsAll_130 rfl (by decide) ?_
          refine mr_goto (t := 135) dX11_readsAll_131 (by decide) ?_
          obtain rfl := Option.some.inj h88
          exact mr_zreturn dX11_readsAll_135 rfl (by decide)
        · rw [if_neg c89] at h88
          refine mr_if_ne_t (t := 134) dX11_readsAll_127 (by decide) c89 ?_
          refine mr_iconst (pc' := 135) (v := (0 : Int32)) dX11_readsAll_134 rfl (by decide) ?_
          obtain rfl := Option.some.inj h88
          exact mr_zreturn dX11_readsAll_135 rfl (by decide)
      · rw [if_neg c85] at h84
        refine mr_if_eq_f (t := 118) (pc' := 92) dX11_readsAll_89 (by decide) rfl c85 ?_
        refine mr_aload_n (pc' := 93) dX11_readsAll_92 rfl rfl ?_
        refine mr_getI (pc' := 96) (ci := 11) (j := 16) dX11_readsAll_93 rfl rfl rfl (by decide) (by decide) rfl ?_
        refine mr_bipush (pc' := 98) (v := (6 : Int32)) dX11_readsAll_96 rfl (by decide) ?_
        by_cases c90 : (q82.2.1 145 16) = (6 : Int32)
        · rw [if_pos c90] at h84
          refine mr_icmp_ne_f (t := 118) (pc' := 101) dX11_readsAll_98 (by decide) rfl (not_not_intro c90) ?_
          refine mr_aload_n (pc' := 102) dX11_readsAll_101 rfl rfl ?_
          refine mr_getI (pc' := 105) (ci := 11) (j := 7) dX11_readsAll_102 rfl rfl rfl (by decide) (by decide) rfl ?_
          by_cases c95 : (q82.2.1 145 7) = (0 : Int32)
          · rw [if_pos c95] at h84
            refine mr_if_ne_f (t := 118) (pc' := 108) dX11_readsAll_105 (by decide) rfl (not_not_intro c95) ?_
            refine mr_aload_n (pc' := 109) dX11_readsAll_108 rfl rfl ?_
            refine mr_iconst (pc' := 110) (v := (0 : Int32)) dX11_readsAll_109 rfl (by decide) ?_
            refine mr_aload_n (pc' := 111) dX11_readsAll_110 rfl rfl ?_
            refine mr_getI (pc' := 114) (ci := 11) (j := 13) dX11_readsAll_111 rfl rfl rfl (by decide) (by decide) rfl ?_
            obtain ⟨q100, g101, h102⟩ := Option.bind_eq_some_iff.mp h84
            refine mr_cv (pc' := 117) (a := 145) (d1 := 0) dX11_readsAll_114 rfl rfl rfl rfl rfl rfl (by decide) rfl (by decide) (ok_X11_fails hR  g101) ?_
            show mr X _ _ 117 _ [.int q100.1] (MM RR q100.2) _
            refine mr_pop_int (pc' := 118) dX11_readsAll_117 rfl ?_
            refine mr_aload_n (pc' := 119) dX11_readsAll_118 rfl rfl ?_
            refine mr_iconst (pc' := 120) (v := (0 : Int32)) dX11_readsAll_119 rfl (by decide) ?_
            obtain ⟨S103, g104, h105⟩ := Option.bind_eq_some_iff.mp h102
            refine mr_putI (pc' := 123) (ci := 11) (j := 1) dX11_readsAll_120 rfl rfl rfl (by decide) (by decide) rfl rfl ?_
            rw [Option.some.inj g104]
            refine mr_aload_n (pc' := 124) dX11_readsAll_123 rfl rfl ?_
            refine mr_getI (pc' := 127) (ci := 11) (j := 14) dX11_readsAll_124 rfl rfl rfl (by decide) (by decide) rfl ?_
            by_cases c106 : (S103.1 145 14) = (0 : Int32)
            · rw [if_pos c106] at h105
              refine mr_if_ne_f (t := 134) (pc' := 130) dX11_readsAll_127 (by decide) rfl (not_not_intro c106) ?_
              refine mr_iconst (pc' := 131) (v := (1 : Int32)) dX11_readsAll_130 rfl (by decide) ?_
              refine mr_goto (t := 135) dX11_readsAll_131 (by decide) ?_
              obtain rfl := Option.some.inj h105
              exact mr_zreturn dX11_readsAll_135 rfl (by decide)
            · rw [if_neg c106] at h105
              refine mr_if_ne_t (t := 134) dX11_readsAll_127 (by decide) c106 ?_
              refine mr_iconst (pc' := 135) (v := (0 : Int32)) dX11_readsAll_134 rfl (by decide) ?_
              obtain rfl := Option.some.inj h105
              exact mr_zreturn dX11_readsAll_135 rfl (by decide)
          · rw [if_neg c95] at h84
            refine mr_if_ne_t (t := 118) dX11_readsAll_105 (by decide) c95 ?_
            refine mr_aload_n (pc' := 119) dX11_readsAll_118 rfl rfl ?_
            refine mr_iconst (pc' := 120) (v := (0 : Int32)) dX11_readsAll_119 rfl (by decide) ?_
            obtain ⟨S96, g97, h98⟩ := Option.bind_eq_some_iff.mp h84
            refine mr_putI (pc' := 123) (ci := 11) (j := 1) dX11_readsAll_120 rfl rfl rfl (by decide) (by decide) rfl rfl ?_
            rw [Option.some.inj g97]
            refine mr_aload_n (pc' := 124) dX11_readsAll_123 rfl rfl ?_
            refine mr_getI (pc' := 127) (ci := 11) (j := 14) dX11_readsAll_124 rfl rfl rfl (by decide) (by decide) rfl ?_
            by_cases c99 : (S96.1 145 14) = (0 : Int32)
            · rw [if_pos c99] at h98
              refine mr_if_ne_f (t := 134) (pc' := 130) dX11_readsAll_127 (by decide) rfl (not_not_intro c99) ?_
              refine mr_iconst (pc' := 131) (v := (1 : Int32)) dX11_readsAll_130 rfl (by decide) ?_
              refine mr_goto (t := 135) dX11_readsAll_131 (by decide) ?_
              obtain rfl := Option.some.inj h98
              exact mr_zreturn dX11_readsAll_135 rfl (by decide)
            · rw [if_neg c99] at h98
              refine mr_if_ne_t (t := 134) dX11_readsAll_127 (by decide) c99 ?_
              refine mr_iconst (pc' := 135) (v := (0 : Int32)) dX11_readsAll_134 rfl (by decide) ?_
              obtain rfl := Option.some.inj h98
              exact mr_zreturn dX11_readsAll_135 rfl (by decide)
        · rw [if_neg c90] at h84
          refine mr_icmp_ne_t (t := 118) dX11_readsAll_98 (by decide) c90 ?_
          refine mr_aload_n (pc' := 119) dX11_readsAll_118 rfl rfl ?_
          refine mr_iconst (pc' := 120) (v := (0 : Int32)) dX11_readsAll_119 rfl (by decide) ?_
          obtain ⟨S91, g92, h93⟩ := Option.bind_eq_some_iff.mp h84
          refine mr_putI (pc' := 123) (ci := 11) (j := 1) dX11_readsAll_120 rfl rfl rfl (by decide) (by decide) rfl rfl ?_
          rw [Option.some.inj g92]
          refine mr_aload_n (pc' := 124) dX11_readsAll_123 rfl rfl ?_
          refine mr_getI (pc' := 127) (ci := 11) (j := 14) dX11_readsAll_124 rfl rfl rfl (by decide) (by decide) rfl ?_
          by_cases c94 : (S91.1 145 14) = (0 : Int32)
          · rw [if_pos c94] at h93
            refine mr_if_ne_f (t := 134) (pc' := 130) dX11_readsAll_127 (by decide) rfl (not_not_intro c94) ?_
            refine mr_iconst (pc' := 131) (v := (1 : Int32)) dX11_readsAll_130 rfl (by decide) ?_
            refine mr_goto (t := 135) dX11_readsAll_131 (by decide) ?_
            obtain rfl := Option.some.inj h93
            exact mr_zreturn dX11_readsAll_135 rfl (by decide)
          · rw [if_neg c94] at h93
            refine mr_if_ne_t (t := 134) dX11_readsAll_127 (by decide) c94 ?_
            refine mr_iconst (pc' := 135) (v := (0 : Int32)) dX11_readsAll_134 rfl (by decide) ?_
            obtain rfl := Option.some.inj h93
            exact mr_zreturn dX11_readsAll_135 rfl (by decide)
def f_X11_rule  (S : fS) : Option (Int32 × fS) :=
  if (S.1 145 2) = (6 : Int32) then (some ((-1 : Int32), S)) else
  ((some (pI S 145 16 (S.1 145 2))).bind fun S2 =>
  (sI S2 150 6 (S2.1 145 16) (0 : Int32)).bind fun S5 =>
  (f_X11_readsAll  S5).bind fun q8 =>
  if q8.1 = (0 : Int32) then (some (((-2 : Int32) - (q8.2.1 145 14)), q8.2)) else
  ((some (pI q8.2 145 2 ((q8.2.1 145 2) + (1 : Int32)))).bind fun S12 =>
  some (((S12.1 145 2) - (1 : Int32)), S12)))
set_option maxHeartbeats 4000000 in
set_option maxRecDepth 100000 in
theorem ok_X11_rule {X : mm_C} {RR : Nat → Nat → Option Nat} (hR : RRok RR)   {S : fS} {r : Int32 × fS} (h : f_X11_rule  S = some r) : mr X 12 mY_X11_rule 0 (lv_args 0 [.ref 145]) [] (MM RR S) (some (.int r.1), MM RR r.2) := by
  unfold f_X11_rule at h
  show mr X _ _ 0 [(0, .ref 145)] [] (MM RR S) _
  refine mr_aload_n (pc' := 1) dX11_rule_0 rfl rfl ?_
  refine mr_getI (pc' := 4) (ci := 11) (j := 2) dX11_rule_1 rfl rfl rfl (by decide) (by decide) rfl ?_
  refine mr_bipush (pc' := 6) (v := (6 : Int32)) dX11_rule_4 rfl (by decide) ?_
  by_cases c1 : (S.1 145 2) = (6 : Int32)
  · rw [if_pos c1] at h
    refine mr_icmp_ne_f (t := 11) (pc' := 9) dX11_rule_6 (by decide) rfl (not_not_intro c1) ?_
    refine mr_iconst (pc' := 10) (v := (-1 : Int32)) dX11_rule_9 rfl (by decide) ?_
    obtain rfl := Option.some.inj h
    exact mr_ireturn dX11_rule_10 rfl
  · rw [if_neg c1] at h
    refine mr_icmp_ne_t (t := 11) dX11_rule_6 (by decide) c1 ?_
    refine mr_aload_n (pc' := 12) dX11_rule_11 rfl rfl ?_
    refine mr_aload_n (pc' := 13) dX11_rule_12 rfl rfl ?_
    refine mr_getI (pc' := 16) (ci := 11) (j := 2) dX11_rule_13 rfl rfl rfl (by decide) (by decide) rfl ?_
    obtain ⟨S2, g3, h4⟩ := Option.bind_eq_some_iff.mp h
    refine mr_putI (pc' := 19) (ci := 11) (j := 16) dX11_rule_16 rfl rfl rfl (by decide) (by decide) rfl rfl ?_
    rw [Option.some.inj g3]
    refine mr_aload_n (pc' := 20) dX11_rule_19 rfl rfl ?_
    refine mr_getR (pc' := 23) (ci := 11) (j := 6) (b := 150) hR dX11_rule_20 rfl rfl rfl (by decide) (by decide) (by decide) rfl rfl ?_
    refine mr_aload_n (pc' := 24) dX11_rule_23 rfl rfl ?_
    refine mr_getI (pc' := 27) (ci := 11) (j := 16) dX11_rule_24 rfl rfl rfl (by decide) (by decide) rfl ?_
    refine mr_iconst (pc' := 28) (v := (0 : Int32)) dX11_rule_27 rfl (by decide) ?_
    obtain ⟨S5, g6, h7⟩ := Option.bind_eq_some_iff.mp h4
    refine mr_iast (pc' := 29) dX11_rule_28 rfl rfl rfl g6 ?_
    refine mr_aload_n (pc' := 30) dX11_rule_29 rfl rfl ?_
    obtain ⟨q8, g9, h10⟩ := Option.bind_eq_some_iff.mp h7
    refine mr_cv (pc' := 33) (a := 145) (d1 := 11) dX11_rule_30 rfl rfl rfl rfl rfl rfl (by decide) rfl (by decide) (ok_X11_readsAll hR  g9) ?_
    show mr X _ _ 33 _ [.int q8.1] (MM RR q8.2) _
    by_cases c11 : q8.1 = (0 : Int32)
    · rw [if_pos c11] at h10
      refine mr_if_ne_f (t := 44) (pc' := 36) dX11_rule_33 (by decide) rfl (not_not_intro c11) ?_
      refine mr_bipush (pc' := 38) (v := (-2 : Int32)) dX11_rule_36 rfl (by decide) ?_
      refine mr_aload_n (pc' := 39) dX11_rule_38 rfl rfl ?_
      refine mr_getI (pc' := 42) (ci := 11) (j := 14) dX11_rule_39 rfl rfl rfl (by decide) (by decide) rfl ?_
      refine mr_isub (pc' := 43) dX11_rule_42 rfl ?_
      obtain rfl := Option.some.inj h10
      exact mr_ireturn dX11_rule_43 rfl
    · rw [if_neg c11] at h10
      refine mr_if_ne_t (t := 44) dX11_rule_33 (by decide) c11 ?_
      refine mr_aload_n (pc' := 45) dX11_rule_44 rfl rfl ?_
      refine mr_dup_ref (pc' := 46) dX11_rule_45 rfl ?_
      refine mr_getI (pc' := 49) (ci := 11) (j := 2) dX11_rule_46 rfl rfl rfl (by decide) (by decide) rfl ?_
      refine mr_iconst (pc' := 50) (v := (1 : Int32)) dX11_rule_49 rfl (by decide) ?_
      refine mr_iadd (pc' := 51) dX11_rule_50 rfl ?_
      obtain ⟨S12, g13, h14⟩ := Option.bind_eq_some_iff.mp h10
      refine mr_putI (pc' := 54) (ci := 11) (j := 2) dX11_rule_51 rfl rfl rfl (by decide) (by decide) rfl rfl ?_
      rw [Option.some.inj g13]
      refine mr_aload_n (pc' := 55) dX11_rule_54 rfl rfl ?_
      refine mr_getI (pc' := 58) (ci := 11) (j := 2) dX11_rule_55 rfl rfl rfl (by decide) (by decide) rfl ?_
      refine mr_iconst (pc' := 59) (v := (1 : Int32)) dX11_rule_58 rfl (by decide) ?_
      refine mr_isub (pc' := 60) dX11_rule_59 rfl ?_
      obtain rfl := Option.some.inj h14
      exact mr_ireturn dX11_rule_60 rfl
def f_X11_stands (v1 : Int32) (v2 : Int32) (S : fS) : Option (fS) :=
  (sI S 157 158 ((90 : Int32) + ((4 : Int32) * v1)) v2).bind fun S1 =>
  (sI S1 157 158 (((90 : Int32) + ((4 : Int32) * v1)) + (1 : Int32)) (-1 : Int32)).bind fun S4 =>
  (sI S4 157 158 (((90 : Int32) + ((4 : Int32) * v1)) + (2 : Int32)) (0 : Int32)).bind fun S7 =>
  (sI S7 157 158 (((90 : Int32) + ((4 : Int32) * v1)) + (3 : Int32)) (-1 : Int32)).bind fun S10 =>
  some S10
set_option maxHeartbeats 4000000 in
set_option maxRecDepth 100000 in
theorem ok_X11_stands {X : mm_C} {RR : Nat → Nat → Option Nat} (hR : RRok RR) {v1 : Int32} {v2 : Int32}  {S : fS} {r : fS} (h : f_X11_stands v1 v2 S = some r) : mr X 0 mY_X11_stands 0 (lv_args 0 [.ref 145, .int v1, .int v2]) [] (MM RR S) (none, MM RR r) := by
  unfold f_X11_stands at h
  show mr X _ _ 0 [(0, .ref 145), (1, .int v1), (2, .int v2)] [] (MM RR S) _
  refine mr_bipush (pc' := 2) (v := (90 : Int32)) dX11_stands_0 rfl (by decide) ?_
  refine mr_iconst (pc' := 3) (v := (4 : Int32)) dX11_stands_2 rfl (by decide) ?_
  refine mr_iload_n (pc' := 4) dX11_stands_3 rfl rfl ?_
  refine mr_imul (pc' := 5) dX11_stands_4 rfl ?_
  refine mr_iadd (pc' := 6) dX11_stands_5 rfl ?_
  refine mr_istore_n (pc' := 7) (lv' := [(3, .int ((90 : Int32) + ((4 : Int32) * v1))), (0, .ref 145), (1, .int v1), (2, .int v2)]) dX11_stands_6 rfl (by decide) rfl ?_
  refine mr_aload_n (pc' := 8) dX11_stands_7 rfl rfl ?_
  refine mr_getR (pc' := 11) (ci := 11) (j := 25) (b := 157) hR dX11_stands_8 rfl rfl rfl (by decide) (by decide) (by decide) rfl rfl ?_
  refine mr_iload_n (pc' := 12) dX11_stands_11 rfl rfl ?_
  refine mr_iload_n (pc' := 13) dX11_stands_12 rfl rfl ?_
  obtain ⟨S1, g2, h3⟩ := Option.bind_eq_some_iff.mp h
  refine mr_iast (pc' := 14) dX11_stands_13 rfl rfl rfl g2 ?_
  refine mr_aload_n (pc' := 15) dX11_stands_14 rfl rfl ?_
  refine mr_getR (pc' := 18) (ci := 11) (j := 25) (b := 157) hR dX11_stands_15 rfl rfl rfl (by decide) (by decide) (by decide) rfl rfl ?_
  refine mr_iload_n (pc' := 19) dX11_stands_18 rfl rfl ?_
  refine mr_iconst (pc' := 20) (v := (1 : Int32)) dX11_stands_19 rfl (by decide) ?_
  refine mr_iadd (pc' := 21) dX11_stands_20 rfl ?_
  refine mr_iconst (pc' := 22) (v := (-1 : Int32)) dX11_stands_21 rfl (by decide) ?_
  obtain ⟨S4, g5, h6⟩ := Option.bind_eq_some_iff.mp h3
  refine mr_iast (pc' := 23) dX11_stands_22 rfl rfl rfl g5 ?_
  refine mr_aload_n (pc' := 24) dX11_stands_23 rfl rfl ?_
  refine mr_getR (pc' := 27) (ci := 11) (j := 25) (b := 157) hR dX11_stands_24 rfl rfl rfl (by decide) (by decide) (by decide) rfl rfl ?_
  refine mr_iload_n (pc' := 28) dX11_stands_27 rfl rfl ?_
  refine mr_iconst (pc' := 29) (v := (2 : Int32)) dX11_stands_28 rfl (by decide) ?_
  refine mr_iadd (pc' := 30) dX11_stands_29 rfl ?_
  refine mr_iconst (pc' := 31) (v := (0 : Int32)) dX11_stands_30 rfl (by decide) ?_
  obtain ⟨S7, g8, h9⟩ := Option.bind_eq_some_iff.mp h6
  refine mr_iast (pc' := 32) dX11_stands_31 rfl rfl rfl g8 ?_
  refine mr_aload_n (pc' := 33) dX11_stands_32 rfl rfl ?_
  refine mr_getR (pc' := 36) (ci := 11) (j := 25) (b := 157) hR dX11_stands_33 rfl rfl rfl (by decide) (by decide) (by decide) rfl rfl ?_
  refine mr_iload_n (pc' := 37) dX11_stands_36 rfl rfl ?_
  refine mr_iconst (pc' := 38) (v := (3 : Int32)) dX11_stands_37 rfl (by decide) ?_
  refine mr_iadd (pc' := 39) dX11_stands_38 rfl ?_
  refine mr_iconst (pc' := 40) (v := (-1 : Int32)) dX11_stands_39 rfl (by decide) ?_
  obtain ⟨S10, g11, h12⟩ := Option.bind_eq_some_iff.mp h9
  refine mr_iast (pc' := 41) dX11_stands_40 rfl rfl rfl g11 ?_
  obtain rfl := Option.some.inj h12
  exact mr_return dX11_stands_41 rfl
def f_X11_stairOf (v1 : Int32) (v2 : Int32) (S : fS) : Option (Int32) :=
  (gI S 157 158 (((30 : Int32) + ((5 : Int32) * v1)) + v2)).bind fun a1 =>
  some a1
set_option maxHeartbeats 4000000 in
set_option maxRecDepth 100000 in
theorem ok_X11_stairOf {X : mm_C} {RR : Nat → Nat → Option Nat} (hR : RRok RR) {v1 : Int32} {v2 : Int32}  {S : fS} {r : Int32} (h : f_X11_stairOf v1 v2 S = some r) : mr X 0 mY_X11_stairOf 0 (lv_args 0 [.ref 145, .int v1, .int v2]) [] (MM RR S) (some (.int r), MM RR S) := by
  unfold f_X11_stairOf at h
  show mr X _ _ 0 [(0, .ref 145), (1, .int v1), (2, .int v2)] [] (MM RR S) _
  refine mr_aload_n (pc' := 1) dX11_stairOf_0 rfl rfl ?_
  refine mr_getR (pc' := 4) (ci := 11) (j := 25) (b := 157) hR dX11_stairOf_1 rfl rfl rfl (by decide) (by decide) (by decide) rfl rfl ?_
  refine mr_bipush (pc' := 6) (v := (30 : Int32)) dX11_stairOf_4 rfl (by decide) ?_
  refine mr_iconst (pc' := 7) (v := (5 : Int32)) dX11_stairOf_6 rfl (by decide) ?_
  refine mr_iload_n (pc' := 8) dX11_stairOf_7 rfl rfl ?_
  refine mr_imul (pc' := 9) dX11_stairOf_8 rfl ?_
  refine mr_iadd (pc' := 10) dX11_stairOf_9 rfl ?_
  refine mr_iload_n (pc' := 11) dX11_stairOf_10 rfl rfl ?_
  refine mr_iadd (pc' := 12) dX11_stairOf_11 rfl ?_
  obtain ⟨a1, g2, h3⟩ := Option.bind_eq_some_iff.mp h
  refine mr_iald (pc' := 13) dX11_stairOf_12 rfl rfl rfl g2 ?_
  obtain rfl := Option.some.inj h3
  exact mr_ireturn dX11_stairOf_13 rfl
def lp_X11_spreads_10 (p1 : Int32) (K : fS → Option (fS)) : Nat → Int32 → fS → Option (fS)
  | 0, _, _ => none
  | n + 1, p2, S0 =>
    if (10 : Int32) ≤ p2 then (K S0) else
    (if p1 = p2 then ((sL S0 161 100 (((10 : Int32) * p1) + p2) (0 : Int64)).bind fun S7 =>
    lp_X11_spreads_10 p1 K n (p2 + (1 : Int32)) S7) else
    ((sL S0 161 100 (((10 : Int32) * p1) + p2) (99999 : Int64)).bind fun S4 =>
    lp_X11_spreads_10 p1 K n (p2 + (1 : Int32)) S4))
set_option maxHeartbeats 4000000 in
set_option maxRecDepth 100000 in
theorem ok_lp_X11_spreads_10 {X : mm_C} {RR : Nat → Nat → Option Nat} (hR : RRok RR) {p1 : Int32}  {K : fS → Option (fS)} {r : fS} (hK : ∀ (Sk : fS), K Sk = some r → mr X 1 mY_X11_spreads 45 [(0, .ref 145), (1, .int p1)] [] (MM RR Sk) (none, MM RR r)) : ∀ (n : Nat) (p2 : Int32) (S0 : fS), lp_X11_spreads_10 p1 K n p2 S0 = some r → mr X 1 mY_X11_spreads 10 [(0, .ref 145), (1, .int p1), (2, .int p2)] [] (MM RR S0) (none, MM RR r) := by
  intro n
  induction n with
  | zero => intro p2 S0 h; exact mm_no h
  | succ n ih =>
    intro p2 S0 h
    unfold lp_X11_spreads_10 at h
    refine mr_iload_n (pc' := 11) dX11_spreads_10 rfl rfl ?_
    refine mr_bipush (pc' := 13) (v := (10 : Int32)) dX11_spreads_11 rfl (by decide) ?_
    by_cases c2 : (10 : Int32) ≤ p2
    · rw [if_pos c2] at h
      refine mr_icmp_ge_t (t := 45) dX11_spreads_13 (by decide) c2 ?_
      exact mr_sub [(0, .ref 145), (1, .int p1)] ⟨rfl, rfl, trivial⟩ rfl (hK _  h)
    · rw [if_neg c2] at h
      refine mr_icmp_ge_f (t := 45) (pc' := 16) dX11_spreads_13 (by decide) rfl c2 ?_
      refine mr_aload_n (pc' := 17) dX11_spreads_16 rfl rfl ?_
      refine mr_getR (pc' := 20) (ci := 11) (j := 29) (b := 161) hR dX11_spreads_17 rfl rfl rfl (by decide) (by decide) (by decide) rfl rfl ?_
      refine mr_bipush (pc' := 22) (v := (10 : Int32)) dX11_spreads_20 rfl (by decide) ?_
      refine mr_iload_n (pc' := 23) dX11_spreads_22 rfl rfl ?_
      refine mr_imul (pc' := 24) dX11_spreads_23 rfl ?_
      refine mr_iload_n (pc' := 25) dX11_spreads_24 rfl rfl ?_
      refine mr_iadd (pc' := 26) dX11_spreads_25 rfl ?_
      refine mr_iload_n (pc' := 27) dX11_spreads_26 rfl rfl ?_
      refine mr_iload_n (pc' := 28) dX11_spreads_27 rfl rfl ?_
      by_cases c3 : p1 = p2
      · rw [if_pos c3] at h
        refine mr_icmp_ne_f (t := 35) (pc' := 31) dX11_spreads_28 (by decide) rfl (not_not_intro c3) ?_
        refine mr_lconst (pc' := 32) (v := (0 : Int64)) dX11_spreads_31 rfl (by decide) ?_
        refine mr_goto (t := 38) dX11_spreads_32 (by decide) ?_
        obtain ⟨S7, g8, h9⟩ := Option.bind_eq_some_iff.mp h
        refine mr_last (pc' := 39) dX11_spreads_38 rfl rfl rfl g8 ?_
        refine mr_iinc (pc' := 42) (x' := (p2 + (1 : Int32))) (lv' := [(2, .int (p2 + (1 : Int32))), (0, .ref 145), (1, .int p1)]) dX11_spreads_39 rfl (by decide) rfl rfl rfl ?_
        refine mr_goto (t := 10) dX11_spreads_42 (by decide) ?_
        exact mr_sub [(0, .ref 145), (1, .int p1), (2, .int (p2 + (1 : Int32)))] ⟨rfl, rfl, rfl, trivial⟩ rfl (ih _ _  h9)
      · rw [if_neg c3] at h
        refine mr_icmp_ne_t (t := 35) dX11_spreads_28 (by decide) c3 ?_
        refine mr_ldc2 (pc' := 38) (v := (99999 : Int64)) dX11_spreads_35 rfl rfl ?_
        obtain ⟨S4, g5, h6⟩ := Option.bind_eq_some_iff.mp h
        refine mr_last (pc' := 39) dX11_spreads_38 rfl rfl rfl g5 ?_
        refine mr_iinc (pc' := 42) (x' := (p2 + (1 : Int32))) (lv' := [(2, .int (p2 + (1 : Int32))), (0, .ref 145), (1, .int p1)]) dX11_spreads_39 rfl (by decide) rfl rfl rfl ?_
        refine mr_goto (t := 10) dX11_spreads_42 (by decide) ?_
        exact mr_sub [(0, .ref 145), (1, .int p1), (2, .int (p2 + (1 : Int32)))] ⟨rfl, rfl, rfl, trivial⟩ rfl (ih _ _  h6)
def lp_X11_spreads_2  (K : fS → Option (fS)) : Nat → Int32 → fS → Option (fS)
  | 0, _, _ => none
  | n + 1, p1, S0 =>
    if (10 : Int32) ≤ p1 then (K S0) else
    (lp_X11_spreads_10 p1 (fun S10 => lp_X11_spreads_2  K n (p1 + (1 : Int32)) S10) FU (0 : Int32) S0)
set_option maxHeartbeats 4000000 in
set_option maxRecDepth 100000 in
theorem ok_lp_X11_spreads_2 {X : mm_C} {RR : Nat → Nat → Option Nat} (hR : RRok RR)   {K : fS → Option (fS)} {r : fS} (hK : ∀ (Sk : fS), K Sk = some r → mr X 1 mY_X11_spreads 51 [(0, .ref 145)] [] (MM RR Sk) (none, MM RR r)) : ∀ (n : Nat) (p1 : Int32) (S0 : fS), lp_X11_spreads_2  K n p1 S0 = some r → mr X 1 mY_X11_spreads 2 [(0, .ref 145), (1, .int p1)] [] (MM RR S0) (none, MM RR r) := by
  intro n
  induction n with
  | zero => intro p1 S0 h; exact mm_no h
  | succ n ih =>
    intro p1 S0 h
    unfold lp_X11_spreads_2 at h
    refine mr_iload_n (pc' := 3) dX11_spreads_2 rfl rfl ?_
    refine mr_bipush (pc' := 5) (v := (10 : Int32)) dX11_spreads_3 rfl (by decide) ?_
    by_cases c1 : (10 : Int32) ≤ p1
    · rw [if_pos c1] at h
      refine mr_icmp_ge_t (t := 51) dX11_spreads_5 (by decide) c1 ?_
      exact mr_sub [(0, .ref 145)] ⟨rfl, trivial⟩ rfl (hK _  h)
    · rw [if_neg c1] at h
      refine mr_icmp_ge_f (t := 51) (pc' := 8) dX11_spreads_5 (by decide) rfl c1 ?_
      refine mr_iconst (pc' := 9) (v := (0 : Int32)) dX11_spreads_8 rfl (by decide) ?_
      refine mr_istore_n (pc' := 10) (lv' := [(2, .int (0 : Int32)), (0, .ref 145), (1, .int p1)]) dX11_spreads_9 rfl (by decide) rfl ?_
      refine mr_sub [(0, .ref 145), (1, .int p1), (2, .int (0 : Int32))] ⟨rfl, rfl, rfl, trivial⟩ rfl ?_
      refine ok_lp_X11_spreads_10 hR  (fun S10 h11 => ?_) FU _ _  h
      refine mr_iinc (pc' := 48) (x' := (p1 + (1 : Int32))) (lv' := [(1, .int (p1 + (1 : Int32))), (0, .ref 145)]) dX11_spreads_45 rfl (by decide) rfl rfl rfl ?_
      refine mr_goto (t := 2) dX11_spreads_48 (by decide) ?_
      exact mr_sub [(0, .ref 145), (1, .int (p1 + (1 : Int32)))] ⟨rfl, rfl, trivial⟩ rfl (ih _ _  h11)
def lp_X11_spreads_53  (K : fS → Option (fS)) : Nat → Int32 → fS → Option (fS)
  | 0, _, _ => none
  | n + 1, p1, S0 =>
    (gI S0 157 158 (1 : Int32)).bind fun a14 =>
    if a14 ≤ p1 then (K S0) else
    ((f_X11_stairOf p1 (0 : Int32) S0).bind fun q18 =>
    (f_X11_stairOf p1 (1 : Int32) S0).bind fun q21 =>
    (f_X11_stairOf p1 (2 : Int32) S0).bind fun q24 =>
    (gL S0 161 100 (((10 : Int32) * q18) + q21)).bind fun a27 =>
    if (Int32.toInt64 q24) < a27 then ((f_X11_stairOf p1 (2 : Int32) S0).bind fun q31 =>
    (sL S0 161 100 (((10 : Int32) * q18) + q21) (Int32.toInt64 q31)).bind fun S34 =>
    (f_X11_stairOf p1 (2 : Int32) S34).bind fun q37 =>
    (sL S34 161 100 (((10 : Int32) * q21) + q18) (Int32.toInt64 q37)).bind fun S40 =>
    lp_X11_spreads_53  K n (p1 + (1 : Int32)) S40) else
    (lp_X11_spreads_53  K n (p1 + (1 : Int32)) S0))
set_option maxHeartbeats 4000000 in
set_option maxRecDepth 100000 in
theorem ok_lp_X11_spreads_53 {X : mm_C} {RR : Nat → Nat → Option Nat} (hR : RRok RR)   {K : fS → Option (fS)} {r : fS} (hK : ∀ (Sk : fS), K Sk = some r → mr X 1 mY_X11_spreads 144 [(0, .ref 145)] [] (MM RR Sk) (none, MM RR r)) : ∀ (n : Nat) (p1 : Int32) (S0 : fS), lp_X11_spreads_53  K n p1 S0 = some r → mr X 1 mY_X11_spreads 53 [(0, .ref 145), (1, .int p1)] [] (MM RR S0) (none, MM RR r) := by
  intro n
  induction n with
  | zero => intro p1 S0 h; exact mm_no h
  | succ n ih =>
    intro p1 S0 h
    unfold lp_X11_spreads_53 at h
    refine mr_iload_n (pc' := 54) dX11_spreads_53 rfl rfl ?_
    refine mr_aload_n (pc' := 55) dX11_spreads_54 rfl rfl ?_
    refine mr_getR (pc' := 58) (ci := 11) (j := 25) (b := 157) hR dX11_spreads_55 rfl rfl rfl (by decide) (by decide) (by decide) rfl rfl ?_
    refine mr_iconst (pc' := 59) (v := (1 : Int32)) dX11_spreads_58 rfl (by decide) ?_
    obtain ⟨a14, g15, h16⟩ := Option.bind_eq_some_iff.mp h
    refine mr_iald (pc' := 60) dX11_spreads_59 rfl rfl rfl g15 ?_
    by_cases c17 : a14 ≤ p1
    · rw [if_pos c17] at h16
      refine mr_icmp_ge_t (t := 144) dX11_spreads_60 (by decide) c17 ?_
      exact mr_sub [(0, .ref 145)] ⟨rfl, trivial⟩ rfl (hK _  h16)
    · rw [if_neg c17] at h16
      refine mr_icmp_ge_f (t := 144) (pc' := 63) dX11_spreads_60 (by decide) rfl c17 ?_
      refine mr_aload_n (pc' := 64) dX11_spreads_63 rfl rfl ?_
      refine mr_iload_n (pc' := 65) dX11_spreads_64 rfl rfl ?_
      refine mr_iconst (pc' := 66) (v := (0 : Int32)) dX11_spreads_65 rfl (by decide) ?_
      obtain ⟨q18, g19, h20⟩ := Option.bind_eq_some_iff.mp h16
      refine mr_cv (pc' := 69) (a := 145) (d1 := 0) dX11_spreads_66 rfl rfl rfl rfl rfl rfl (by decide) rfl (by decide) (ok_X11_stairOf hR  g19) ?_
      show mr X _ _ 69 _ [.int q18] (MM RR S0) _
      refine mr_istore_n (pc' := 70) (lv' := [(2, .int q18), (0, .ref 145), (1, .int p1)]) dX11_spreads_69 rfl (by decide) rfl ?_
      refine mr_aload_n (pc' := 71) dX11_spreads_70 rfl rfl ?_
      refine mr_iload_n (pc' := 72) dX11_spreads_71 rfl rfl ?_
      refine mr_iconst (pc' := 73) (v := (1 : Int32)) dX11_spreads_72 rfl (by decide) ?_
      obtain ⟨q21, g22, h23⟩ := Option.bind_eq_some_iff.mp h20
      refine mr_cv (pc' := 76) (a := 145) (d1 := 0) dX11_spreads_73 rfl rfl rfl rfl rfl rfl (by decide) rfl (by decide) (ok_X11_stairOf hR  g22) ?_
      show mr X _ _ 76 _ [.int q21] (MM RR S0) _
      refine mr_istore_n (pc' := 77) (lv' := [(3, .int q21), (2, .int q18), (0, .ref 145), (1, .int p1)]) dX11_spreads_76 rfl (by decide) rfl ?_
      refine mr_aload_n (pc' := 78) dX11_spreads_77 rfl rfl ?_
      refine mr_iload_n (pc' := 79) dX11_spreads_78 rfl rfl ?_
      refine mr_iconst (pc' := 80) (v := (2 : Int32)) dX11_spreads_79 rfl (by decide) ?_
      obtain ⟨q24, g25, h26⟩ := Option.bind_eq_some_iff.mp h23
      refine mr_cv (pc' := 83) (a := 145) (d1 := 0) dX11_spreads_80 rfl rfl rfl rfl rfl rfl (by decide) rfl (by decide) (ok_X11_stairOf hR  g25) ?_
      show mr X _ _ 83 _ [.int q24] (MM RR S0) _
      refine mr_i2l (pc' := 84) dX11_spreads_83 rfl ?_
      refine mr_aload_n (pc' := 85) dX11_spreads_84 rfl rfl ?_
      refine mr_getR (pc' := 88) (ci := 11) (j := 29) (b := 161) hR dX11_spreads_85 rfl rfl rfl (by decide) (by decide) (by decide) rfl rfl ?_
      refine mr_bipush (pc' := 90) (v := (10 : Int32)) dX11_spreads_88 rfl (by decide) ?_
      refine mr_iload_n (pc' := 91) dX11_spreads_90 rfl rfl ?_
      refine mr_imul (pc' := 92) dX11_spreads_91 rfl ?_
      refine mr_iload_n (pc' := 93) dX11_spreads_92 rfl rfl ?_
      refine mr_iadd (pc' := 94) dX11_spreads_93 rfl ?_
      obtain ⟨a27, g28, h29⟩ := Option.bind_eq_some_iff.mp h26
      refine mr_lald (pc' := 95) dX11_spreads_94 rfl rfl rfl g28 ?_
      by_cases c30 : (Int32.toInt64 q24) < a27
      · rw [if_pos c30] at h29
        refine mr_lcmp_lt_t (t := 102) dX11_spreads_95 rfl dX11_spreads_96 (by decide) c30 ?_
        refine mr_aload_n (pc' := 103) dX11_spreads_102 rfl rfl ?_
        refine mr_getR (pc' := 106) (ci := 11) (j := 29) (b := 161) hR dX11_spreads_103 rfl rfl rfl (by decide) (by decide) (by decide) rfl rfl ?_
        refine mr_bipush (pc' := 108) (v := (10 : Int32)) dX11_spreads_106 rfl (by decide) ?_
        refine mr_iload_n (pc' := 109) dX11_spreads_108 rfl rfl ?_
        refine mr_imul (pc' := 110) dX11_spreads_109 rfl ?_
        refine mr_iload_n (pc' := 111) dX11_spreads_110 rfl rfl ?_
        refine mr_iadd (pc' := 112) dX11_spreads_111 rfl ?_
        refine mr_aload_n (pc' := 113) dX11_spreads_112 rfl rfl ?_
        refine mr_iload_n (pc' := 114) dX11_spreads_113 rfl rfl ?_
        refine mr_iconst (pc' := 115) (v := (2 : Int32)) dX11_spreads_114 rfl (by decide) ?_
        obtain ⟨q31, g32, h33⟩ := Option.bind_eq_some_iff.mp h29
        refine mr_cv (pc' := 118) (a := 145) (d1 := 0) dX11_spreads_115 rfl rfl rfl rfl rfl rfl (by decide) rfl (by decide) (ok_X11_stairOf hR  g32) ?_
        show mr X _ _ 118 _ [.int q31, .int (((10 : Int32) * q18) + q21), .ref 161] (MM RR S0) _
        refine mr_i2l (pc' := 119) dX11_spreads_118 rfl ?_
        obtain ⟨S34, g35, h36⟩ := Option.bind_eq_some_iff.mp h33
        refine mr_last (pc' := 120) dX11_spreads_119 rfl rfl rfl g35 ?_
        refine mr_aload_n (pc' := 121) dX11_spreads_120 rfl rfl ?_
        refine mr_getR (pc' := 124) (ci := 11) (j := 29) (b := 161) hR dX11_spreads_121 rfl rfl rfl (by decide) (by decide) (by decide) rfl rfl ?_
        refine mr_bipush (pc' := 126) (v := (10 : Int32)) dX11_spreads_124 rfl (by decide) ?_
        refine mr_iload_n (pc' := 127) dX11_spreads_126 rfl rfl ?_
        refine mr_imul (pc' := 128) dX11_spreads_127 rfl ?_
        refine mr_iload_n (pc' := 129) dX11_spreads_128 rfl rfl ?_
        refine mr_iadd (pc' := 130) dX11_spreads_129 rfl ?_
        refine mr_aload_n (pc' := 131) dX11_spreads_130 rfl rfl ?_
        refine mr_iload_n (pc' := 132) dX11_spreads_131 rfl rfl ?_
        refine mr_iconst (pc' := 133) (v := (2 : Int32)) dX11_spreads_132 rfl (by decide) ?_
        obtain ⟨q37, g38, h39⟩ := Option.bind_eq_some_iff.mp h36
        refine mr_cv (pc' := 136) (a := 145) (d1 := 0) dX11_spreads_133 rfl rfl rfl rfl rfl rfl (by decide) rfl (by decide) (ok_X11_stairOf hR  g38) ?_
        show mr X _ _ 136 _ [.int q37, .int (((10 : Int32) * q21) + q18), .ref 161] (MM RR S34) _
        refine mr_i2l (pc' := 137) dX11_spreads_136 rfl ?_
        obtain ⟨S40, g41, h42⟩ := Option.bind_eq_some_iff.mp h39
        refine mr_last (pc' := 138) dX11_spreads_137 rfl rfl rfl g41 ?_
        refine mr_iinc (pc' := 141) (x' := (p1 + (1 : Int32))) (lv' := [(1, .int (p1 + (1 : Int32))), (3, .int q21), (2, .int q18), (0, .ref 145)]) dX11_spreads_138 rfl (by decide) rfl rfl rfl ?_
        refine mr_goto (t := 53) dX11_spreads_141 (by decide) ?_
        exact mr_sub [(0, .ref 145), (1, .int (p1 + (1 : Int32)))] ⟨rfl, rfl, trivial⟩ rfl (ih _ _  h42)
      · rw [if_neg c30] at h29
        refine mr_lcmp_lt_f (t := 102) (pc' := 99) dX11_spreads_95 rfl dX11_spreads_96 (by decide) rfl c30 ?_
        refine mr_goto (t := 138) dX11_spreads_99 (by decide) ?_
        refine mr_iinc (pc' := 141) (x' := (p1 + (1 : Int32))) (lv' := [(1, .int (p1 + (1 : Int32))), (3, .int q21), (2, .int q18), (0, .ref 145)]) dX11_spreads_138 rfl (by decide) rfl rfl rfl ?_
        refine mr_goto (t := 53) dX11_spreads_141 (by decide) ?_
        exact mr_sub [(0, .ref 145), (1, .int (p1 + (1 : Int32)))] ⟨rfl, rfl, trivial⟩ rfl (ih _ _  h29)
def lp_X11_spreads_162 (p1 : Int32) (p2 : Int32) (K : fS → Option (fS)) : Nat → Int32 → fS → Option (fS)
  | 0, _, _ => none
  | n + 1, p3, S0 =>
    if (10 : Int32) ≤ p3 then (K S0) else
    ((gL S0 161 100 (((10 : Int32) * p2) + p1)).bind fun a48 =>
    (gL S0 161 100 (((10 : Int32) * p1) + p3)).bind fun a51 =>
    (gL S0 161 100 (((10 : Int32) * p2) + p3)).bind fun a54 =>
    if a54 ≤ (a48 + a51) then (lp_X11_spreads_162 p1 p2 K n (p3 + (1 : Int32)) S0) else
    ((gL S0 161 100 (((10 : Int32) * p2) + p1)).bind fun a58 =>
    (gL S0 161 100 (((10 : Int32) * p1) + p3)).bind fun a61 =>
    (sL S0 161 100 (((10 : Int32) * p2) + p3) (a58 + a61)).bind fun S64 =>
    lp_X11_spreads_162 p1 p2 K n (p3 + (1 : Int32)) S64))
set_option maxHeartbeats 4000000 in
set_option maxRecDepth 100000 in
theorem ok_lp_X11_spreads_162 {X : mm_C} {RR : Nat → Nat → Option Nat} (hR : RRok RR) {p1 : Int32} {p2 : Int32}  {K : fS → Option (fS)} {r : fS} (hK : ∀ (Sk : fS), K Sk = some r → mr X 1 mY_X11_spreads 246 [(0, .ref 145), (1, .int p1), (2, .int p2)] [] (MM RR Sk) (none, MM RR r)) : ∀ (n : Nat) (p3 : Int32) (S0 : fS), lp_X11_spreads_162 p1 p2 K n p3 S0 = some r → mr X 1 mY_X11_spreads 162 [(0, .ref 145), (1, .int p1), (2, .int p2), (3, .int p3)] [] (MM RR S0) (none, MM RR r) := by
  intro n
  induction n with
  | zero => intro p3 S0 h; exact mm_no h
  | succ n ih =>
    intro p3 S0 h
    unfold lp_X11_spreads_162 at h
    refine mr_iload_n (pc' := 163) dX11_spreads_162 rfl rfl ?_
    refine mr_bipush (pc' := 165) (v := (10 : Int32)) dX11_spreads_163 rfl (by decide) ?_
    by_cases c47 : (10 : Int32) ≤ p3
    · rw [if_pos c47] at h
      refine mr_icmp_ge_t (t := 246) dX11_spreads_165 (by decide) c47 ?_
      exact mr_sub [(0, .ref 145), (1, .int p1), (2, .int p2)] ⟨rfl, rfl, rfl, trivial⟩ rfl (hK _  h)
    · rw [if_neg c47] at h
      refine mr_icmp_ge_f (t := 246) (pc' := 168) dX11_spreads_165 (by decide) rfl c47 ?_
      refine mr_aload_n (pc' := 169) dX11_spreads_168 rfl rfl ?_
      refine mr_getR (pc' := 172) (ci := 11) (j := 29) (b := 161) hR dX11_spreads_169 rfl rfl rfl (by decide) (by decide) (by decide) rfl rfl ?_
      refine mr_bipush (pc' := 174) (v := (10 : Int32)) dX11_spreads_172 rfl (by decide) ?_
      refine mr_iload_n (pc' := 175) dX11_spreads_174 rfl rfl ?_
      refine mr_imul (pc' := 176) dX11_spreads_175 rfl ?_
      refine mr_iload_n (pc' := 177) dX11_spreads_176 rfl rfl ?_
      refine mr_iadd (pc' := 178) dX11_spreads_177 rfl ?_
      obtain ⟨a48, g49, h50⟩ := Option.bind_eq_some_iff.mp h
      refine mr_lald (pc' := 179) dX11_spreads_178 rfl rfl rfl g49 ?_
      refine mr_aload_n (pc' := 180) dX11_spreads_179 rfl rfl ?_
      refine mr_getR (pc' := 183) (ci := 11) (j := 29) (b := 161) hR dX11_spreads_180 rfl rfl rfl (by decide) (by decide) (by decide) rfl rfl ?_
      refine mr_bipush (pc' := 185) (v := (10 : Int32)) dX11_spreads_183 rfl (by decide) ?_
      refine mr_iload_n (pc' := 186) dX11_spreads_185 rfl rfl ?_
      refine mr_imul (pc' := 187) dX11_spreads_186 rfl ?_
      refine mr_iload_n (pc' := 188) dX11_spreads_187 rfl rfl ?_
      refine mr_iadd (pc' := 189) dX11_spreads_188 rfl ?_
      obtain ⟨a51, g52, h53⟩ := Option.bind_eq_some_iff.mp h50
      refine mr_lald (pc' := 190) dX11_spreads_189 rfl rfl rfl g52 ?_
      refine mr_ladd (pc' := 191) dX11_spreads_190 rfl ?_
      refine mr_aload_n (pc' := 192) dX11_spreads_191 rfl rfl ?_
      refine mr_getR (pc' := 195) (ci := 11) (j := 29) (b := 161) hR dX11_spreads_192 rfl rfl rfl (by decide) (by decide) (by decide) rfl rfl ?_
      refine mr_bipush (pc' := 197) (v := (10 : Int32)) dX11_spreads_195 rfl (by decide) ?_
      refine mr_iload_n (pc' := 198) dX11_spreads_197 rfl rfl ?_
      refine mr_imul (pc' := 199) dX11_spreads_198 rfl ?_
      refine mr_iload_n (pc' := 200) dX11_spreads_199 rfl rfl ?_
      refine mr_iadd (pc' := 201) dX11_spreads_200 rfl ?_
      obtain ⟨a54, g55, h56⟩ := Option.bind_eq_some_iff.mp h53
      refine mr_lald (pc' := 202) dX11_spreads_201 rfl rfl rfl g55 ?_
      by_cases c57 : a54 ≤ (a48 + a51)
      · rw [if_pos c57] at h56
        refine mr_lcmp_ge_t (t := 240) dX11_spreads_202 rfl dX11_spreads_203 (by decide) c57 ?_
        refine mr_iinc (pc' := 243) (x' := (p3 + (1 : Int32))) (lv' := [(3, .int (p3 + (1 : Int32))), (0, .ref 145), (1, .int p1), (2, .int p2)]) dX11_spreads_240 rfl (by decide) rfl rfl rfl ?_
        refine mr_goto (t := 162) dX11_spreads_243 (by decide) ?_
        exact mr_sub [(0, .ref 145), (1, .int p1), (2, .int p2), (3, .int (p3 + (1 : Int32)))] ⟨rfl, rfl, rfl, rfl, trivial⟩ rfl (ih _ _  h56)
      · rw [if_neg c57] at h56
        refine mr_lcmp_ge_f (t := 240) (pc' := 206) dX11_spreads_202 rfl dX11_spreads_203 (by decide) rfl c57 ?_
        refine mr_aload_n (pc' := 207) dX11_spreads_206 rfl rfl ?_
        refine mr_getR (pc' := 210) (ci := 11) (j := 29) (b := 161) hR dX11_spreads_207 rfl rfl rfl (by decide) (by decide) (by decide) rfl rfl ?_
        refine mr_bipush (pc' := 212) (v := (10 : Int32)) dX11_spreads_210 rfl (by decide) ?_
        refine mr_iload_n (pc' := 213) dX11_spreads_212 rfl rfl ?_
        refine mr_imul (pc' := 214) dX11_spreads_213 rfl ?_
        refine mr_iload_n (pc' := 215) dX11_spreads_214 rfl rfl ?_
        refine mr_iadd (pc' := 216) dX11_spreads_215 rfl ?_
        refine mr_aload_n (pc' := 217) dX11_spreads_216 rfl rfl ?_
        refine mr_getR (pc' := 220) (ci := 11) (j := 29) (b := 161) hR dX11_spreads_217 rfl rfl rfl (by decide) (by decide) (by decide) rfl rfl ?_
        refine mr_bipush (pc' := 222) (v := (10 : Int32)) dX11_spreads_220 rfl (by decide) ?_
        refine mr_iload_n (pc' := 223) dX11_spreads_222 rfl rfl ?_
        refine mr_imul (pc' := 224) dX11_spreads_223 rfl ?_
        refine mr_iload_n (pc' := 225) dX11_spreads_224 rfl rfl ?_
        refine mr_iadd (pc' := 226) dX11_spreads_225 rfl ?_
        obtain ⟨a58, g59, h60⟩ := Option.bind_eq_some_iff.mp h56
        refine mr_lald (pc' := 227) dX11_spreads_226 rfl rfl rfl g59 ?_
        refine mr_aload_n (pc' := 228) dX11_spreads_227 rfl rfl ?_
        refine mr_getR (pc' := 231) (ci := 11) (j := 29) (b := 161) hR dX11_spreads_228 rfl rfl rfl (by decide) (by decide) (by decide) rfl rfl ?_
        refine mr_bipush (pc' := 233) (v := (10 : Int32)) dX11_spreads_231 rfl (by decide) ?_
        refine mr_iload_n (pc' := 234) dX11_spreads_233 rfl rfl ?_
        refine mr_imul (pc' := 235) dX11_spreads_234 rfl ?_
        refine mr_iload_n (pc' := 236) dX11_spreads_235 rfl rfl ?_
        refine mr_iadd (pc' := 237) dX11_spreads_236 rfl ?_
        obtain ⟨a61, g62, h63⟩ := Option.bind_eq_some_iff.mp h60
        refine mr_lald (pc' := 238) dX11_spreads_237 rfl rfl rfl g62 ?_
        refine mr_ladd (pc' := 239) dX11_spreads_238 rfl ?_
        obtain ⟨S64, g65, h66⟩ := Option.bind_eq_some_iff.mp h63
        refine mr_last (pc' := 240) dX11_spreads_239 rfl rfl rfl g65 ?_
        refine mr_iinc (pc' := 243) (x' := (p3 + (1 : Int32))) (lv' := [(3, .int (p3 + (1 : Int32))), (0, .ref 145), (1, .int p1), (2, .int p2)]) dX11_spreads_240 rfl (by decide) rfl rfl rfl ?_
        refine mr_goto (t := 162) dX11_spreads_243 (by decide) ?_
        exact mr_sub [(0, .ref 145), (1, .int p1), (2, .int p2), (3, .int (p3 + (1 : Int32)))] ⟨rfl, rfl, rfl, rfl, trivial⟩ rfl (ih _ _  h66)
def lp_X11_spreads_154 (p1 : Int32) (K : fS → Option (fS)) : Nat → Int32 → fS → Option (fS)
  | 0, _, _ => none
  | n + 1, p2, S0 =>
    if (10 : Int32) ≤ p2 then (K S0) else
    (lp_X11_spreads_162 p1 p2 (fun S67 => lp_X11_spreads_154 p1 K n (p2 + (1 : Int32)) S67) FU (0 : Int32) S0)
set_option maxHeartbeats 4000000 in
set_option maxRecDepth 100000 in
theorem ok_lp_X11_spreads_154 {X : mm_C} {RR : Nat → Nat → Option Nat} (hR : RRok RR) {p1 : Int32}  {K : fS → Option (fS)} {r : fS} (hK : ∀ (Sk : fS), K Sk = some r → mr X 1 mY_X11_spreads 252 [(0, .ref 145), (1, .int p1)] [] (MM RR Sk) (none, MM RR r)) : ∀ (n : Nat) (p2 : Int32) (S0 : fS), lp_X11_spreads_154 p1 K n p2 S0 = some r → mr X 1 mY_X11_spreads 154 [(0, .ref 145), (1, .int p1), (2, .int p2)] [] (MM RR S0) (none, MM RR r) := by
  intro n
  induction n with
  | zero => intro p2 S0 h; exact mm_no h
  | succ n ih =>
    intro p2 S0 h
    unfold lp_X11_spreads_154 at h
    refine mr_iload_n (pc' := 155) dX11_spreads_154 rfl rfl ?_
    refine mr_bipush (pc' := 157) (v := (10 : Int32)) dX11_spreads_155 rfl (by decide) ?_
    by_cases c46 : (10 : Int32) ≤ p2
    · rw [if_pos c46] at h
      refine mr_icmp_ge_t (t := 252) dX11_spreads_157 (by decide) c46 ?_
      exact mr_sub [(0, .ref 145), (1, .int p1)] ⟨rfl, rfl, trivial⟩ rfl (hK _  h)
    · rw [if_neg c46] at h
      refine mr_icmp_ge_f (t := 252) (pc' := 160) dX11_spreads_157 (by decide) rfl c46 ?_
      refine mr_iconst (pc' := 161) (v := (0 : Int32)) dX11_spreads_160 rfl (by decide) ?_
      refine mr_istore_n (pc' := 162) (lv' := [(3, .int (0 : Int32)), (0, .ref 145), (1, .int p1), (2, .int p2)]) dX11_spreads_161 rfl (by decide) rfl ?_
      refine mr_sub [(0, .ref 145), (1, .int p1), (2, .int p2), (3, .int (0 : Int32))] ⟨rfl, rfl, rfl, rfl, trivial⟩ rfl ?_
      refine ok_lp_X11_spreads_162 hR  (fun S67 h68 => ?_) FU _ _  h
      refine mr_iinc (pc' := 249) (x' := (p2 + (1 : Int32))) (lv' := [(2, .int (p2 + (1 : Int32))), (0, .ref 145), (1, .int p1)]) dX11_spreads_246 rfl (by decide) rfl rfl rfl ?_
      refine mr_goto (t := 154) dX11_spreads_249 (by decide) ?_
      exact mr_sub [(0, .ref 145), (1, .int p1), (2, .int (p2 + (1 : Int32)))] ⟨rfl, rfl, rfl, trivial⟩ rfl (ih _ _  h68)
def lp_X11_spreads_146  (K : fS → Option (fS)) : Nat → Int32 → fS → Option (fS)
  | 0, _, _ => none
  | n + 1, p1, S0 =>
    if (10 : Int32) ≤ p1 then (K S0) else
    (lp_X11_spreads_154 p1 (fun S69 => lp_X11_spreads_146  K n (p1 + (1 : Int32)) S69) FU (0 : Int32) S0)
set_option maxHeartbeats 4000000 in
set_option maxRecDepth 100000 in
theorem ok_lp_X11_spreads_146 {X : mm_C} {RR : Nat → Nat → Option Nat} (hR : RRok RR)   {K : fS → Option (fS)} {r : fS} (hK : ∀ (Sk : fS), K Sk = some r → mr X 1 mY_X11_spreads 258 [] [] (MM RR Sk) (none, MM RR r)) : ∀ (n : Nat) (p1 : Int32) (S0 : fS), lp_X11_spreads_146  K n p1 S0 = some r → mr X 1 mY_X11_spreads 146 [(0, .ref 145), (1, .int p1)] [] (MM RR S0) (none, MM RR r) := by
  intro n
  induction n with
  | zero => intro p1 S0 h; exact mm_no h
  | succ n ih =>
    intro p1 S0 h
    unfold lp_X11_spreads_146 at h
    refine mr_iload_n (pc' := 147) dX11_spreads_146 rfl rfl ?_
    refine mr_bipush (pc' := 149) (v := (10 : Int32)) dX11_spreads_147 rfl (by decide) ?_
    by_cases c45 : (10 : Int32) ≤ p1
    · rw [if_pos c45] at h
      refine mr_icmp_ge_t (t := 258) dX11_spreads_149 (by decide) c45 ?_
      exact mr_sub [] trivial rfl (hK _  h)
    · rw [if_neg c45] at h
      refine mr_icmp_ge_f (t := 258) (pc' := 152) dX11_spreads_149 (by decide) rfl c45 ?_
      refine mr_iconst (pc' := 153) (v := (0 : Int32)) dX11_spreads_152 rfl (by decide) ?_
      refine mr_istore_n (pc' := 154) (lv' := [(2, .int (0 : Int32)), (0, .ref 145), (1, .int p1)]) dX11_spreads_153 rfl (by decide) rfl ?_
      refine mr_sub [(0, .ref 145), (1, .int p1), (2, .int (0 : Int32))] ⟨rfl, rfl, rfl, trivial⟩ rfl ?_
      refine ok_lp_X11_spreads_154 hR  (fun S69 h70 => ?_) FU _ _  h
      refine mr_iinc (pc' := 255) (x' := (p1 + (1 : Int32))) (lv' := [(1, .int (p1 + (1 : Int32))), (0, .ref 145)]) dX11_spreads_252 rfl (by decide) rfl rfl rfl ?_
      refine mr_goto (t := 146) dX11_spreads_255 (by decide) ?_
      exact mr_sub [(0, .ref 145), (1, .int (p1 + (1 : Int32)))] ⟨rfl, rfl, trivial⟩ rfl (ih _ _  h70)
def f_X11_spreads  (S : fS) : Option (fS) :=
  lp_X11_spreads_2  (fun S12 => lp_X11_spreads_53  (fun S43 => lp_X11_spreads_146  (fun S71 => some S71) FU (0 : Int32) S43) FU (0 : Int32) S12) FU (0 : Int32) S
set_option maxHeartbeats 4000000 in
set_option maxRecDepth 100000 in
theorem ok_X11_spreads {X : mm_C} {RR : Nat → Nat → Option Nat} (hR : RRok RR)   {S : fS} {r : fS} (h : f_X11_spreads  S = some r) : mr X 1 mY_X11_spreads 0 (lv_args 0 [.ref 145]) [] (MM RR S) (none, MM RR r) := by
  unfold f_X11_spreads at h
  show mr X _ _ 0 [(0, .ref 145)] [] (MM RR S) _
  refine mr_iconst (pc' := 1) (v := (0 : Int32)) dX11_spreads_0 rfl (by decide) ?_
  refine mr_istore_n (pc' := 2) (lv' := [(1, .int (0 : Int32)), (0, .ref 145)]) dX11_spreads_1 rfl (by decide) rfl ?_
  refine mr_sub [(0, .ref 145), (1, .int (0 : Int32))] ⟨rfl, rfl, trivial⟩ rfl ?_
  refine ok_lp_X11_spreads_2 hR  (fun S12 h13 => ?_) FU _ _  h
  refine mr_iconst (pc' := 52) (v := (0 : Int32)) dX11_spreads_51 rfl (by decide) ?_
  refine mr_istore_n (pc' := 53) (lv' := [(1, .int (0 : Int32)), (0, .ref 145)]) dX11_spreads_52 rfl (by decide) rfl ?_
  refine mr_sub [(0, .ref 145), (1, .int (0 : Int32))] ⟨rfl, rfl, trivial⟩ rfl ?_
  refine ok_lp_X11_spreads_53 hR  (fun S43 h44 => ?_) FU _ _  h13
  refine mr_iconst (pc' := 145) (v := (0 : Int32)) dX11_spreads_144 rfl (by decide) ?_
  refine mr_istore_n (pc' := 146) (lv' := [(1, .int (0 : Int32)), (0, .ref 145)]) dX11_spreads_145 rfl (by decide) rfl ?_
  refine mr_sub [(0, .ref 145), (1, .int (0 : Int32))] ⟨rfl, rfl, trivial⟩ rfl ?_
  refine ok_lp_X11_spreads_146 hR  (fun S71 h72 => ?_) FU _ _  h44
  obtain rfl := Option.some.inj h72
  exact mr_return dX11_spreads_258 rfl
