def lp_X11_tower_82  (K : fS → Option (Int32 × fS)) : Nat → Int32 → fS → Option (Int32 × fS)
  | 0, _, _ => none
  | n + 1, p1, S0 =>
    if ((2 : Int32) * (S0.1 145 7)) ≤ p1 then (K S0) else
    ((gI S0 151 20 p1).bind fun a33 =>
    (sI S0 157 158 ((10 : Int32) + p1) a33).bind fun S36 =>
    lp_X11_tower_82  K n (p1 + (1 : Int32)) S36)
set_option maxHeartbeats 4000000 in
set_option maxRecDepth 100000 in
theorem ok_lp_X11_tower_82 {X : mm_C} {RR : Nat → Nat → Option Nat} (hR : RRok RR)   {K : fS → Option (Int32 × fS)} {r : Int32 × fS} (hK : ∀ (Sk : fS), K Sk = some r → mr X 12 mY_X11_tower 113 [(0, .ref 145)] [] (MM RR Sk) (some (.int r.1), MM RR r.2)) : ∀ (n : Nat) (p1 : Int32) (S0 : fS), lp_X11_tower_82  K n p1 S0 = some r → mr X 12 mY_X11_tower 82 [(0, .ref 145), (1, .int p1)] [] (MM RR S0) (some (.int r.1), MM RR r.2) := by
  intro n
  induction n with
  | zero => intro p1 S0 h; exact mm_no h
  | succ n ih =>
    intro p1 S0 h
    unfold lp_X11_tower_82 at h
    refine mr_iload_n (pc' := 83) dX11_tower_82 rfl rfl ?_
    refine mr_iconst (pc' := 84) (v := (2 : Int32)) dX11_tower_83 rfl (by decide) ?_
    refine mr_aload_n (pc' := 85) dX11_tower_84 rfl rfl ?_
    refine mr_getI (pc' := 88) (ci := 11) (j := 7) dX11_tower_85 rfl rfl rfl (by decide) (by decide) rfl ?_
    refine mr_imul (pc' := 89) dX11_tower_88 rfl ?_
    by_cases c32 : ((2 : Int32) * (S0.1 145 7)) ≤ p1
    · rw [if_pos c32] at h
      refine mr_icmp_ge_t (t := 113) dX11_tower_89 (by decide) c32 ?_
      exact mr_sub [(0, .ref 145)] ⟨rfl, trivial⟩ rfl (hK _  h)
    · rw [if_neg c32] at h
      refine mr_icmp_ge_f (t := 113) (pc' := 92) dX11_tower_89 (by decide) rfl c32 ?_
      refine mr_aload_n (pc' := 93) dX11_tower_92 rfl rfl ?_
      refine mr_getR (pc' := 96) (ci := 11) (j := 25) (b := 157) hR dX11_tower_93 rfl rfl rfl (by decide) (by decide) (by decide) rfl rfl ?_
      refine mr_bipush (pc' := 98) (v := (10 : Int32)) dX11_tower_96 rfl (by decide) ?_
      refine mr_iload_n (pc' := 99) dX11_tower_98 rfl rfl ?_
      refine mr_iadd (pc' := 100) dX11_tower_99 rfl ?_
      refine mr_aload_n (pc' := 101) dX11_tower_100 rfl rfl ?_
      refine mr_getR (pc' := 104) (ci := 11) (j := 10) (b := 151) hR dX11_tower_101 rfl rfl rfl (by decide) (by decide) (by decide) rfl rfl ?_
      refine mr_iload_n (pc' := 105) dX11_tower_104 rfl rfl ?_
      obtain ⟨a33, g34, h35⟩ := Option.bind_eq_some_iff.mp h
      refine mr_iald (pc' := 106) dX11_tower_105 rfl rfl rfl g34 ?_
      obtain ⟨S36, g37, h38⟩ := Option.bind_eq_some_iff.mp h35
      refine mr_iast (pc' := 107) dX11_tower_106 rfl rfl rfl g37 ?_
      refine mr_iinc (pc' := 110) (x' := (p1 + (1 : Int32))) (lv' := [(1, .int (p1 + (1 : Int32))), (0, .ref 145)]) dX11_tower_107 rfl (by decide) rfl rfl rfl ?_
      refine mr_goto (t := 82) dX11_tower_110 (by decide) ?_
      exact mr_sub [(0, .ref 145), (1, .int (p1 + (1 : Int32)))] ⟨rfl, rfl, trivial⟩ rfl (ih _ _  h38)
def lp_X11_tower_115  (K : fS → Option (Int32 × fS)) : Nat → Int32 → fS → Option (Int32 × fS)
  | 0, _, _ => none
  | n + 1, p1, S0 =>
    if ((5 : Int32) * (S0.1 145 8)) ≤ p1 then (K S0) else
    ((gI S0 152 60 p1).bind fun a42 =>
    (sI S0 157 158 ((30 : Int32) + p1) a42).bind fun S45 =>
    lp_X11_tower_115  K n (p1 + (1 : Int32)) S45)
set_option maxHeartbeats 4000000 in
set_option maxRecDepth 100000 in
theorem ok_lp_X11_tower_115 {X : mm_C} {RR : Nat → Nat → Option Nat} (hR : RRok RR)   {K : fS → Option (Int32 × fS)} {r : Int32 × fS} (hK : ∀ (Sk : fS), K Sk = some r → mr X 12 mY_X11_tower 146 [(0, .ref 145)] [] (MM RR Sk) (some (.int r.1), MM RR r.2)) : ∀ (n : Nat) (p1 : Int32) (S0 : fS), lp_X11_tower_115  K n p1 S0 = some r → mr X 12 mY_X11_tower 115 [(0, .ref 145), (1, .int p1)] [] (MM RR S0) (some (.int r.1), MM RR r.2) := by
  intro n
  induction n with
  | zero => intro p1 S0 h; exact mm_no h
  | succ n ih =>
    intro p1 S0 h
    unfold lp_X11_tower_115 at h
    refine mr_iload_n (pc' := 116) dX11_tower_115 rfl rfl ?_
    refine mr_iconst (pc' := 117) (v := (5 : Int32)) dX11_tower_116 rfl (by decide) ?_
    refine mr_aload_n (pc' := 118) dX11_tower_117 rfl rfl ?_
    refine mr_getI (pc' := 121) (ci := 11) (j := 8) dX11_tower_118 rfl rfl rfl (by decide) (by decide) rfl ?_
    refine mr_imul (pc' := 122) dX11_tower_121 rfl ?_
    by_cases c41 : ((5 : Int32) * (S0.1 145 8)) ≤ p1
    · rw [if_pos c41] at h
      refine mr_icmp_ge_t (t := 146) dX11_tower_122 (by decide) c41 ?_
      exact mr_sub [(0, .ref 145)] ⟨rfl, trivial⟩ rfl (hK _  h)
    · rw [if_neg c41] at h
      refine mr_icmp_ge_f (t := 146) (pc' := 125) dX11_tower_122 (by decide) rfl c41 ?_
      refine mr_aload_n (pc' := 126) dX11_tower_125 rfl rfl ?_
      refine mr_getR (pc' := 129) (ci := 11) (j := 25) (b := 157) hR dX11_tower_126 rfl rfl rfl (by decide) (by decide) (by decide) rfl rfl ?_
      refine mr_bipush (pc' := 131) (v := (30 : Int32)) dX11_tower_129 rfl (by decide) ?_
      refine mr_iload_n (pc' := 132) dX11_tower_131 rfl rfl ?_
      refine mr_iadd (pc' := 133) dX11_tower_132 rfl ?_
      refine mr_aload_n (pc' := 134) dX11_tower_133 rfl rfl ?_
      refine mr_getR (pc' := 137) (ci := 11) (j := 11) (b := 152) hR dX11_tower_134 rfl rfl rfl (by decide) (by decide) (by decide) rfl rfl ?_
      refine mr_iload_n (pc' := 138) dX11_tower_137 rfl rfl ?_
      obtain ⟨a42, g43, h44⟩ := Option.bind_eq_some_iff.mp h
      refine mr_iald (pc' := 139) dX11_tower_138 rfl rfl rfl g43 ?_
      obtain ⟨S45, g46, h47⟩ := Option.bind_eq_some_iff.mp h44
      refine mr_iast (pc' := 140) dX11_tower_139 rfl rfl rfl g46 ?_
      refine mr_iinc (pc' := 143) (x' := (p1 + (1 : Int32))) (lv' := [(1, .int (p1 + (1 : Int32))), (0, .ref 145)]) dX11_tower_140 rfl (by decide) rfl rfl rfl ?_
      refine mr_goto (t := 115) dX11_tower_143 (by decide) ?_
      exact mr_sub [(0, .ref 145), (1, .int (p1 + (1 : Int32)))] ⟨rfl, rfl, trivial⟩ rfl (ih _ _  h47)
def lp_X11_tower_148  (K : fS → Option (Int32 × fS)) : Nat → Int32 → fS → Option (Int32 × fS)
  | 0, _, _ => none
  | n + 1, p1, S0 =>
    if (S0.1 145 9) ≤ p1 then (K S0) else
    ((gI S0 153 8 p1).bind fun a51 =>
    (f_X11_stands p1 a51 S0).bind fun q54 =>
    (sL q54 158 8 p1 (0 : Int64)).bind fun S57 =>
    lp_X11_tower_148  K n (p1 + (1 : Int32)) S57)
set_option maxHeartbeats 4000000 in
set_option maxRecDepth 100000 in
theorem ok_lp_X11_tower_148 {X : mm_C} {RR : Nat → Nat → Option Nat} (hR : RRok RR)   {K : fS → Option (Int32 × fS)} {r : Int32 × fS} (hK : ∀ (Sk : fS), K Sk = some r → mr X 12 mY_X11_tower 180 [(0, .ref 145)] [] (MM RR Sk) (some (.int r.1), MM RR r.2)) : ∀ (n : Nat) (p1 : Int32) (S0 : fS), lp_X11_tower_148  K n p1 S0 = some r → mr X 12 mY_X11_tower 148 [(0, .ref 145), (1, .int p1)] [] (MM RR S0) (some (.int r.1), MM RR r.2) := by
  intro n
  induction n with
  | zero => intro p1 S0 h; exact mm_no h
  | succ n ih =>
    intro p1 S0 h
    unfold lp_X11_tower_148 at h
    refine mr_iload_n (pc' := 149) dX11_tower_148 rfl rfl ?_
    refine mr_aload_n (pc' := 150) dX11_tower_149 rfl rfl ?_
    refine mr_getI (pc' := 153) (ci := 11) (j := 9) dX11_tower_150 rfl rfl rfl (by decide) (by decide) rfl ?_
    by_cases c50 : (S0.1 145 9) ≤ p1
    · rw [if_pos c50] at h
      refine mr_icmp_ge_t (t := 180) dX11_tower_153 (by decide) c50 ?_
      exact mr_sub [(0, .ref 145)] ⟨rfl, trivial⟩ rfl (hK _  h)
    · rw [if_neg c50] at h
      refine mr_icmp_ge_f (t := 180) (pc' := 156) dX11_tower_153 (by decide) rfl c50 ?_
      refine mr_aload_n (pc' := 157) dX11_tower_156 rfl rfl ?_
      refine mr_iload_n (pc' := 158) dX11_tower_157 rfl rfl ?_
      refine mr_aload_n (pc' := 159) dX11_tower_158 rfl rfl ?_
      refine mr_getR (pc' := 162) (ci := 11) (j := 12) (b := 153) hR dX11_tower_159 rfl rfl rfl (by decide) (by decide) (by decide) rfl rfl ?_
      refine mr_iload_n (pc' := 163) dX11_tower_162 rfl rfl ?_
      obtain ⟨a51, g52, h53⟩ := Option.bind_eq_some_iff.mp h
      refine mr_iald (pc' := 164) dX11_tower_163 rfl rfl rfl g52 ?_
      obtain ⟨q54, g55, h56⟩ := Option.bind_eq_some_iff.mp h53
      refine mr_cv (pc' := 167) (a := 145) (d1 := 0) dX11_tower_164 rfl rfl rfl rfl rfl rfl (by decide) rfl (by decide) (ok_X11_stands hR  g55) ?_
      show mr X _ _ 167 _ [] (MM RR q54) _
      refine mr_aload_n (pc' := 168) dX11_tower_167 rfl rfl ?_
      refine mr_getR (pc' := 171) (ci := 11) (j := 26) (b := 158) hR dX11_tower_168 rfl rfl rfl (by decide) (by decide) (by decide) rfl rfl ?_
      refine mr_iload_n (pc' := 172) dX11_tower_171 rfl rfl ?_
      refine mr_lconst (pc' := 173) (v := (0 : Int64)) dX11_tower_172 rfl (by decide) ?_
      obtain ⟨S57, g58, h59⟩ := Option.bind_eq_some_iff.mp h56
      refine mr_last (pc' := 174) dX11_tower_173 rfl rfl rfl g58 ?_
      refine mr_iinc (pc' := 177) (x' := (p1 + (1 : Int32))) (lv' := [(1, .int (p1 + (1 : Int32))), (0, .ref 145)]) dX11_tower_174 rfl (by decide) rfl rfl rfl ?_
      refine mr_goto (t := 148) dX11_tower_177 (by decide) ?_
      exact mr_sub [(0, .ref 145), (1, .int (p1 + (1 : Int32)))] ⟨rfl, rfl, trivial⟩ rfl (ih _ _  h59)
def f_X11_tower  (S : fS) : Option (Int32 × fS) :=
  (some (pI S 145 16 (6 : Int32))).bind fun S1 =>
  (some (pI S1 145 7 (0 : Int32))).bind fun S4 =>
  (some (pI S4 145 8 (0 : Int32))).bind fun S7 =>
  (some (pI S7 145 9 (0 : Int32))).bind fun S10 =>
  (f_X11_readsAll  S10).bind fun q13 =>
  if q13.1 = (0 : Int32) then (some (((-2 : Int32) - (q13.2.1 145 14)), q13.2)) else
  ((sI q13.2 157 158 (0 : Int32) (q13.2.1 145 7)).bind fun S17 =>
  (sI S17 157 158 (1 : Int32) (S17.1 145 8)).bind fun S20 =>
  (sI S20 157 158 (2 : Int32) (S20.1 145 9)).bind fun S23 =>
  (sI S23 157 158 (3 : Int32) (0 : Int32)).bind fun S26 =>
  (sI S26 157 158 (4 : Int32) (0 : Int32)).bind fun S29 =>
  lp_X11_tower_82  (fun S39 => lp_X11_tower_115  (fun S48 => lp_X11_tower_148  (fun S60 => (f_X11_spreads  S60).bind fun q62 =>
  some ((q62.1 145 7), q62)) FU (0 : Int32) S48) FU (0 : Int32) S39) FU (0 : Int32) S29)
set_option maxHeartbeats 4000000 in
set_option maxRecDepth 100000 in
theorem ok_X11_tower {X : mm_C} {RR : Nat → Nat → Option Nat} (hR : RRok RR)   {S : fS} {r : Int32 × fS} (h : f_X11_tower  S = some r) : mr X 12 mY_X11_tower 0 (lv_args 0 [.ref 145]) [] (MM RR S) (some (.int r.1), MM RR r.2) := by
  unfold f_X11_tower at h
  show mr X _ _ 0 [(0, .ref 145)] [] (MM RR S) _
  refine mr_aload_n (pc' := 1) dX11_tower_0 rfl rfl ?_
  refine mr_bipush (pc' := 3) (v := (6 : Int32)) dX11_tower_1 rfl (by decide) ?_
  obtain ⟨S1, g2, h3⟩ := Option.bind_eq_some_iff.mp h
  refine mr_putI (pc' := 6) (ci := 11) (j := 16) dX11_tower_3 rfl rfl rfl (by decide) (by decide) rfl rfl ?_
  rw [Option.some.inj g2]
  refine mr_aload_n (pc' := 7) dX11_tower_6 rfl rfl ?_
  refine mr_iconst (pc' := 8) (v := (0 : Int32)) dX11_tower_7 rfl (by decide) ?_
  obtain ⟨S4, g5, h6⟩ := Option.bind_eq_some_iff.mp h3
  refine mr_putI (pc' := 11) (ci := 11) (j := 7) dX11_tower_8 rfl rfl rfl (by decide) (by decide) rfl rfl ?_
  rw [Option.some.inj g5]
  refine mr_aload_n (pc' := 12) dX11_tower_11 rfl rfl ?_
  refine mr_iconst (pc' := 13) (v := (0 : Int32)) dX11_tower_12 rfl (by decide) ?_
  obtain ⟨S7, g8, h9⟩ := Option.bind_eq_some_iff.mp h6
  refine mr_putI (pc' := 16) (ci := 11) (j := 8) dX11_tower_13 rfl rfl rfl (by decide) (by decide) rfl rfl ?_
  rw [Option.some.inj g8]
  refine mr_aload_n (pc' := 17) dX11_tower_16 rfl rfl ?_
  refine mr_iconst (pc' := 18) (v := (0 : Int32)) dX11_tower_17 rfl (by decide) ?_
  obtain ⟨S10, g11, h12⟩ := Option.bind_eq_some_iff.mp h9
  refine mr_putI (pc' := 21) (ci := 11) (j := 9) dX11_tower_18 rfl rfl rfl (by decide) (by decide) rfl rfl ?_
  rw [Option.some.inj g11]
  refine mr_aload_n (pc' := 22) dX11_tower_21 rfl rfl ?_
  obtain ⟨q13, g14, h15⟩ := Option.bind_eq_some_iff.mp h12
  refine mr_cv (pc' := 25) (a := 145) (d1 := 11) dX11_tower_22 rfl rfl rfl rfl rfl rfl (by decide) rfl (by decide) (ok_X11_readsAll hR  g14) ?_
  show mr X _ _ 25 _ [.int q13.1] (MM RR q13.2) _
  by_cases c16 : q13.1 = (0 : Int32)
  · rw [if_pos c16] at h15
    refine mr_if_ne_f (t := 36) (pc' := 28) dX11_tower_25 (by decide) rfl (not_not_intro c16) ?_
    refine mr_bipush (pc' := 30) (v := (-2 : Int32)) dX11_tower_28 rfl (by decide) ?_
    refine mr_aload_n (pc' := 31) dX11_tower_30 rfl rfl ?_
    refine mr_getI (pc' := 34) (ci := 11) (j := 14) dX11_tower_31 rfl rfl rfl (by decide) (by decide) rfl ?_
    refine mr_isub (pc' := 35) dX11_tower_34 rfl ?_
    obtain rfl := Option.some.inj h15
    exact mr_ireturn dX11_tower_35 rfl
  · rw [if_neg c16] at h15
    refine mr_if_ne_t (t := 36) dX11_tower_25 (by decide) c16 ?_
    refine mr_aload_n (pc' := 37) dX11_tower_36 rfl rfl ?_
    refine mr_getR (pc' := 40) (ci := 11) (j := 25) (b := 157) hR dX11_tower_37 rfl rfl rfl (by decide) (by decide) (by decide) rfl rfl ?_
    refine mr_iconst (pc' := 41) (v := (0 : Int32)) dX11_tower_40 rfl (by decide) ?_
    refine mr_aload_n (pc' := 42) dX11_tower_41 rfl rfl ?_
    refine mr_getI (pc' := 45) (ci := 11) (j := 7) dX11_tower_42 rfl rfl rfl (by decide) (by decide) rfl ?_
    obtain ⟨S17, g18, h19⟩ := Option.bind_eq_some_iff.mp h15
    refine mr_iast (pc' := 46) dX11_tower_45 rfl rfl rfl g18 ?_
    refine mr_aload_n (pc' := 47) dX11_tower_46 rfl rfl ?_
    refine mr_getR (pc' := 50) (ci := 11) (j := 25) (b := 157) hR dX11_tower_47 rfl rfl rfl (by decide) (by decide) (by decide) rfl rfl ?_
    refine mr_iconst (pc' := 51) (v := (1 : Int32)) dX11_tower_50 rfl (by decide) ?_
    refine mr_aload_n (pc' := 52) dX11_tower_51 rfl rfl ?_
    refine mr_getI (pc' := 55) (ci := 11) (j := 8) dX11_tower_52 rfl rfl rfl (by decide) (by decide) rfl ?_
    obtain ⟨S20, g21, h22⟩ := Option.bind_eq_some_iff.mp h19
    refine mr_iast (pc' := 56) dX11_tower_55 rfl rfl rfl g21 ?_
    refine mr_aload_n (pc' := 57) dX11_tower_56 rfl rfl ?_
    refine mr_getR (pc' := 60) (ci := 11) (j := 25) (b := 157) hR dX11_tower_57 rfl rfl rfl (by decide) (by decide) (by decide) rfl rfl ?_
    refine mr_iconst (pc' := 61) (v := (2 : Int32)) dX11_tower_60 rfl (by decide) ?_
    refine mr_aload_n (pc' := 62) dX11_tower_61 rfl rfl ?_
    refine mr_getI (pc' := 65) (ci := 11) (j := 9) dX11_tower_62 rfl rfl rfl (by decide) (by decide) rfl ?_
    obtain ⟨S23, g24, h25⟩ := Option.bind_eq_some_iff.mp h22
    refine mr_iast (pc' := 66) dX11_tower_65 rfl rfl rfl g24 ?_
    refine mr_aload_n (pc' := 67) dX11_tower_66 rfl rfl ?_
    refine mr_getR (pc' := 70) (ci := 11) (j := 25) (b := 157) hR dX11_tower_67 rfl rfl rfl (by decide) (by decide) (by decide) rfl rfl ?_
    refine mr_iconst (pc' := 71) (v := (3 : Int32)) dX11_tower_70 rfl (by decide) ?_
    refine mr_iconst (pc' := 72) (v := (0 : Int32)) dX11_tower_71 rfl (by decide) ?_
    obtain ⟨S26, g27, h28⟩ := Option.bind_eq_some_iff.mp h25
    refine mr_iast (pc' := 73) dX11_tower_72 rfl rfl rfl g27 ?_
    refine mr_aload_n (pc' := 74) dX11_tower_73 rfl rfl ?_
    refine mr_getR (pc' := 77) (ci := 11) (j := 25) (b := 157) hR dX11_tower_74 rfl rfl rfl (by decide) (by decide) (by decide) rfl rfl ?_
    refine mr_iconst (pc' := 78) (v := (4 : Int32)) dX11_tower_77 rfl (by decide) ?_
    refine mr_iconst (pc' := 79) (v := (0 : Int32)) dX11_tower_78 rfl (by decide) ?_
    obtain ⟨S29, g30, h31⟩ := Option.bind_eq_some_iff.mp h28
    refine mr_iast (pc' := 80) dX11_tower_79 rfl rfl rfl g30 ?_
    refine mr_iconst (pc' := 81) (v := (0 : Int32)) dX11_tower_80 rfl (by decide) ?_
    refine mr_istore_n (pc' := 82) (lv' := [(1, .int (0 : Int32)), (0, .ref 145)]) dX11_tower_81 rfl (by decide) rfl ?_
    refine mr_sub [(0, .ref 145), (1, .int (0 : Int32))] ⟨rfl, rfl, trivial⟩ rfl ?_
    refine ok_lp_X11_tower_82 hR  (fun S39 h40 => ?_) FU _ _  h31
    refine mr_iconst (pc' := 114) (v := (0 : Int32)) dX11_tower_113 rfl (by decide) ?_
    refine mr_istore_n (pc' := 115) (lv' := [(1, .int (0 : Int32)), (0, .ref 145)]) dX11_tower_114 rfl (by decide) rfl ?_
    refine mr_sub [(0, .ref 145), (1, .int (0 : Int32))] ⟨rfl, rfl, trivial⟩ rfl ?_
    refine ok_lp_X11_tower_115 hR  (fun S48 h49 => ?_) FU _ _  h40
    refine mr_iconst (pc' := 147) (v := (0 : Int32)) dX11_tower_146 rfl (by decide) ?_
    refine mr_istore_n (pc' := 148) (lv' := [(1, .int (0 : Int32)), (0, .ref 145)]) dX11_tower_147 rfl (by decide) rfl ?_
    refine mr_sub [(0, .ref 145), (1, .int (0 : Int32))] ⟨rfl, rfl, trivial⟩ rfl ?_
    refine ok_lp_X11_tower_148 hR  (fun S60 h61 => ?_) FU _ _  h49
    refine mr_aload_n (pc' := 181) dX11_tower_180 rfl rfl ?_
    obtain ⟨q62, g63, h64⟩ := Option.bind_eq_some_iff.mp h61
    refine mr_cv (pc' := 184) (a := 145) (d1 := 1) dX11_tower_181 rfl rfl rfl rfl rfl rfl (by decide) rfl (by decide) (ok_X11_spreads hR  g63) ?_
    show mr X _ _ 184 _ [] (MM RR q62) _
    refine mr_aload_n (pc' := 185) dX11_tower_184 rfl rfl ?_
    refine mr_getI (pc' := 188) (ci := 11) (j := 7) dX11_tower_185 rfl rfl rfl (by decide) (by decide) rfl ?_
    obtain rfl := Option.some.inj h64
    exact mr_ireturn dX11_tower_188 rfl
def f_X11_isFloor (v1 : Int32) (S : fS) : Option (Int32) :=
  if v1 < (0 : Int32) then (some (0 : Int32)) else
  ((gI S 157 158 (0 : Int32)).bind fun a2 =>
  if a2 ≤ v1 then (some (0 : Int32)) else
  (some (1 : Int32)))
set_option maxHeartbeats 4000000 in
set_option maxRecDepth 100000 in
theorem ok_X11_isFloor {X : mm_C} {RR : Nat → Nat → Option Nat} (hR : RRok RR) {v1 : Int32}  {S : fS} {r : Int32} (h : f_X11_isFloor v1 S = some r) : mr X 0 mY_X11_isFloor 0 (lv_args 0 [.ref 145, .int v1]) [] (MM RR S) (some (.int r), MM RR S) := by
  unfold f_X11_isFloor at h
  show mr X _ _ 0 [(0, .ref 145), (1, .int v1)] [] (MM RR S) _
  refine mr_iload_n (pc' := 1) dX11_isFloor_0 rfl rfl ?_
  by_cases c1 : v1 < (0 : Int32)
  · rw [if_pos c1] at h
    refine mr_if_lt_t (t := 18) dX11_isFloor_1 (by decide) c1 ?_
    refine mr_iconst (pc' := 19) (v := (0 : Int32)) dX11_isFloor_18 rfl (by decide) ?_
    obtain rfl := Option.some.inj h
    exact mr_zreturn dX11_isFloor_19 rfl (by decide)
  · rw [if_neg c1] at h
    refine mr_if_lt_f (t := 18) (pc' := 4) dX11_isFloor_1 (by decide) rfl c1 ?_
    refine mr_iload_n (pc' := 5) dX11_isFloor_4 rfl rfl ?_
    refine mr_aload_n (pc' := 6) dX11_isFloor_5 rfl rfl ?_
    refine mr_getR (pc' := 9) (ci := 11) (j := 25) (b := 157) hR dX11_isFloor_6 rfl rfl rfl (by decide) (by decide) (by decide) rfl rfl ?_
    refine mr_iconst (pc' := 10) (v := (0 : Int32)) dX11_isFloor_9 rfl (by decide) ?_
    obtain ⟨a2, g3, h4⟩ := Option.bind_eq_some_iff.mp h
    refine mr_iald (pc' := 11) dX11_isFloor_10 rfl rfl rfl g3 ?_
    by_cases c5 : a2 ≤ v1
    · rw [if_pos c5] at h4
      refine mr_icmp_ge_t (t := 18) dX11_isFloor_11 (by decide) c5 ?_
      refine mr_iconst (pc' := 19) (v := (0 : Int32)) dX11_isFloor_18 rfl (by decide) ?_
      obtain rfl := Option.some.inj h4
      exact mr_zreturn dX11_isFloor_19 rfl (by decide)
    · rw [if_neg c5] at h4
      refine mr_icmp_ge_f (t := 18) (pc' := 14) dX11_isFloor_11 (by decide) rfl c5 ?_
      refine mr_iconst (pc' := 15) (v := (1 : Int32)) dX11_isFloor_14 rfl (by decide) ?_
      refine mr_goto (t := 19) dX11_isFloor_15 (by decide) ?_
      obtain rfl := Option.some.inj h4
      exact mr_zreturn dX11_isFloor_19 rfl (by decide)
def f_X11_thingOf (v1 : Int32) (v2 : Int32) (S : fS) : Option (Int32) :=
  (gI S 157 158 (((90 : Int32) + ((4 : Int32) * v1)) + v2)).bind fun a1 =>
  some a1
set_option maxHeartbeats 4000000 in
set_option maxRecDepth 100000 in
theorem ok_X11_thingOf {X : mm_C} {RR : Nat → Nat → Option Nat} (hR : RRok RR) {v1 : Int32} {v2 : Int32}  {S : fS} {r : Int32} (h : f_X11_thingOf v1 v2 S = some r) : mr X 0 mY_X11_thingOf 0 (lv_args 0 [.ref 145, .int v1, .int v2]) [] (MM RR S) (some (.int r), MM RR S) := by
  unfold f_X11_thingOf at h
  show mr X _ _ 0 [(0, .ref 145), (1, .int v1), (2, .int v2)] [] (MM RR S) _
  refine mr_aload_n (pc' := 1) dX11_thingOf_0 rfl rfl ?_
  refine mr_getR (pc' := 4) (ci := 11) (j := 25) (b := 157) hR dX11_thingOf_1 rfl rfl rfl (by decide) (by decide) (by decide) rfl rfl ?_
  refine mr_bipush (pc' := 6) (v := (90 : Int32)) dX11_thingOf_4 rfl (by decide) ?_
  refine mr_iconst (pc' := 7) (v := (4 : Int32)) dX11_thingOf_6 rfl (by decide) ?_
  refine mr_iload_n (pc' := 8) dX11_thingOf_7 rfl rfl ?_
  refine mr_imul (pc' := 9) dX11_thingOf_8 rfl ?_
  refine mr_iadd (pc' := 10) dX11_thingOf_9 rfl ?_
  refine mr_iload_n (pc' := 11) dX11_thingOf_10 rfl rfl ?_
  refine mr_iadd (pc' := 12) dX11_thingOf_11 rfl ?_
  obtain ⟨a1, g2, h3⟩ := Option.bind_eq_some_iff.mp h
  refine mr_iald (pc' := 13) dX11_thingOf_12 rfl rfl rfl g2 ?_
  obtain rfl := Option.some.inj h3
  exact mr_ireturn dX11_thingOf_13 rfl
def lp_X11_standing_4 (p1 : Int32) (S : fS) (K : Int32 → Option (Int32)) : Nat → Int32 → Int32 → Option (Int32)
  | 0, _, _ => none
  | n + 1, p2, p3 =>
    (gI S 157 158 (2 : Int32)).bind fun a1 =>
    if a1 ≤ p3 then (K p2) else
    ((f_X11_thingOf p3 (0 : Int32) S).bind fun q5 =>
    if q5 = p1 then (lp_X11_standing_4 p1 S K n (p2 + (1 : Int32)) (p3 + (1 : Int32))) else
    (lp_X11_standing_4 p1 S K n (p2 + (0 : Int32)) (p3 + (1 : Int32))))
set_option maxHeartbeats 4000000 in
set_option maxRecDepth 100000 in
theorem ok_lp_X11_standing_4 {X : mm_C} {RR : Nat → Nat → Option Nat} (hR : RRok RR) {p1 : Int32}  {S : fS} {K : Int32 → Option (Int32)} {r : Int32} (hK : ∀ (k2 : Int32), K k2 = some r → mr X 1 mY_X11_standing 38 [(2, .int k2)] [] (MM RR S) (some (.int r), MM RR S)) : ∀ (n : Nat) (p2 : Int32) (p3 : Int32), lp_X11_standing_4 p1 S K n p2 p3 = some r → mr X 1 mY_X11_standing 4 [(0, .ref 145), (1, .int p1), (2, .int p2), (3, .int p3)] [] (MM RR S) (some (.int r), MM RR S) := by
  intro n
  induction n with
  | zero => intro p2 p3 h; exact mm_no h
  | succ n ih =>
    intro p2 p3 h
    unfold lp_X11_standing_4 at h
    refine mr_iload_n (pc' := 5) dX11_standing_4 rfl rfl ?_
    refine mr_aload_n (pc' := 6) dX11_standing_5 rfl rfl ?_
    refine mr_getR (pc' := 9) (ci := 11) (j := 25) (b := 157) hR dX11_standing_6 rfl rfl rfl (by decide) (by decide) (by decide) rfl rfl ?_
    refine mr_iconst (pc' := 10) (v := (2 : Int32)) dX11_standing_9 rfl (by decide) ?_
    obtain ⟨a1, g2, h3⟩ := Option.bind_eq_some_iff.mp h
    refine mr_iald (pc' := 11) dX11_standing_10 rfl rfl rfl g2 ?_
    by_cases c4 : a1 ≤ p3
    · rw [if_pos c4] at h3
      refine mr_icmp_ge_t (t := 38) dX11_standing_11 (by decide) c4 ?_
      exact mr_sub [(2, .int p2)] ⟨rfl, trivial⟩ rfl (hK _  h3)
    · rw [if_neg c4] at h3
      refine mr_icmp_ge_f (t := 38) (pc' := 14) dX11_standing_11 (by decide) rfl c4 ?_
      refine mr_iload_n (pc' := 15) dX11_standing_14 rfl rfl ?_
      refine mr_aload_n (pc' := 16) dX11_standing_15 rfl rfl ?_
      refine mr_iload_n (pc' := 17) dX11_standing_16 rfl rfl ?_
      refine mr_iconst (pc' := 18) (v := (0 : Int32)) dX11_standing_17 rfl (by decide) ?_
      obtain ⟨q5, g6, h7⟩ := Option.bind_eq_some_iff.mp h3
      refine mr_cv (pc' := 21) (a := 145) (d1 := 0) dX11_standing_18 rfl rfl rfl rfl rfl rfl (by decide) rfl (by decide) (ok_X11_thingOf hR  g6) ?_
      show mr X _ _ 21 _ [.int q5, .int p2] (MM RR S) _
      refine mr_iload_n (pc' := 22) dX11_standing_21 rfl rfl ?_
      by_cases c8 : q5 = p1
      · rw [if_pos c8] at h7
        refine mr_icmp_ne_f (t := 29) (pc' := 25) dX11_standing_22 (by decide) rfl (not_not_intro c8) ?_
        refine mr_iconst (pc' := 26) (v := (1 : Int32)) dX11_standing_25 rfl (by decide) ?_
        refine mr_goto (t := 30) dX11_standing_26 (by decide) ?_
        refine mr_iadd (pc' := 31) dX11_standing_30 rfl ?_
        refine mr_istore_n (pc' := 32) (lv' := [(2, .int (p2 + (1 : Int32))), (0, .ref 145), (1, .int p1), (3, .int p3)]) dX11_standing_31 rfl (by decide) rfl ?_
        refine mr_iinc (pc' := 35) (x' := (p3 + (1 : Int32))) (lv' := [(3, .int (p3 + (1 : Int32))), (2, .int (p2 + (1 : Int32))), (0, .ref 145), (1, .int p1)]) dX11_standing_32 rfl (by decide) rfl rfl rfl ?_
        refine mr_goto (t := 4) dX11_standing_35 (by decide) ?_
        exact mr_sub [(0, .ref 145), (1, .int p1), (2, .int (p2 + (1 : Int32))), (3, .int (p3 + (1 : Int32)))] ⟨rfl, rfl, rfl, rfl, trivial⟩ rfl (ih _ _  h7)
      · rw [if_neg c8] at h7
        refine mr_icmp_ne_t (t := 29) dX11_standing_22 (by decide) c8 ?_
        refine mr_iconst (pc' := 30) (v := (0 : Int32)) dX11_standing_29 rfl (by decide) ?_
        refine mr_iadd (pc' := 31) dX11_standing_30 rfl ?_
        refine mr_istore_n (pc' := 32) (lv' := [(2, .int (p2 + (0 : Int32))), (0, .ref 145), (1, .int p1), (3, .int p3)]) dX11_standing_31 rfl (by decide) rfl ?_
        refine mr_iinc (pc' := 35) (x' := (p3 + (1 : Int32))) (lv' := [(3, .int (p3 + (1 : Int32))), (2, .int (p2 + (0 : Int32))), (0, .ref 145), (1, .int p1)]) dX11_standing_32 rfl (by decide) rfl rfl rfl ?_
        refine mr_goto (t := 4) dX11_standing_35 (by decide) ?_
        exact mr_sub [(0, .ref 145), (1, .int p1), (2, .int (p2 + (0 : Int32))), (3, .int (p3 + (1 : Int32)))] ⟨rfl, rfl, rfl, rfl, trivial⟩ rfl (ih _ _  h7)
def f_X11_standing (v1 : Int32) (S : fS) : Option (Int32) :=
  lp_X11_standing_4 v1 S (fun u9 => some u9) FU (0 : Int32) (0 : Int32)
set_option maxHeartbeats 4000000 in
set_option maxRecDepth 100000 in
theorem ok_X11_standing {X : mm_C} {RR : Nat → Nat → Option Nat} (hR : RRok RR) {v1 : Int32}  {S : fS} {r : Int32} (h : f_X11_standing v1 S = some r) : mr X 1 mY_X11_standing 0 (lv_args 0 [.ref 145, .int v1]) [] (MM RR S) (some (.int r), MM RR S) := by
  unfold f_X11_standing at h
  show mr X _ _ 0 [(0, .ref 145), (1, .int v1)] [] (MM RR S) _
  refine mr_iconst (pc' := 1) (v := (0 : Int32)) dX11_standing_0 rfl (by decide) ?_
  refine mr_istore_n (pc' := 2) (lv' := [(2, .int (0 : Int32)), (0, .ref 145), (1, .int v1)]) dX11_standing_1 rfl (by decide) rfl ?_
  refine mr_iconst (pc' := 3) (v := (0 : Int32)) dX11_standing_2 rfl (by decide) ?_
  refine mr_istore_n (pc' := 4) (lv' := [(3, .int (0 : Int32)), (2, .int (0 : Int32)), (0, .ref 145), (1, .int v1)]) dX11_standing_3 rfl (by decide) rfl ?_
  refine mr_sub [(0, .ref 145), (1, .int v1), (2, .int (0 : Int32)), (3, .int (0 : Int32))] ⟨rfl, rfl, rfl, rfl, trivial⟩ rfl ?_
  refine ok_lp_X11_standing_4 hR  (fun u9 h10 => ?_) FU _ _  h
  refine mr_iload_n (pc' := 39) dX11_standing_38 rfl rfl ?_
  obtain rfl := Option.some.inj h10
  exact mr_ireturn dX11_standing_39 rfl
def lp_X11_divisor_28  (S : fS) (K : Int64 → Option (Int64)) : Nat → Int64 → Int64 → Option (Int64)
  | 0, _, _ => none
  | n + 1, p4, p6 =>
    if p6 = (0 : Int64) then (K p4) else
    ((rL p4 p6).bind fun a4 =>
    lp_X11_divisor_28  S K n p6 a4)
set_option maxHeartbeats 4000000 in
set_option maxRecDepth 100000 in
theorem ok_lp_X11_divisor_28 {X : mm_C} {RR : Nat → Nat → Option Nat} (hR : RRok RR)   {S : fS} {K : Int64 → Option (Int64)} {r : Int64} (hK : ∀ (k4 : Int64), K k4 = some r → mr X 0 mY_X11_divisor 53 [(4, .long k4)] [] (MM RR S) (some (.long r), MM RR S)) : ∀ (n : Nat) (p4 : Int64) (p6 : Int64), lp_X11_divisor_28  S K n p4 p6 = some r → mr X 0 mY_X11_divisor 28 [(4, .long p4), (6, .long p6)] [] (MM RR S) (some (.long r), MM RR S) := by
  intro n
  induction n with
  | zero => intro p4 p6 h; exact mm_no h
  | succ n ih =>
    intro p4 p6 h
    unfold lp_X11_divisor_28 at h
    refine mr_lload (pc' := 30) dX11_divisor_28 rfl rfl ?_
    refine mr_lconst (pc' := 31) (v := (0 : Int64)) dX11_divisor_30 rfl (by decide) ?_
    by_cases c3 : p6 = (0 : Int64)
    · rw [if_pos c3] at h
      refine mr_lcmp_eq_t (t := 53) dX11_divisor_31 rfl dX11_divisor_32 (by decide) c3 ?_
      exact mr_sub [(4, .long p4)] ⟨rfl, trivial⟩ rfl (hK _  h)
    · rw [if_neg c3] at h
      refine mr_lcmp_eq_f (t := 53) (pc' := 35) dX11_divisor_31 rfl dX11_divisor_32 (by decide) rfl c3 ?_
      refine mr_lload (pc' := 37) dX11_divisor_35 rfl rfl ?_
      refine mr_lload (pc' := 39) dX11_divisor_37 rfl rfl ?_
      obtain ⟨a4, g5, h6⟩ := Option.bind_eq_some_iff.mp h
      refine mr_lrem (pc' := 40) dX11_divisor_39 rfl g5 ?_
      refine mr_lstore (pc' := 42) (lv' := [(8, .long a4), (4, .long p4), (6, .long p6)]) dX11_divisor_40 rfl (by decide) rfl ?_
      refine mr_lload (pc' := 44) dX11_divisor_42 rfl rfl ?_
      refine mr_lstore (pc' := 46) (lv' := [(4, .long p6), (8, .long a4), (6, .long p6)]) dX11_divisor_44 rfl (by decide) rfl ?_
      refine mr_lload (pc' := 48) dX11_divisor_46 rfl rfl ?_
      refine mr_lstore (pc' := 50) (lv' := [(6, .long a4), (4, .long p6), (8, .long a4)]) dX11_divisor_48 rfl (by decide) rfl ?_
      refine mr_goto (t := 28) dX11_divisor_50 (by decide) ?_
      exact mr_sub [(4, .long p6), (6, .long a4)] ⟨rfl, rfl, trivial⟩ rfl (ih _ _  h6)
def f_X11_divisor (v0 : Int64) (v2 : Int64) (S : fS) : Option (Int64) :=
  if (0 : Int64) ≤ v0 then (if (0 : Int64) ≤ v2 then (lp_X11_divisor_28  S (fun u7 => some u7) FU v0 v2) else
  (lp_X11_divisor_28  S (fun u9 => some u9) FU v0 (-v2))) else
  (if (0 : Int64) ≤ v2 then (lp_X11_divisor_28  S (fun u12 => some u12) FU (-v0) v2) else
  (lp_X11_divisor_28  S (fun u14 => some u14) FU (-v0) (-v2)))
set_option maxHeartbeats 4000000 in
set_option maxRecDepth 100000 in
theorem ok_X11_divisor {X : mm_C} {RR : Nat → Nat → Option Nat} (hR : RRok RR) {v0 : Int64} {v2 : Int64}  {S : fS} {r : Int64} (h : f_X11_divisor v0 v2 S = some r) : mr X 0 mY_X11_divisor 0 (lv_args 0 [.long v0, .long v2]) [] (MM RR S) (some (.long r), MM RR S) := by
  unfold f_X11_divisor at h
  show mr X _ _ 0 [(0, .long v0), (2, .long v2)] [] (MM RR S) _
  refine mr_lload_n (pc' := 1) dX11_divisor_0 rfl rfl ?_
  refine mr_lconst (pc' := 2) (v := (0 : Int64)) dX11_divisor_1 rfl (by decide) ?_
  by_cases c1 : (0 : Int64) ≤ v0
  · rw [if_pos c1] at h
    refine mr_lcmp_ge_t (t := 11) dX11_divisor_2 rfl dX11_divisor_3 (by decide) c1 ?_
    refine mr_lload_n (pc' := 12) dX11_divisor_11 rfl rfl ?_
    refine mr_lstore (pc' := 14) (lv' := [(4, .long v0), (0, .long v0), (2, .long v2)]) dX11_divisor_12 rfl (by decide) rfl ?_
    refine mr_lload_n (pc' := 15) dX11_divisor_14 rfl rfl ?_
    refine mr_lconst (pc' := 16) (v := (0 : Int64)) dX11_divisor_15 rfl (by decide) ?_
    by_cases c2 : (0 : Int64) ≤ v2
    · rw [if_pos c2] at h
      refine mr_lcmp_ge_t (t := 25) dX11_divisor_16 rfl dX11_divisor_17 (by decide) c2 ?_
      refine mr_lload_n (pc' := 26) dX11_divisor_25 rfl rfl ?_
      refine mr_lstore (pc' := 28) (lv' := [(6, .long v2), (4, .long v0), (0, .long v0), (2, .long v2)]) dX11_divisor_26 rfl (by decide) rfl ?_
      refine mr_sub [(4, .long v0), (6, .long v2)] ⟨rfl, rfl, trivial⟩ rfl ?_
      refine ok_lp_X11_divisor_28 hR  (fun u7 h8 => ?_) FU _ _  h
      refine mr_lload (pc' := 55) dX11_divisor_53 rfl rfl ?_
      obtain rfl := Option.some.inj h8
      exact mr_lreturn dX11_divisor_55 rfl
    · rw [if_neg c2] at h
      refine mr_lcmp_ge_f (t := 25) (pc' := 20) dX11_divisor_16 rfl dX11_divisor_17 (by decide) rfl c2 ?_
      refine mr_lload_n (pc' := 21) dX11_divisor_20 rfl rfl ?_
      refine mr_lneg (pc' := 22) dX11_divisor_21 rfl ?_
      refine mr_goto (t := 26) dX11_divisor_22 (by decide) ?_
      refine mr_lstore (pc' := 28) (lv' := [(6, .long (-v2)), (4, .long v0), (0, .long v0), (2, .long v2)]) dX11_divisor_26 rfl (by decide) rfl ?_
      refine mr_sub [(4, .long v0), (6, .long (-v2))] ⟨rfl, rfl, trivial⟩ rfl ?_
      refine ok_lp_X11_divisor_28 hR  (fun u9 h10 => ?_) FU _ _  h
      refine mr_lload (pc' := 55) dX11_divisor_53 rfl rfl ?_
      obtain rfl := Option.some.inj h10
      exact mr_lreturn dX11_divisor_55 rfl
  · rw [if_neg c1] at h
    refine mr_lcmp_ge_f (t := 11) (pc' := 6) dX11_divisor_2 rfl dX11_divisor_3 (by decide) rfl c1 ?_
    refine mr_lload_n (pc' := 7) dX11_divisor_6 rfl rfl ?_
    refine mr_lneg (pc' := 8) dX11_divisor_7 rfl ?_
    refine mr_goto (t := 12) dX11_divisor_8 (by decide) ?_
    refine mr_lstore (pc' := 14) (lv' := [(4, .long (-v0)), (0, .long v0), (2, .long v2)]) dX11_divisor_12 rfl (by decide) rfl ?_
    refine mr_lload_n (pc' := 15) dX11_divisor_14 rfl rfl ?_
    refine mr_lconst (pc' := 16) (v := (0 : Int64)) dX11_divisor_15 rfl (by decide) ?_
    by_cases c11 : (0 : Int64) ≤ v2
    · rw [if_pos c11] at h
      refine mr_lcmp_ge_t (t := 25) dX11_divisor_16 rfl dX11_divisor_17 (by decide) c11 ?_
      refine mr_lload_n (pc' := 26) dX11_divisor_25 rfl rfl ?_
      refine mr_lstore (pc' := 28) (lv' := [(6, .long v2), (4, .long (-v0)), (0, .long v0), (2, .long v2)]) dX11_divisor_26 rfl (by decide) rfl ?_
      refine mr_sub [(4, .long (-v0)), (6, .long v2)] ⟨rfl, rfl, trivial⟩ rfl ?_
      refine ok_lp_X11_divisor_28 hR  (fun u12 h13 => ?_) FU _ _  h
      refine mr_lload (pc' := 55) dX11_divisor_53 rfl rfl ?_
      obtain rfl := Option.some.inj h13
      exact mr_lreturn dX11_divisor_55 rfl
    · rw [if_neg c11] at h
      refine mr_lcmp_ge_f (t := 25) (pc' := 20) dX11_divisor_16 rfl dX11_divisor_17 (by decide) rfl c11 ?_
      refine mr_lload_n (pc' := 21) dX11_divisor_20 rfl rfl ?_
      refine mr_lneg (pc' := 22) dX11_divisor_21 rfl ?_
      refine mr_goto (t := 26) dX11_divisor_22 (by decide) ?_
      refine mr_lstore (pc' := 28) (lv' := [(6, .long (-v2)), (4, .long (-v0)), (0, .long v0), (2, .long v2)]) dX11_divisor_26 rfl (by decide) rfl ?_
      refine mr_sub [(4, .long (-v0)), (6, .long (-v2))] ⟨rfl, rfl, trivial⟩ rfl ?_
      refine ok_lp_X11_divisor_28 hR  (fun u14 h15 => ?_) FU _ _  h
      refine mr_lload (pc' := 55) dX11_divisor_53 rfl rfl ?_
      obtain rfl := Option.some.inj h15
      exact mr_lreturn dX11_divisor_55 rfl
def f_X11_lowest (v0 : Int64) (v2 : Int64) (v4 : Int32) (S : fS) : Option (Int64) :=
  (f_X11_divisor v0 v2 S).bind fun q1 =>
  if v4 = (0 : Int32) then ((dL v0 q1).bind fun a8 =>
  some a8) else
  ((dL v2 q1).bind fun a5 =>
  some a5)
set_option maxHeartbeats 4000000 in
set_option maxRecDepth 100000 in
theorem ok_X11_lowest {X : mm_C} {RR : Nat → Nat → Option Nat} (hR : RRok RR) {v0 : Int64} {v2 : Int64} {v4 : Int32}  {S : fS} {r : Int64} (h : f_X11_lowest v0 v2 v4 S = some r) : mr X 1 mY_X11_lowest 0 (lv_args 0 [.long v0, .long v2, .int v4]) [] (MM RR S) (some (.long r), MM RR S) := by
  unfold f_X11_lowest at h
  show mr X _ _ 0 [(0, .long v0), (2, .long v2), (4, .int v4)] [] (MM RR S) _
  refine mr_lload_n (pc' := 1) dX11_lowest_0 rfl rfl ?_
  refine mr_lload_n (pc' := 2) dX11_lowest_1 rfl rfl ?_
  obtain ⟨q1, g2, h3⟩ := Option.bind_eq_some_iff.mp h
  refine mr_cs (pc' := 5) (d1 := 0) dX11_lowest_2 rfl rfl rfl rfl (by decide) (Nat.le_of_ble_eq_true rfl) rfl rfl rfl (by decide) (ok_X11_divisor hR  g2) ?_
  show mr X _ _ 5 _ [.long q1] (MM RR S) _
  refine mr_lstore (pc' := 7) (lv' := [(5, .long q1), (0, .long v0), (2, .long v2), (4, .int v4)]) dX11_lowest_5 rfl (by decide) rfl ?_
  refine mr_iload (pc' := 9) dX11_lowest_7 rfl rfl ?_
  by_cases c4 : v4 = (0 : Int32)
  · rw [if_pos c4] at h3
    refine mr_if_ne_f (t := 19) (pc' := 12) dX11_lowest_9 (by decide) rfl (not_not_intro c4) ?_
    refine mr_lload_n (pc' := 13) dX11_lowest_12 rfl rfl ?_
    refine mr_lload (pc' := 15) dX11_lowest_13 rfl rfl ?_
    obtain ⟨a8, g9, h10⟩ := Option.bind_eq_some_iff.mp h3
    refine mr_ldiv (pc' := 16) dX11_lowest_15 rfl g9 ?_
    refine mr_goto (t := 23) dX11_lowest_16 (by decide) ?_
    obtain rfl := Option.some.inj h10
    exact mr_lreturn dX11_lowest_23 rfl
  · rw [if_neg c4] at h3
    refine mr_if_ne_t (t := 19) dX11_lowest_9 (by decide) c4 ?_
    refine mr_lload_n (pc' := 20) dX11_lowest_19 rfl rfl ?_
    refine mr_lload (pc' := 22) dX11_lowest_20 rfl rfl ?_
    obtain ⟨a5, g6, h7⟩ := Option.bind_eq_some_iff.mp h3
    refine mr_ldiv (pc' := 23) dX11_lowest_22 rfl g6 ?_
    obtain rfl := Option.some.inj h7
    exact mr_lreturn dX11_lowest_23 rfl
def f_X11_floor (v1 : Int32) (v2 : Int32) (S : fS) : Option (Int32) :=
  (f_X11_isFloor v1 S).bind fun q1 =>
  if q1 = (0 : Int32) then (some (-1 : Int32)) else
  ((f_X11_in (Int32.toInt64 v2) (0 : Int64) (2 : Int64) S).bind fun q5 =>
  if q5 = (0 : Int32) then (some (-1 : Int32)) else
  (if v2 = (2 : Int32) then ((f_X11_standing v1 S).bind fun q19 =>
  some q19) else
  ((gI S 157 158 ((10 : Int32) + ((2 : Int32) * v1))).bind fun a10 =>
  (gI S 157 158 (((10 : Int32) + ((2 : Int32) * v1)) + (1 : Int32))).bind fun a13 =>
  (f_X11_lowest (Int32.toInt64 a10) (Int32.toInt64 a13) v2 S).bind fun q16 =>
  some (Int64.toInt32 q16))))
set_option maxHeartbeats 4000000 in
set_option maxRecDepth 100000 in
theorem ok_X11_floor {X : mm_C} {RR : Nat → Nat → Option Nat} (hR : RRok RR) {v1 : Int32} {v2 : Int32}  {S : fS} {r : Int32} (h : f_X11_floor v1 v2 S = some r) : mr X 2 mY_X11_floor 0 (lv_args 0 [.ref 145, .int v1, .int v2]) [] (MM RR S) (some (.int r), MM RR S) := by
  unfold f_X11_floor at h
  show mr X _ _ 0 [(0, .ref 145), (1, .int v1), (2, .int v2)] [] (MM RR S) _
  refine mr_aload_n (pc' := 1) dX11_floor_0 rfl rfl ?_
  refine mr_iload_n (pc' := 2) dX11_floor_1 rfl rfl ?_
  obtain ⟨q1, g2, h3⟩ := Option.bind_eq_some_iff.mp h
  refine mr_cv (pc' := 5) (a := 145) (d1 := 0) dX11_floor_2 rfl rfl rfl rfl rfl rfl (by decide) rfl (by decide) (ok_X11_isFloor hR  g2) ?_
  show mr X _ _ 5 _ [.int q1] (MM RR S) _
  by_cases c4 : q1 = (0 : Int32)
  · rw [if_pos c4] at h3
    refine mr_if_eq_t (t := 20) dX11_floor_5 (by decide) c4 ?_
    refine mr_iconst (pc' := 21) (v := (-1 : Int32)) dX11_floor_20 rfl (by decide) ?_
    obtain rfl := Option.some.inj h3
    exact mr_ireturn dX11_floor_21 rfl
  · rw [if_neg c4] at h3
    refine mr_if_eq_f (t := 20) (pc' := 8) dX11_floor_5 (by decide) rfl c4 ?_
    refine mr_iload_n (pc' := 9) dX11_floor_8 rfl rfl ?_
    refine mr_i2l (pc' := 10) dX11_floor_9 rfl ?_
    refine mr_lconst (pc' := 11) (v := (0 : Int64)) dX11_floor_10 rfl (by decide) ?_
    refine mr_ldc2 (pc' := 14) (v := (2 : Int64)) dX11_floor_11 rfl rfl ?_
    obtain ⟨q5, g6, h7⟩ := Option.bind_eq_some_iff.mp h3
    refine mr_cs (pc' := 17) (d1 := 0) dX11_floor_14 rfl rfl rfl rfl (by decide) (Nat.le_of_ble_eq_true rfl) rfl rfl rfl (by decide) (ok_X11_in hR  g6) ?_
    show mr X _ _ 17 _ [.int q5] (MM RR S) _
    by_cases c8 : q5 = (0 : Int32)
    · rw [if_pos c8] at h7
      refine mr_if_ne_f (t := 22) (pc' := 20) dX11_floor_17 (by decide) rfl (not_not_intro c8) ?_
      refine mr_iconst (pc' := 21) (v := (-1 : Int32)) dX11_floor_20 rfl (by decide) ?_
      obtain rfl := Option.some.inj h7
      exact mr_ireturn dX11_floor_21 rfl
    · rw [if_neg c8] at h7
      refine mr_if_ne_t (t := 22) dX11_floor_17 (by decide) c8 ?_
      refine mr_iload_n (pc' := 23) dX11_floor_22 rfl rfl ?_
      refine mr_iconst (pc' := 24) (v := (2 : Int32)) dX11_floor_23 rfl (by decide) ?_
      by_cases c9 : v2 = (2 : Int32)
      · rw [if_pos c9] at h7
        refine mr_icmp_ne_f (t := 35) (pc' := 27) dX11_floor_24 (by decide) rfl (not_not_intro c9) ?_
        refine mr_aload_n (pc' := 28) dX11_floor_27 rfl rfl ?_
        refine mr_iload_n (pc' := 29) dX11_floor_28 rfl rfl ?_
        obtain ⟨q19, g20, h21⟩ := Option.bind_eq_some_iff.mp h7
        refine mr_cv (pc' := 32) (a := 145) (d1 := 1) dX11_floor_29 rfl rfl rfl rfl rfl rfl (by decide) rfl (by decide) (ok_X11_standing hR  g20) ?_
        show mr X _ _ 32 _ [.int q19] (MM RR S) _
        refine mr_goto (t := 66) dX11_floor_32 (by decide) ?_
        obtain rfl := Option.some.inj h21
        exact mr_ireturn dX11_floor_66 rfl
      · rw [if_neg c9] at h7
        refine mr_icmp_ne_t (t := 35) dX11_floor_24 (by decide) c9 ?_
        refine mr_aload_n (pc' := 36) dX11_floor_35 rfl rfl ?_
        refine mr_getR (pc' := 39) (ci := 11) (j := 25) (b := 157) hR dX11_floor_36 rfl rfl rfl (by decide) (by decide) (by decide) rfl rfl ?_
        refine mr_bipush (pc' := 41) (v := (10 : Int32)) dX11_floor_39 rfl (by decide) ?_
        refine mr_iconst (pc' := 42) (v := (2 : Int32)) dX11_floor_41 rfl (by decide) ?_
        refine mr_iload_n (pc' := 43) dX11_floor_42 rfl rfl ?_
        refine mr_imul (pc' := 44) dX11_floor_43 rfl ?_
        refine mr_iadd (pc' := 45) dX11_floor_44 rfl ?_
        obtain ⟨a10, g11, h12⟩ := Option.bind_eq_some_iff.mp h7
        refine mr_iald (pc' := 46) dX11_floor_45 rfl rfl rfl g11 ?_
        refine mr_i2l (pc' := 47) dX11_floor_46 rfl ?_
        refine mr_aload_n (pc' := 48) dX11_floor_47 rfl rfl ?_
        refine mr_getR (pc' := 51) (ci := 11) (j := 25) (b := 157) hR dX11_floor_48 rfl rfl rfl (by decide) (by decide) (by decide) rfl rfl ?_
        refine mr_bipush (pc' := 53) (v := (10 : Int32)) dX11_floor_51 rfl (by decide) ?_
        refine mr_iconst (pc' := 54) (v := (2 : Int32)) dX11_floor_53 rfl (by decide) ?_
        refine mr_iload_n (pc' := 55) dX11_floor_54 rfl rfl ?_
        refine mr_imul (pc' := 56) dX11_floor_55 rfl ?_
        refine mr_iadd (pc' := 57) dX11_floor_56 rfl ?_
        refine mr_iconst (pc' := 58) (v := (1 : Int32)) dX11_floor_57 rfl (by decide) ?_
        refine mr_iadd (pc' := 59) dX11_floor_58 rfl ?_
        obtain ⟨a13, g14, h15⟩ := Option.bind_eq_some_iff.mp h12
        refine mr_iald (pc' := 60) dX11_floor_59 rfl rfl rfl g14 ?_
        refine mr_i2l (pc' := 61) dX11_floor_60 rfl ?_
        refine mr_iload_n (pc' := 62) dX11_floor_61 rfl rfl ?_
        obtain ⟨q16, g17, h18⟩ := Option.bind_eq_some_iff.mp h15
        refine mr_cs (pc' := 65) (d1 := 1) dX11_floor_62 rfl rfl rfl rfl (by decide) (Nat.le_of_ble_eq_true rfl) rfl rfl rfl (by decide) (ok_X11_lowest hR  g17) ?_
        show mr X _ _ 65 _ [.long q16] (MM RR S) _
        refine mr_l2i (pc' := 66) dX11_floor_65 rfl ?_
        obtain rfl := Option.some.inj h18
        exact mr_ireturn dX11_floor_66 rfl
def f_X11_isStair (v1 : Int32) (S : fS) : Option (Int32) :=
  if v1 < (0 : Int32) then (some (0 : Int32)) else
  ((gI S 157 158 (1 : Int32)).bind fun a2 =>
  if a2 ≤ v1 then (some (0 : Int32)) else
  (some (1 : Int32)))
set_option maxHeartbeats 4000000 in
set_option maxRecDepth 100000 in
theorem ok_X11_isStair {X : mm_C} {RR : Nat → Nat → Option Nat} (hR : RRok RR) {v1 : Int32}  {S : fS} {r : Int32} (h : f_X11_isStair v1 S = some r) : mr X 0 mY_X11_isStair 0 (lv_args 0 [.ref 145, .int v1]) [] (MM RR S) (some (.int r), MM RR S) := by
  unfold f_X11_isStair at h
  show mr X _ _ 0 [(0, .ref 145), (1, .int v1)] [] (MM RR S) _
  refine mr_iload_n (pc' := 1) dX11_isStair_0 rfl rfl ?_
  by_cases c1 : v1 < (0 : Int32)
  · rw [if_pos c1] at h
    refine mr_if_lt_t (t := 18) dX11_isStair_1 (by decide) c1 ?_
    refine mr_iconst (pc' := 19) (v := (0 : Int32)) dX11_isStair_18 rfl (by decide) ?_
    obtain rfl := Option.some.inj h
    exact mr_zreturn dX11_isStair_19 rfl (by decide)
  · rw [if_neg c1] at h
    refine mr_if_lt_f (t := 18) (pc' := 4) dX11_isStair_1 (by decide) rfl c1 ?_
    refine mr_iload_n (pc' := 5) dX11_isStair_4 rfl rfl ?_
    refine mr_aload_n (pc' := 6) dX11_isStair_5 rfl rfl ?_
    refine mr_getR (pc' := 9) (ci := 11) (j := 25) (b := 157) hR dX11_isStair_6 rfl rfl rfl (by decide) (by decide) (by decide) rfl rfl ?_
    refine mr_iconst (pc' := 10) (v := (1 : Int32)) dX11_isStair_9 rfl (by decide) ?_
    obtain ⟨a2, g3, h4⟩ := Option.bind_eq_some_iff.mp h
    refine mr_iald (pc' := 11) dX11_isStair_10 rfl rfl rfl g3 ?_
    by_cases c5 : a2 ≤ v1
    · rw [if_pos c5] at h4
      refine mr_icmp_ge_t (t := 18) dX11_isStair_11 (by decide) c5 ?_
      refine mr_iconst (pc' := 19) (v := (0 : Int32)) dX11_isStair_18 rfl (by decide) ?_
      obtain rfl := Option.some.inj h4
      exact mr_zreturn dX11_isStair_19 rfl (by decide)
    · rw [if_neg c5] at h4
      refine mr_icmp_ge_f (t := 18) (pc' := 14) dX11_isStair_11 (by decide) rfl c5 ?_
      refine mr_iconst (pc' := 15) (v := (1 : Int32)) dX11_isStair_14 rfl (by decide) ?_
      refine mr_goto (t := 19) dX11_isStair_15 (by decide) ?_
      obtain rfl := Option.some.inj h4
      exact mr_zreturn dX11_isStair_19 rfl (by decide)
def f_X11_stair (v1 : Int32) (v2 : Int32) (S : fS) : Option (Int32) :=
  (f_X11_isStair v1 S).bind fun q1 =>
  if q1 = (0 : Int32) then (some (-1 : Int32)) else
  ((f_X11_in (Int32.toInt64 v2) (0 : Int64) (4 : Int64) S).bind fun q5 =>
  if q5 = (0 : Int32) then (some (-1 : Int32)) else
  (if (3 : Int32) ≤ v2 then ((f_X11_stairOf v1 (3 : Int32) S).bind fun q10 =>
  (f_X11_stairOf v1 (4 : Int32) S).bind fun q13 =>
  (f_X11_lowest (Int32.toInt64 q10) (Int32.toInt64 q13) (v2 - (3 : Int32)) S).bind fun q16 =>
  some (Int64.toInt32 q16)) else
  ((f_X11_stairOf v1 v2 S).bind fun q19 =>
  some q19)))
set_option maxHeartbeats 4000000 in
set_option maxRecDepth 100000 in
theorem ok_X11_stair {X : mm_C} {RR : Nat → Nat → Option Nat} (hR : RRok RR) {v1 : Int32} {v2 : Int32}  {S : fS} {r : Int32} (h : f_X11_stair v1 v2 S = some r) : mr X 2 mY_X11_stair 0 (lv_args 0 [.ref 145, .int v1, .int v2]) [] (MM RR S) (some (.int r), MM RR S) := by
  unfold f_X11_stair at h
  show mr X _ _ 0 [(0, .ref 145), (1, .int v1), (2, .int v2)] [] (MM RR S) _
  refine mr_aload_n (pc' := 1) dX11_stair_0 rfl rfl ?_
  refine mr_iload_n (pc' := 2) dX11_stair_1 rfl rfl ?_
  obtain ⟨q1, g2, h3⟩ := Option.bind_eq_some_iff.mp h
  refine mr_cv (pc' := 5) (a := 145) (d1 := 0) dX11_stair_2 rfl rfl rfl rfl rfl rfl (by decide) rfl (by decide) (ok_X11_isStair hR  g2) ?_
  show mr X _ _ 5 _ [.int q1] (MM RR S) _
  by_cases c4 : q1 = (0 : Int32)
  · rw [if_pos c4] at h3
    refine mr_if_eq_t (t := 20) dX11_stair_5 (by decide) c4 ?_
    refine mr_iconst (pc' := 21) (v := (-1 : Int32)) dX11_stair_20 rfl (by decide) ?_
    obtain rfl := Option.some.inj h3
    exact mr_ireturn dX11_stair_21 rfl
  · rw [if_neg c4] at h3
    refine mr_if_eq_f (t := 20) (pc' := 8) dX11_stair_5 (by decide) rfl c4 ?_
    refine mr_iload_n (pc' := 9) dX11_stair_8 rfl rfl ?_
    refine mr_i2l (pc' := 10) dX11_stair_9 rfl ?_
    refine mr_lconst (pc' := 11) (v := (0 : Int64)) dX11_stair_10 rfl (by decide) ?_
    refine mr_ldc2 (pc' := 14) (v := (4 : Int64)) dX11_stair_11 rfl rfl ?_
    obtain ⟨q5, g6, h7⟩ := Option.bind_eq_some_iff.mp h3
    refine mr_cs (pc' := 17) (d1 := 0) dX11_stair_14 rfl rfl rfl rfl (by decide) (Nat.le_of_ble_eq_true rfl) rfl rfl rfl (by decide) (ok_X11_in hR  g6) ?_
    show mr X _ _ 17 _ [.int q5] (MM RR S) _
    by_cases c8 : q5 = (0 : Int32)
    · rw [if_pos c8] at h7
      refine mr_if_ne_f (t := 22) (pc' := 20) dX11_stair_17 (by decide) rfl (not_not_intro c8) ?_
      refine mr_iconst (pc' := 21) (v := (-1 : Int32)) dX11_stair_20 rfl (by decide) ?_
      obtain rfl := Option.some.inj h7
      exact mr_ireturn dX11_stair_21 rfl
    · rw [if_neg c8] at h7
      refine mr_if_ne_t (t := 22) dX11_stair_17 (by decide) c8 ?_
      refine mr_iload_n (pc' := 23) dX11_stair_22 rfl rfl ?_
      refine mr_iconst (pc' := 24) (v := (3 : Int32)) dX11_stair_23 rfl (by decide) ?_
      by_cases c9 : (3 : Int32) ≤ v2
      · rw [if_pos c9] at h7
        refine mr_icmp_ge_t (t := 36) dX11_stair_24 (by decide) c9 ?_
        refine mr_aload_n (pc' := 37) dX11_stair_36 rfl rfl ?_
        refine mr_iload_n (pc' := 38) dX11_stair_37 rfl rfl ?_
        refine mr_iconst (pc' := 39) (v := (3 : Int32)) dX11_stair_38 rfl (by decide) ?_
        obtain ⟨q10, g11, h12⟩ := Option.bind_eq_some_iff.mp h7
        refine mr_cv (pc' := 42) (a := 145) (d1 := 0) dX11_stair_39 rfl rfl rfl rfl rfl rfl (by decide) rfl (by decide) (ok_X11_stairOf hR  g11) ?_
        show mr X _ _ 42 _ [.int q10] (MM RR S) _
        refine mr_i2l (pc' := 43) dX11_stair_42 rfl ?_
        refine mr_aload_n (pc' := 44) dX11_stair_43 rfl rfl ?_
        refine mr_iload_n (pc' := 45) dX11_stair_44 rfl rfl ?_
        refine mr_iconst (pc' := 46) (v := (4 : Int32)) dX11_stair_45 rfl (by decide) ?_
        obtain ⟨q13, g14, h15⟩ := Option.bind_eq_some_iff.mp h12
        refine mr_cv (pc' := 49) (a := 145) (d1 := 0) dX11_stair_46 rfl rfl rfl rfl rfl rfl (by decide) rfl (by decide) (ok_X11_stairOf hR  g14) ?_
        show mr X _ _ 49 _ [.int q13, .long (Int32.toInt64 q10)] (MM RR S) _
        refine mr_i2l (pc' := 50) dX11_stair_49 rfl ?_
        refine mr_iload_n (pc' := 51) dX11_stair_50 rfl rfl ?_
        refine mr_iconst (pc' := 52) (v := (3 : Int32)) dX11_stair_51 rfl (by decide) ?_
        refine mr_isub (pc' := 53) dX11_stair_52 rfl ?_
        obtain ⟨q16, g17, h18⟩ := Option.bind_eq_some_iff.mp h15
        refine mr_cs (pc' := 56) (d1 := 1) dX11_stair_53 rfl rfl rfl rfl (by decide) (Nat.le_of_ble_eq_true rfl) rfl rfl rfl (by decide) (ok_X11_lowest hR  g17) ?_
        show mr X _ _ 56 _ [.long q16] (MM RR S) _
        refine mr_l2i (pc' := 57) dX11_stair_56 rfl ?_
        obtain rfl := Option.some.inj h18
        exact mr_ireturn dX11_stair_57 rfl
      · rw [if_neg c9] at h7
        refine mr_icmp_ge_f (t := 36) (pc' := 27) dX11_stair_24 (by decide) rfl c9 ?_
        refine mr_aload_n (pc' := 28) dX11_stair_27 rfl rfl ?_
        refine mr_iload_n (pc' := 29) dX11_stair_28 rfl rfl ?_
        refine mr_iload_n (pc' := 30) dX11_stair_29 rfl rfl ?_
        obtain ⟨q19, g20, h21⟩ := Option.bind_eq_some_iff.mp h7
        refine mr_cv (pc' := 33) (a := 145) (d1 := 0) dX11_stair_30 rfl rfl rfl rfl rfl rfl (by decide) rfl (by decide) (ok_X11_stairOf hR  g20) ?_
        show mr X _ _ 33 _ [.int q19] (MM RR S) _
        refine mr_goto (t := 57) dX11_stair_33 (by decide) ?_
        obtain rfl := Option.some.inj h21
        exact mr_ireturn dX11_stair_57 rfl
def f_X11_isThing (v1 : Int32) (S : fS) : Option (Int32) :=
  if v1 < (0 : Int32) then (some (0 : Int32)) else
  ((gI S 157 158 (2 : Int32)).bind fun a2 =>
  if a2 ≤ v1 then (some (0 : Int32)) else
  (some (1 : Int32)))
set_option maxHeartbeats 4000000 in
set_option maxRecDepth 100000 in
theorem ok_X11_isThing {X : mm_C} {RR : Nat → Nat → Option Nat} (hR : RRok RR) {v1 : Int32}  {S : fS} {r : Int32} (h : f_X11_isThing v1 S = some r) : mr X 0 mY_X11_isThing 0 (lv_args 0 [.ref 145, .int v1]) [] (MM RR S) (some (.int r), MM RR S) := by
  unfold f_X11_isThing at h
  show mr X _ _ 0 [(0, .ref 145), (1, .int v1)] [] (MM RR S) _
  refine mr_iload_n (pc' := 1) dX11_isThing_0 rfl rfl ?_
  by_cases c1 : v1 < (0 : Int32)
  · rw [if_pos c1] at h
    refine mr_if_lt_t (t := 18) dX11_isThing_1 (by decide) c1 ?_
    refine mr_iconst (pc' := 19) (v := (0 : Int32)) dX11_isThing_18 rfl (by decide) ?_
    obtain rfl := Option.some.inj h
    exact mr_zreturn dX11_isThing_19 rfl (by decide)
  · rw [if_neg c1] at h
    refine mr_if_lt_f (t := 18) (pc' := 4) dX11_isThing_1 (by decide) rfl c1 ?_
    refine mr_iload_n (pc' := 5) dX11_isThing_4 rfl rfl ?_
    refine mr_aload_n (pc' := 6) dX11_isThing_5 rfl rfl ?_
    refine mr_getR (pc' := 9) (ci := 11) (j := 25) (b := 157) hR dX11_isThing_6 rfl rfl rfl (by decide) (by decide) (by decide) rfl rfl ?_
    refine mr_iconst (pc' := 10) (v := (2 : Int32)) dX11_isThing_9 rfl (by decide) ?_
    obtain ⟨a2, g3, h4⟩ := Option.bind_eq_some_iff.mp h
    refine mr_iald (pc' := 11) dX11_isThing_10 rfl rfl rfl g3 ?_
    by_cases c5 : a2 ≤ v1
    · rw [if_pos c5] at h4
      refine mr_icmp_ge_t (t := 18) dX11_isThing_11 (by decide) c5 ?_
      refine mr_iconst (pc' := 19) (v := (0 : Int32)) dX11_isThing_18 rfl (by decide) ?_
      obtain rfl := Option.some.inj h4
      exact mr_zreturn dX11_isThing_19 rfl (by decide)
    · rw [if_neg c5] at h4
      refine mr_icmp_ge_f (t := 18) (pc' := 14) dX11_isThing_11 (by decide) rfl c5 ?_
      refine mr_iconst (pc' := 15) (v := (1 : Int32)) dX11_isThing_14 rfl (by decide) ?_
      refine mr_goto (t := 19) dX11_isThing_15 (by decide) ?_
      obtain rfl := Option.some.inj h4
      exact mr_zreturn dX11_isThing_19 rfl (by decide)
def f_X11_thing (v1 : Int32) (v2 : Int32) (S : fS) : Option (Int32) :=
  (f_X11_isThing v1 S).bind fun q1 =>
  if q1 = (0 : Int32) then (some (-2 : Int32)) else
  ((f_X11_in (Int32.toInt64 v2) (0 : Int64) (3 : Int64) S).bind fun q5 =>
  if q5 = (0 : Int32) then (some (-2 : Int32)) else
  ((f_X11_thingOf v1 v2 S).bind fun q9 =>
  some q9))
set_option maxHeartbeats 4000000 in
set_option maxRecDepth 100000 in
theorem ok_X11_thing {X : mm_C} {RR : Nat → Nat → Option Nat} (hR : RRok RR) {v1 : Int32} {v2 : Int32}  {S : fS} {r : Int32} (h : f_X11_thing v1 v2 S = some r) : mr X 1 mY_X11_thing 0 (lv_args 0 [.ref 145, .int v1, .int v2]) [] (MM RR S) (some (.int r), MM RR S) := by
  unfold f_X11_thing at h
  show mr X _ _ 0 [(0, .ref 145), (1, .int v1), (2, .int v2)] [] (MM RR S) _
  refine mr_aload_n (pc' := 1) dX11_thing_0 rfl rfl ?_
  refine mr_iload_n (pc' := 2) dX11_thing_1 rfl rfl ?_
  obtain ⟨q1, g2, h3⟩ := Option.bind_eq_some_iff.mp h
  refine mr_cv (pc' := 5) (a := 145) (d1 := 0) dX11_thing_2 rfl rfl rfl rfl rfl rfl (by decide) rfl (by decide) (ok_X11_isThing hR  g2) ?_
  show mr X _ _ 5 _ [.int q1] (MM RR S) _
  by_cases c4 : q1 = (0 : Int32)
  · rw [if_pos c4] at h3
    refine mr_if_eq_t (t := 29) dX11_thing_5 (by decide) c4 ?_
    refine mr_bipush (pc' := 31) (v := (-2 : Int32)) dX11_thing_29 rfl (by decide) ?_
    obtain rfl := Option.some.inj h3
    exact mr_ireturn dX11_thing_31 rfl
  · rw [if_neg c4] at h3
    refine mr_if_eq_f (t := 29) (pc' := 8) dX11_thing_5 (by decide) rfl c4 ?_
    refine mr_iload_n (pc' := 9) dX11_thing_8 rfl rfl ?_
    refine mr_i2l (pc' := 10) dX11_thing_9 rfl ?_
    refine mr_lconst (pc' := 11) (v := (0 : Int64)) dX11_thing_10 rfl (by decide) ?_
    refine mr_ldc2 (pc' := 14) (v := (3 : Int64)) dX11_thing_11 rfl rfl ?_
    obtain ⟨q5, g6, h7⟩ := Option.bind_eq_some_iff.mp h3
    refine mr_cs (pc' := 17) (d1 := 0) dX11_thing_14 rfl rfl rfl rfl (by decide) (Nat.le_of_ble_eq_true rfl) rfl rfl rfl (by decide) (ok_X11_in hR  g6) ?_
    show mr X _ _ 17 _ [.int q5] (MM RR S) _
    by_cases c8 : q5 = (0 : Int32)
    · rw [if_pos c8] at h7
      refine mr_if_eq_t (t := 29) dX11_thing_17 (by decide) c8 ?_
      refine mr_bipush (pc' := 31) (v := (-2 : Int32)) dX11_thing_29 rfl (by decide) ?_
      obtain rfl := Option.some.inj h7
      exact mr_ireturn dX11_thing_31 rfl
    · rw [if_neg c8] at h7
      refine mr_if_eq_f (t := 29) (pc' := 20) dX11_thing_17 (by decide) rfl c8 ?_
      refine mr_aload_n (pc' := 21) dX11_thing_20 rfl rfl ?_
      refine mr_iload_n (pc' := 22) dX11_thing_21 rfl rfl ?_
      refine mr_iload_n (pc' := 23) dX11_thing_22 rfl rfl ?_
      obtain ⟨q9, g10, h11⟩ := Option.bind_eq_some_iff.mp h7
      refine mr_cv (pc' := 26) (a := 145) (d1 := 0) dX11_thing_23 rfl rfl rfl rfl rfl rfl (by decide) rfl (by decide) (ok_X11_thingOf hR  g10) ?_
      show mr X _ _ 26 _ [.int q9] (MM RR S) _
      refine mr_goto (t := 31) dX11_thing_26 (by decide) ?_
      obtain rfl := Option.some.inj h11
      exact mr_ireturn dX11_thing_31 rfl
def f_X11_age (v1 : Int32) (v2 : Int32) (S : fS) : Option (Int64) :=
  (f_X11_isThing v1 S).bind fun q1 =>
  if q1 = (0 : Int32) then (some (-1 : Int64)) else
  ((f_X11_in (Int32.toInt64 v2) (0 : Int64) (1 : Int64) S).bind fun q5 =>
  if q5 = (0 : Int32) then (some (-1 : Int64)) else
  ((gL S 158 8 v1).bind fun a9 =>
  (f_X11_lowest a9 (232792560 : Int64) v2 S).bind fun q12 =>
  some q12))
set_option maxHeartbeats 4000000 in
set_option maxRecDepth 100000 in
theorem ok_X11_age {X : mm_C} {RR : Nat → Nat → Option Nat} (hR : RRok RR) {v1 : Int32} {v2 : Int32}  {S : fS} {r : Int64} (h : f_X11_age v1 v2 S = some r) : mr X 2 mY_X11_age 0 (lv_args 0 [.ref 145, .int v1, .int v2]) [] (MM RR S) (some (.long r), MM RR S) := by
  unfold f_X11_age at h
  show mr X _ _ 0 [(0, .ref 145), (1, .int v1), (2, .int v2)] [] (MM RR S) _
  refine mr_aload_n (pc' := 1) dX11_age_0 rfl rfl ?_
  refine mr_iload_n (pc' := 2) dX11_age_1 rfl rfl ?_
  obtain ⟨q1, g2, h3⟩ := Option.bind_eq_some_iff.mp h
  refine mr_cv (pc' := 5) (a := 145) (d1 := 0) dX11_age_2 rfl rfl rfl rfl rfl rfl (by decide) rfl (by decide) (ok_X11_isThing hR  g2) ?_
  show mr X _ _ 5 _ [.int q1] (MM RR S) _
  by_cases c4 : q1 = (0 : Int32)
  · rw [if_pos c4] at h3
    refine mr_if_eq_t (t := 34) dX11_age_5 (by decide) c4 ?_
    refine mr_ldc2 (pc' := 37) (v := (-1 : Int64)) dX11_age_34 rfl rfl ?_
    obtain rfl := Option.some.inj h3
    exact mr_lreturn dX11_age_37 rfl
  · rw [if_neg c4] at h3
    refine mr_if_eq_f (t := 34) (pc' := 8) dX11_age_5 (by decide) rfl c4 ?_
    refine mr_iload_n (pc' := 9) dX11_age_8 rfl rfl ?_
    refine mr_i2l (pc' := 10) dX11_age_9 rfl ?_
    refine mr_lconst (pc' := 11) (v := (0 : Int64)) dX11_age_10 rfl (by decide) ?_
    refine mr_lconst (pc' := 12) (v := (1 : Int64)) dX11_age_11 rfl (by decide) ?_
    obtain ⟨q5, g6, h7⟩ := Option.bind_eq_some_iff.mp h3
    refine mr_cs (pc' := 15) (d1 := 0) dX11_age_12 rfl rfl rfl rfl (by decide) (Nat.le_of_ble_eq_true rfl) rfl rfl rfl (by decide) (ok_X11_in hR  g6) ?_
    show mr X _ _ 15 _ [.int q5] (MM RR S) _
    by_cases c8 : q5 = (0 : Int32)
    · rw [if_pos c8] at h7
      refine mr_if_eq_t (t := 34) dX11_age_15 (by decide) c8 ?_
      refine mr_ldc2 (pc' := 37) (v := (-1 : Int64)) dX11_age_34 rfl rfl ?_
      obtain rfl := Option.some.inj h7
      exact mr_lreturn dX11_age_37 rfl
    · rw [if_neg c8] at h7
      refine mr_if_eq_f (t := 34) (pc' := 18) dX11_age_15 (by decide) rfl c8 ?_
      refine mr_aload_n (pc' := 19) dX11_age_18 rfl rfl ?_
      refine mr_getR (pc' := 22) (ci := 11) (j := 26) (b := 158) hR dX11_age_19 rfl rfl rfl (by decide) (by decide) (by decide) rfl rfl ?_
      refine mr_iload_n (pc' := 23) dX11_age_22 rfl rfl ?_
      obtain ⟨a9, g10, h11⟩ := Option.bind_eq_some_iff.mp h7
      refine mr_lald (pc' := 24) dX11_age_23 rfl rfl rfl g10 ?_
      refine mr_ldc2 (pc' := 27) (v := (232792560 : Int64)) dX11_age_24 rfl rfl ?_
      refine mr_iload_n (pc' := 28) dX11_age_27 rfl rfl ?_
      obtain ⟨q12, g13, h14⟩ := Option.bind_eq_some_iff.mp h11
      refine mr_cs (pc' := 31) (d1 := 1) dX11_age_28 rfl rfl rfl rfl (by decide) (Nat.le_of_ble_eq_true rfl) rfl rfl rfl (by decide) (ok_X11_lowest hR  g13) ?_
      show mr X _ _ 31 _ [.long q12] (MM RR S) _
      refine mr_goto (t := 37) dX11_age_31 (by decide) ?_
      obtain rfl := Option.some.inj h14
      exact mr_lreturn dX11_age_37 rfl
def f_X11_older (v1 : Int32) (v2 : Int32) (S : fS) : Option (Int32) :=
  (f_X11_isThing v1 S).bind fun q1 =>
  if q1 = (0 : Int32) then (some (-2 : Int32)) else
  ((f_X11_isThing v2 S).bind fun q5 =>
  if q5 = (0 : Int32) then (some (-2 : Int32)) else
  ((gL S 158 8 v1).bind fun a9 =>
  (gL S 158 8 v2).bind fun a12 =>
  if a9 ≤ a12 then ((gL S 158 8 v1).bind fun a16 =>
  (gL S 158 8 v2).bind fun a19 =>
  if a19 ≤ a16 then (some (0 : Int32)) else
  (some (-1 : Int32))) else
  (some (1 : Int32))))
set_option maxHeartbeats 4000000 in
set_option maxRecDepth 100000 in
theorem ok_X11_older {X : mm_C} {RR : Nat → Nat → Option Nat} (hR : RRok RR) {v1 : Int32} {v2 : Int32}  {S : fS} {r : Int32} (h : f_X11_older v1 v2 S = some r) : mr X 1 mY_X11_older 0 (lv_args 0 [.ref 145, .int v1, .int v2]) [] (MM RR S) (some (.int r), MM RR S) := by
  unfold f_X11_older at h
  show mr X _ _ 0 [(0, .ref 145), (1, .int v1), (2, .int v2)] [] (MM RR S) _
  refine mr_aload_n (pc' := 1) dX11_older_0 rfl rfl ?_
  refine mr_iload_n (pc' := 2) dX11_older_1 rfl rfl ?_
  obtain ⟨q1, g2, h3⟩ := Option.bind_eq_some_iff.mp h
  refine mr_cv (pc' := 5) (a := 145) (d1 := 0) dX11_older_2 rfl rfl rfl rfl rfl rfl (by decide) rfl (by decide) (ok_X11_isThing hR  g2) ?_
  show mr X _ _ 5 _ [.int q1] (MM RR S) _
  by_cases c4 : q1 = (0 : Int32)
  · rw [if_pos c4] at h3
    refine mr_if_eq_t (t := 16) dX11_older_5 (by decide) c4 ?_
    refine mr_bipush (pc' := 18) (v := (-2 : Int32)) dX11_older_16 rfl (by decide) ?_
    obtain rfl := Option.some.inj h3
    exact mr_ireturn dX11_older_18 rfl
  · rw [if_neg c4] at h3
    refine mr_if_eq_f (t := 16) (pc' := 8) dX11_older_5 (by decide) rfl c4 ?_
    refine mr_aload_n (pc' := 9) dX11_older_8 rfl rfl ?_
    refine mr_iload_n (pc' := 10) dX11_older_9 rfl rfl ?_
    obtain ⟨q5, g6, h7⟩ := Option.bind_eq_some_iff.mp h3
    refine mr_cv (pc' := 13) (a := 145) (d1 := 0) dX11_older_10 rfl rfl rfl rfl rfl rfl (by decide) rfl (by decide) (ok_X11_isThing hR  g6) ?_
    show mr X _ _ 13 _ [.int q5] (MM RR S) _
    by_cases c8 : q5 = (0 : Int32)
    · rw [if_pos c8] at h7
      refine mr_if_ne_f (t := 19) (pc' := 16) dX11_older_13 (by decide) rfl (not_not_intro c8) ?_
      refine mr_bipush (pc' := 18) (v := (-2 : Int32)) dX11_older_16 rfl (by decide) ?_
      obtain rfl := Option.some.inj h7
      exact mr_ireturn dX11_older_18 rfl
    · rw [if_neg c8] at h7
      refine mr_if_ne_t (t := 19) dX11_older_13 (by decide) c8 ?_
      refine mr_aload_n (pc' := 20) dX11_older_19 rfl rfl ?_
      refine mr_getR (pc' := 23) (ci := 11) (j := 26) (b := 158) hR dX11_older_20 rfl rfl rfl (by decide) (by decide) (by decide) rfl rfl ?_
      refine mr_iload_n (pc' := 24) dX11_older_23 rfl rfl ?_
      obtain ⟨a9, g10, h11⟩ := Option.bind_eq_some_iff.mp h7
      refine mr_lald (pc' := 25) dX11_older_24 rfl rfl rfl g10 ?_
      refine mr_aload_n (pc' := 26) dX11_older_25 rfl rfl ?_
      refine mr_getR (pc' := 29) (ci := 11) (j := 26) (b := 158) hR dX11_older_26 rfl rfl rfl (by decide) (by decide) (by decide) rfl rfl ?_
      refine mr_iload_n (pc' := 30) dX11_older_29 rfl rfl ?_
      obtain ⟨a12, g13, h14⟩ := Option.bind_eq_some_iff.mp h11
      refine mr_lald (pc' := 31) dX11_older_30 rfl rfl rfl g13 ?_
      by_cases c15 : a9 ≤ a12
      · rw [if_pos c15] at h14
        refine mr_lcmp_le_t (t := 39) dX11_older_31 rfl dX11_older_32 (by decide) c15 ?_
        refine mr_aload_n (pc' := 40) dX11_older_39 rfl rfl ?_
        refine mr_getR (pc' := 43) (ci := 11) (j := 26) (b := 158) hR dX11_older_40 rfl rfl rfl (by decide) (by decide) (by decide) rfl rfl ?_
        refine mr_iload_n (pc' := 44) dX11_older_43 rfl rfl ?_
        obtain ⟨a16, g17, h18⟩ := Option.bind_eq_some_iff.mp h14
        refine mr_lald (pc' := 45) dX11_older_44 rfl rfl rfl g17 ?_
        refine mr_aload_n (pc' := 46) dX11_older_45 rfl rfl ?_
        refine mr_getR (pc' := 49) (ci := 11) (j := 26) (b := 158) hR dX11_older_46 rfl rfl rfl (by decide) (by decide) (by decide) rfl rfl ?_
        refine mr_iload_n (pc' := 50) dX11_older_49 rfl rfl ?_
        obtain ⟨a19, g20, h21⟩ := Option.bind_eq_some_iff.mp h18
        refine mr_lald (pc' := 51) dX11_older_50 rfl rfl rfl g20 ?_
        by_cases c22 : a19 ≤ a16
        · rw [if_pos c22] at h21
          refine mr_lcmp_ge_t (t := 59) dX11_older_51 rfl dX11_older_52 (by decide) c22 ?_
          refine mr_iconst (pc' := 60) (v := (0 : Int32)) dX11_older_59 rfl (by decide) ?_
          obtain rfl := Option.some.inj h21
          exact mr_ireturn dX11_older_60 rfl
        · rw [if_neg c22] at h21
          refine mr_lcmp_ge_f (t := 59) (pc' := 55) dX11_older_51 rfl dX11_older_52 (by decide) rfl c22 ?_
          refine mr_iconst (pc' := 56) (v := (-1 : Int32)) dX11_older_55 rfl (by decide) ?_
          refine mr_goto (t := 60) dX11_older_56 (by decide) ?_
          obtain rfl := Option.some.inj h21
          exact mr_ireturn dX11_older_60 rfl
      · rw [if_neg c15] at h14
        refine mr_lcmp_le_f (t := 39) (pc' := 35) dX11_older_31 rfl dX11_older_32 (by decide) rfl c15 ?_
        refine mr_iconst (pc' := 36) (v := (1 : Int32)) dX11_older_35 rfl (by decide) ?_
        refine mr_goto (t := 60) dX11_older_36 (by decide) ?_
        obtain rfl := Option.some.inj h14
        exact mr_ireturn dX11_older_60 rfl
