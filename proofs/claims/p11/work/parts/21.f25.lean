def lp_X11_waiting_56 (p1 : Int32) (p2 : Int32) (p3 : Int32) (p4 : Int32) (p5 : Int64) (p7 : Int32) (K : fS → Option (Int32 × fS)) : Nat → Int32 → fS → Option (Int32 × fS)
  | 0, _, _ => none
  | n + 1, p8, S0 =>
    if (10 : Int32) ≤ p8 then (K S0) else
    (if p8 = p7 then ((sL S0 162 1210 (((10 : Int32) * p2) + p8) (0 : Int64)).bind fun S22 =>
    lp_X11_waiting_56 p1 p2 p3 p4 p5 p7 K n (p8 + (1 : Int32)) S22) else
    ((sL S0 162 1210 (((10 : Int32) * p2) + p8) (-1 : Int64)).bind fun S19 =>
    lp_X11_waiting_56 p1 p2 p3 p4 p5 p7 K n (p8 + (1 : Int32)) S19))
set_option maxHeartbeats 4000000 in
set_option maxRecDepth 100000 in
theorem ok_lp_X11_waiting_56 {X : mm_C} {RR : Nat → Nat → Option Nat} (hR : RRok RR) {p1 : Int32} {p2 : Int32} {p3 : Int32} {p4 : Int32} {p5 : Int64} {p7 : Int32}  {K : fS → Option (Int32 × fS)} {r : Int32 × fS} (hK : ∀ (Sk : fS), K Sk = some r → mr X 4 mY_X11_waiting 95 [(0, .ref 145), (1, .int p1), (2, .int p2), (3, .int p3), (4, .int p4), (5, .long p5), (7, .int p7)] [] (MM RR Sk) (some (.int r.1), MM RR r.2)) : ∀ (n : Nat) (p8 : Int32) (S0 : fS), lp_X11_waiting_56 p1 p2 p3 p4 p5 p7 K n p8 S0 = some r → mr X 4 mY_X11_waiting 56 [(0, .ref 145), (1, .int p1), (2, .int p2), (3, .int p3), (4, .int p4), (5, .long p5), (7, .int p7), (8, .int p8)] [] (MM RR S0) (some (.int r.1), MM RR r.2) := by
  intro n
  induction n with
  | zero => intro p8 S0 h; exact mm_no h
  | succ n ih =>
    intro p8 S0 h
    unfold lp_X11_waiting_56 at h
    refine mr_iload (pc' := 58) dX11_waiting_56 rfl rfl ?_
    refine mr_bipush (pc' := 60) (v := (10 : Int32)) dX11_waiting_58 rfl (by decide) ?_
    by_cases c17 : (10 : Int32) ≤ p8
    · rw [if_pos c17] at h
      refine mr_icmp_ge_t (t := 95) dX11_waiting_60 (by decide) c17 ?_
      exact mr_sub [(0, .ref 145), (1, .int p1), (2, .int p2), (3, .int p3), (4, .int p4), (5, .long p5), (7, .int p7)] ⟨rfl, rfl, rfl, rfl, rfl, rfl, rfl, trivial⟩ rfl (hK _  h)
    · rw [if_neg c17] at h
      refine mr_icmp_ge_f (t := 95) (pc' := 63) dX11_waiting_60 (by decide) rfl c17 ?_
      refine mr_aload_n (pc' := 64) dX11_waiting_63 rfl rfl ?_
      refine mr_getR (pc' := 67) (ci := 11) (j := 30) (b := 162) hR dX11_waiting_64 rfl rfl rfl (by decide) (by decide) (by decide) rfl rfl ?_
      refine mr_bipush (pc' := 69) (v := (10 : Int32)) dX11_waiting_67 rfl (by decide) ?_
      refine mr_iload_n (pc' := 70) dX11_waiting_69 rfl rfl ?_
      refine mr_imul (pc' := 71) dX11_waiting_70 rfl ?_
      refine mr_iload (pc' := 73) dX11_waiting_71 rfl rfl ?_
      refine mr_iadd (pc' := 74) dX11_waiting_73 rfl ?_
      refine mr_iload (pc' := 76) dX11_waiting_74 rfl rfl ?_
      refine mr_iload (pc' := 78) dX11_waiting_76 rfl rfl ?_
      by_cases c18 : p8 = p7
      · rw [if_pos c18] at h
        refine mr_icmp_ne_f (t := 85) (pc' := 81) dX11_waiting_78 (by decide) rfl (not_not_intro c18) ?_
        refine mr_lconst (pc' := 82) (v := (0 : Int64)) dX11_waiting_81 rfl (by decide) ?_
        refine mr_goto (t := 88) dX11_waiting_82 (by decide) ?_
        obtain ⟨S22, g23, h24⟩ := Option.bind_eq_some_iff.mp h
        refine mr_last (pc' := 89) dX11_waiting_88 rfl rfl rfl g23 ?_
        refine mr_iinc (pc' := 92) (x' := (p8 + (1 : Int32))) (lv' := [(8, .int (p8 + (1 : Int32))), (0, .ref 145), (1, .int p1), (2, .int p2), (3, .int p3), (4, .int p4), (5, .long p5), (7, .int p7)]) dX11_waiting_89 rfl (by decide) rfl rfl rfl ?_
        refine mr_goto (t := 56) dX11_waiting_92 (by decide) ?_
        exact mr_sub [(0, .ref 145), (1, .int p1), (2, .int p2), (3, .int p3), (4, .int p4), (5, .long p5), (7, .int p7), (8, .int (p8 + (1 : Int32)))] ⟨rfl, rfl, rfl, rfl, rfl, rfl, rfl, rfl, trivial⟩ rfl (ih _ _  h24)
      · rw [if_neg c18] at h
        refine mr_icmp_ne_t (t := 85) dX11_waiting_78 (by decide) c18 ?_
        refine mr_ldc2 (pc' := 88) (v := (-1 : Int64)) dX11_waiting_85 rfl rfl ?_
        obtain ⟨S19, g20, h21⟩ := Option.bind_eq_some_iff.mp h
        refine mr_last (pc' := 89) dX11_waiting_88 rfl rfl rfl g20 ?_
        refine mr_iinc (pc' := 92) (x' := (p8 + (1 : Int32))) (lv' := [(8, .int (p8 + (1 : Int32))), (0, .ref 145), (1, .int p1), (2, .int p2), (3, .int p3), (4, .int p4), (5, .long p5), (7, .int p7)]) dX11_waiting_89 rfl (by decide) rfl rfl rfl ?_
        refine mr_goto (t := 56) dX11_waiting_92 (by decide) ?_
        exact mr_sub [(0, .ref 145), (1, .int p1), (2, .int p2), (3, .int p3), (4, .int p4), (5, .long p5), (7, .int p7), (8, .int (p8 + (1 : Int32)))] ⟨rfl, rfl, rfl, rfl, rfl, rfl, rfl, rfl, trivial⟩ rfl (ih _ _  h21)
def lp_X11_waiting_108 (p1 : Int32) (p2 : Int32) (p3 : Int32) (p4 : Int32) (p5 : Int64) (p7 : Int32) (p8 : Int32) (K : fS → Option (Int32 × fS)) : Nat → Int32 → fS → Option (Int32 × fS)
  | 0, _, _ => none
  | n + 1, p9, S0 =>
    (gI S0 157 158 (0 : Int32)).bind fun a28 =>
    if a28 ≤ p9 then (K S0) else
    ((f_X11_bestFrom p9 p8 p2 p3 S0).bind fun q32 =>
    (sL S0 162 1210 (((10 : Int32) * p8) + p9) q32).bind fun S35 =>
    lp_X11_waiting_108 p1 p2 p3 p4 p5 p7 p8 K n (p9 + (1 : Int32)) S35)
set_option maxHeartbeats 4000000 in
set_option maxRecDepth 100000 in
theorem ok_lp_X11_waiting_108 {X : mm_C} {RR : Nat → Nat → Option Nat} (hR : RRok RR) {p1 : Int32} {p2 : Int32} {p3 : Int32} {p4 : Int32} {p5 : Int64} {p7 : Int32} {p8 : Int32}  {K : fS → Option (Int32 × fS)} {r : Int32 × fS} (hK : ∀ (Sk : fS), K Sk = some r → mr X 4 mY_X11_waiting 148 [(0, .ref 145), (1, .int p1), (2, .int p2), (3, .int p3), (4, .int p4), (5, .long p5), (7, .int p7), (8, .int p8)] [] (MM RR Sk) (some (.int r.1), MM RR r.2)) : ∀ (n : Nat) (p9 : Int32) (S0 : fS), lp_X11_waiting_108 p1 p2 p3 p4 p5 p7 p8 K n p9 S0 = some r → mr X 4 mY_X11_waiting 108 [(0, .ref 145), (1, .int p1), (2, .int p2), (3, .int p3), (4, .int p4), (5, .long p5), (7, .int p7), (8, .int p8), (9, .int p9)] [] (MM RR S0) (some (.int r.1), MM RR r.2) := by
  intro n
  induction n with
  | zero => intro p9 S0 h; exact mm_no h
  | succ n ih =>
    intro p9 S0 h
    unfold lp_X11_waiting_108 at h
    refine mr_iload (pc' := 110) dX11_waiting_108 rfl rfl ?_
    refine mr_aload_n (pc' := 111) dX11_waiting_110 rfl rfl ?_
    refine mr_getR (pc' := 114) (ci := 11) (j := 25) (b := 157) hR dX11_waiting_111 rfl rfl rfl (by decide) (by decide) (by decide) rfl rfl ?_
    refine mr_iconst (pc' := 115) (v := (0 : Int32)) dX11_waiting_114 rfl (by decide) ?_
    obtain ⟨a28, g29, h30⟩ := Option.bind_eq_some_iff.mp h
    refine mr_iald (pc' := 116) dX11_waiting_115 rfl rfl rfl g29 ?_
    by_cases c31 : a28 ≤ p9
    · rw [if_pos c31] at h30
      refine mr_icmp_ge_t (t := 148) dX11_waiting_116 (by decide) c31 ?_
      exact mr_sub [(0, .ref 145), (1, .int p1), (2, .int p2), (3, .int p3), (4, .int p4), (5, .long p5), (7, .int p7), (8, .int p8)] ⟨rfl, rfl, rfl, rfl, rfl, rfl, rfl, rfl, trivial⟩ rfl (hK _  h30)
    · rw [if_neg c31] at h30
      refine mr_icmp_ge_f (t := 148) (pc' := 119) dX11_waiting_116 (by decide) rfl c31 ?_
      refine mr_aload_n (pc' := 120) dX11_waiting_119 rfl rfl ?_
      refine mr_getR (pc' := 123) (ci := 11) (j := 30) (b := 162) hR dX11_waiting_120 rfl rfl rfl (by decide) (by decide) (by decide) rfl rfl ?_
      refine mr_bipush (pc' := 125) (v := (10 : Int32)) dX11_waiting_123 rfl (by decide) ?_
      refine mr_iload (pc' := 127) dX11_waiting_125 rfl rfl ?_
      refine mr_imul (pc' := 128) dX11_waiting_127 rfl ?_
      refine mr_iload (pc' := 130) dX11_waiting_128 rfl rfl ?_
      refine mr_iadd (pc' := 131) dX11_waiting_130 rfl ?_
      refine mr_aload_n (pc' := 132) dX11_waiting_131 rfl rfl ?_
      refine mr_iload (pc' := 134) dX11_waiting_132 rfl rfl ?_
      refine mr_iload (pc' := 136) dX11_waiting_134 rfl rfl ?_
      refine mr_iload_n (pc' := 137) dX11_waiting_136 rfl rfl ?_
      refine mr_iload_n (pc' := 138) dX11_waiting_137 rfl rfl ?_
      obtain ⟨q32, g33, h34⟩ := Option.bind_eq_some_iff.mp h30
      refine mr_cv (pc' := 141) (a := 145) (d1 := 3) dX11_waiting_138 rfl rfl rfl rfl rfl rfl (by decide) rfl (by decide) (ok_X11_bestFrom hR  g33) ?_
      show mr X _ _ 141 _ [.long q32, .int (((10 : Int32) * p8) + p9), .ref 162] (MM RR S0) _
      obtain ⟨S35, g36, h37⟩ := Option.bind_eq_some_iff.mp h34
      refine mr_last (pc' := 142) dX11_waiting_141 rfl rfl rfl g36 ?_
      refine mr_iinc (pc' := 145) (x' := (p9 + (1 : Int32))) (lv' := [(9, .int (p9 + (1 : Int32))), (0, .ref 145), (1, .int p1), (2, .int p2), (3, .int p3), (4, .int p4), (5, .long p5), (7, .int p7), (8, .int p8)]) dX11_waiting_142 rfl (by decide) rfl rfl rfl ?_
      refine mr_goto (t := 108) dX11_waiting_145 (by decide) ?_
      exact mr_sub [(0, .ref 145), (1, .int p1), (2, .int p2), (3, .int p3), (4, .int p4), (5, .long p5), (7, .int p7), (8, .int p8), (9, .int (p9 + (1 : Int32)))] ⟨rfl, rfl, rfl, rfl, rfl, rfl, rfl, rfl, rfl, trivial⟩ rfl (ih _ _  h37)
def lp_X11_waiting_100 (p1 : Int32) (p2 : Int32) (p3 : Int32) (p4 : Int32) (p5 : Int64) (p7 : Int32) (K : fS → Option (Int32 × fS)) : Nat → Int32 → fS → Option (Int32 × fS)
  | 0, _, _ => none
  | n + 1, p8, S0 =>
    if p8 < (0 : Int32) then (K S0) else
    (lp_X11_waiting_108 p1 p2 p3 p4 p5 p7 p8 (fun S38 => lp_X11_waiting_100 p1 p2 p3 p4 p5 p7 K n (p8 + (-1 : Int32)) S38) FU (0 : Int32) S0)
set_option maxHeartbeats 4000000 in
set_option maxRecDepth 100000 in
theorem ok_lp_X11_waiting_100 {X : mm_C} {RR : Nat → Nat → Option Nat} (hR : RRok RR) {p1 : Int32} {p2 : Int32} {p3 : Int32} {p4 : Int32} {p5 : Int64} {p7 : Int32}  {K : fS → Option (Int32 × fS)} {r : Int32 × fS} (hK : ∀ (Sk : fS), K Sk = some r → mr X 4 mY_X11_waiting 154 [(0, .ref 145), (1, .int p1), (2, .int p2), (3, .int p3), (4, .int p4), (5, .long p5), (7, .int p7)] [] (MM RR Sk) (some (.int r.1), MM RR r.2)) : ∀ (n : Nat) (p8 : Int32) (S0 : fS), lp_X11_waiting_100 p1 p2 p3 p4 p5 p7 K n p8 S0 = some r → mr X 4 mY_X11_waiting 100 [(0, .ref 145), (1, .int p1), (2, .int p2), (3, .int p3), (4, .int p4), (5, .long p5), (7, .int p7), (8, .int p8)] [] (MM RR S0) (some (.int r.1), MM RR r.2) := by
  intro n
  induction n with
  | zero => intro p8 S0 h; exact mm_no h
  | succ n ih =>
    intro p8 S0 h
    unfold lp_X11_waiting_100 at h
    refine mr_iload (pc' := 102) dX11_waiting_100 rfl rfl ?_
    by_cases c27 : p8 < (0 : Int32)
    · rw [if_pos c27] at h
      refine mr_if_lt_t (t := 154) dX11_waiting_102 (by decide) c27 ?_
      exact mr_sub [(0, .ref 145), (1, .int p1), (2, .int p2), (3, .int p3), (4, .int p4), (5, .long p5), (7, .int p7)] ⟨rfl, rfl, rfl, rfl, rfl, rfl, rfl, trivial⟩ rfl (hK _  h)
    · rw [if_neg c27] at h
      refine mr_if_lt_f (t := 154) (pc' := 105) dX11_waiting_102 (by decide) rfl c27 ?_
      refine mr_iconst (pc' := 106) (v := (0 : Int32)) dX11_waiting_105 rfl (by decide) ?_
      refine mr_istore (pc' := 108) (lv' := [(9, .int (0 : Int32)), (0, .ref 145), (1, .int p1), (2, .int p2), (3, .int p3), (4, .int p4), (5, .long p5), (7, .int p7), (8, .int p8)]) dX11_waiting_106 rfl (by decide) rfl ?_
      refine mr_sub [(0, .ref 145), (1, .int p1), (2, .int p2), (3, .int p3), (4, .int p4), (5, .long p5), (7, .int p7), (8, .int p8), (9, .int (0 : Int32))] ⟨rfl, rfl, rfl, rfl, rfl, rfl, rfl, rfl, rfl, trivial⟩ rfl ?_
      refine ok_lp_X11_waiting_108 hR  (fun S38 h39 => ?_) FU _ _  h
      refine mr_iinc (pc' := 151) (x' := (p8 + (-1 : Int32))) (lv' := [(8, .int (p8 + (-1 : Int32))), (0, .ref 145), (1, .int p1), (2, .int p2), (3, .int p3), (4, .int p4), (5, .long p5), (7, .int p7)]) dX11_waiting_148 rfl (by decide) rfl rfl rfl ?_
      refine mr_goto (t := 100) dX11_waiting_151 (by decide) ?_
      exact mr_sub [(0, .ref 145), (1, .int p1), (2, .int p2), (3, .int p3), (4, .int p4), (5, .long p5), (7, .int p7), (8, .int (p8 + (-1 : Int32)))] ⟨rfl, rfl, rfl, rfl, rfl, rfl, rfl, rfl, trivial⟩ rfl (ih _ _  h39)
def lp_X11_waiting_42 (p1 : Int32) (p2 : Int32) (p3 : Int32) (K : Int32 → fS → Option (Int32 × fS)) : Nat → Int32 → Int64 → Int32 → fS → Option (Int32 × fS)
  | 0, _, _, _, _ => none
  | n + 1, p4, p5, p7, S0 =>
    (gI S0 157 158 (0 : Int32)).bind fun a13 =>
    if a13 ≤ p7 then (K p4 S0) else
    (lp_X11_waiting_56 p1 p2 p3 p4 p5 p7 (fun S25 => lp_X11_waiting_100 p1 p2 p3 p4 p5 p7 (fun S40 => (f_X11_thingOf p1 (0 : Int32) S40).bind fun q42 =>
    (gL S40 162 1210 q42).bind fun a45 =>
    if a45 < (0 : Int64) then (lp_X11_waiting_42 p1 p2 p3 K n p4 p5 (p7 + (1 : Int32)) S40) else
    ((f_X11_isBetter a45 p5 p3 S40).bind fun q49 =>
    if q49 = (0 : Int32) then (lp_X11_waiting_42 p1 p2 p3 K n p4 p5 (p7 + (1 : Int32)) S40) else
    (lp_X11_waiting_42 p1 p2 p3 K n p7 a45 (p7 + (1 : Int32)) S40))) FU (p2 - (1 : Int32)) S25) FU (0 : Int32) S0)
set_option maxHeartbeats 4000000 in
set_option maxRecDepth 100000 in
theorem ok_lp_X11_waiting_42 {X : mm_C} {RR : Nat → Nat → Option Nat} (hR : RRok RR) {p1 : Int32} {p2 : Int32} {p3 : Int32}  {K : Int32 → fS → Option (Int32 × fS)} {r : Int32 × fS} (hK : ∀ (k4 : Int32) (Sk : fS), K k4 Sk = some r → mr X 4 mY_X11_waiting 203 [(4, .int k4)] [] (MM RR Sk) (some (.int r.1), MM RR r.2)) : ∀ (n : Nat) (p4 : Int32) (p5 : Int64) (p7 : Int32) (S0 : fS), lp_X11_waiting_42 p1 p2 p3 K n p4 p5 p7 S0 = some r → mr X 4 mY_X11_waiting 42 [(0, .ref 145), (1, .int p1), (2, .int p2), (3, .int p3), (4, .int p4), (5, .long p5), (7, .int p7)] [] (MM RR S0) (some (.int r.1), MM RR r.2) := by
  intro n
  induction n with
  | zero => intro p4 p5 p7 S0 h; exact mm_no h
  | succ n ih =>
    intro p4 p5 p7 S0 h
    unfold lp_X11_waiting_42 at h
    refine mr_iload (pc' := 44) dX11_waiting_42 rfl rfl ?_
    refine mr_aload_n (pc' := 45) dX11_waiting_44 rfl rfl ?_
    refine mr_getR (pc' := 48) (ci := 11) (j := 25) (b := 157) hR dX11_waiting_45 rfl rfl rfl (by decide) (by decide) (by decide) rfl rfl ?_
    refine mr_iconst (pc' := 49) (v := (0 : Int32)) dX11_waiting_48 rfl (by decide) ?_
    obtain ⟨a13, g14, h15⟩ := Option.bind_eq_some_iff.mp h
    refine mr_iald (pc' := 50) dX11_waiting_49 rfl rfl rfl g14 ?_
    by_cases c16 : a13 ≤ p7
    · rw [if_pos c16] at h15
      refine mr_icmp_ge_t (t := 203) dX11_waiting_50 (by decide) c16 ?_
      exact mr_sub [(4, .int p4)] ⟨rfl, trivial⟩ rfl (hK _ _  h15)
    · rw [if_neg c16] at h15
      refine mr_icmp_ge_f (t := 203) (pc' := 53) dX11_waiting_50 (by decide) rfl c16 ?_
      refine mr_iconst (pc' := 54) (v := (0 : Int32)) dX11_waiting_53 rfl (by decide) ?_
      refine mr_istore (pc' := 56) (lv' := [(8, .int (0 : Int32)), (0, .ref 145), (1, .int p1), (2, .int p2), (3, .int p3), (4, .int p4), (5, .long p5), (7, .int p7)]) dX11_waiting_54 rfl (by decide) rfl ?_
      refine mr_sub [(0, .ref 145), (1, .int p1), (2, .int p2), (3, .int p3), (4, .int p4), (5, .long p5), (7, .int p7), (8, .int (0 : Int32))] ⟨rfl, rfl, rfl, rfl, rfl, rfl, rfl, rfl, trivial⟩ rfl ?_
      refine ok_lp_X11_waiting_56 hR  (fun S25 h26 => ?_) FU _ _  h15
      refine mr_iload_n (pc' := 96) dX11_waiting_95 rfl rfl ?_
      refine mr_iconst (pc' := 97) (v := (1 : Int32)) dX11_waiting_96 rfl (by decide) ?_
      refine mr_isub (pc' := 98) dX11_waiting_97 rfl ?_
      refine mr_istore (pc' := 100) (lv' := [(8, .int (p2 - (1 : Int32))), (0, .ref 145), (1, .int p1), (2, .int p2), (3, .int p3), (4, .int p4), (5, .long p5), (7, .int p7)]) dX11_waiting_98 rfl (by decide) rfl ?_
      refine mr_sub [(0, .ref 145), (1, .int p1), (2, .int p2), (3, .int p3), (4, .int p4), (5, .long p5), (7, .int p7), (8, .int (p2 - (1 : Int32)))] ⟨rfl, rfl, rfl, rfl, rfl, rfl, rfl, rfl, trivial⟩ rfl ?_
      refine ok_lp_X11_waiting_100 hR  (fun S40 h41 => ?_) FU _ _  h26
      refine mr_aload_n (pc' := 155) dX11_waiting_154 rfl rfl ?_
      refine mr_getR (pc' := 158) (ci := 11) (j := 30) (b := 162) hR dX11_waiting_155 rfl rfl rfl (by decide) (by decide) (by decide) rfl rfl ?_
      refine mr_aload_n (pc' := 159) dX11_waiting_158 rfl rfl ?_
      refine mr_iload_n (pc' := 160) dX11_waiting_159 rfl rfl ?_
      refine mr_iconst (pc' := 161) (v := (0 : Int32)) dX11_waiting_160 rfl (by decide) ?_
      obtain ⟨q42, g43, h44⟩ := Option.bind_eq_some_iff.mp h41
      refine mr_cv (pc' := 164) (a := 145) (d1 := 0) dX11_waiting_161 rfl rfl rfl rfl rfl rfl (by decide) rfl (by decide) (ok_X11_thingOf hR  g43) ?_
      show mr X _ _ 164 _ [.int q42, .ref 162] (MM RR S40) _
      obtain ⟨a45, g46, h47⟩ := Option.bind_eq_some_iff.mp h44
      refine mr_lald (pc' := 165) dX11_waiting_164 rfl rfl rfl g46 ?_
      refine mr_lstore (pc' := 167) (lv' := [(8, .long a45), (0, .ref 145), (1, .int p1), (2, .int p2), (3, .int p3), (4, .int p4), (5, .long p5), (7, .int p7)]) dX11_waiting_165 rfl (by decide) rfl ?_
      refine mr_lload (pc' := 169) dX11_waiting_167 rfl rfl ?_
      refine mr_lconst (pc' := 170) (v := (0 : Int64)) dX11_waiting_169 rfl (by decide) ?_
      by_cases c48 : a45 < (0 : Int64)
      · rw [if_pos c48] at h47
        refine mr_lcmp_lt_t (t := 197) dX11_waiting_170 rfl dX11_waiting_171 (by decide) c48 ?_
        refine mr_iinc (pc' := 200) (x' := (p7 + (1 : Int32))) (lv' := [(7, .int (p7 + (1 : Int32))), (8, .long a45), (0, .ref 145), (1, .int p1), (2, .int p2), (3, .int p3), (4, .int p4), (5, .long p5)]) dX11_waiting_197 rfl (by decide) rfl rfl rfl ?_
        refine mr_goto (t := 42) dX11_waiting_200 (by decide) ?_
        exact mr_sub [(0, .ref 145), (1, .int p1), (2, .int p2), (3, .int p3), (4, .int p4), (5, .long p5), (7, .int (p7 + (1 : Int32)))] ⟨rfl, rfl, rfl, rfl, rfl, rfl, rfl, trivial⟩ rfl (ih _ _ _ _  h47)
      · rw [if_neg c48] at h47
        refine mr_lcmp_lt_f (t := 197) (pc' := 174) dX11_waiting_170 rfl dX11_waiting_171 (by decide) rfl c48 ?_
        refine mr_aload_n (pc' := 175) dX11_waiting_174 rfl rfl ?_
        refine mr_lload (pc' := 177) dX11_waiting_175 rfl rfl ?_
        refine mr_lload (pc' := 179) dX11_waiting_177 rfl rfl ?_
        refine mr_iload_n (pc' := 180) dX11_waiting_179 rfl rfl ?_
        obtain ⟨q49, g50, h51⟩ := Option.bind_eq_some_iff.mp h47
        refine mr_cv (pc' := 183) (a := 145) (d1 := 0) dX11_waiting_180 rfl rfl rfl rfl rfl rfl (by decide) rfl (by decide) (ok_X11_isBetter hR  g50) ?_
        show mr X _ _ 183 _ [.int q49] (MM RR S40) _
        by_cases c52 : q49 = (0 : Int32)
        · rw [if_pos c52] at h51
          refine mr_if_ne_f (t := 189) (pc' := 186) dX11_waiting_183 (by decide) rfl (not_not_intro c52) ?_
          refine mr_goto (t := 197) dX11_waiting_186 (by decide) ?_
          refine mr_iinc (pc' := 200) (x' := (p7 + (1 : Int32))) (lv' := [(7, .int (p7 + (1 : Int32))), (8, .long a45), (0, .ref 145), (1, .int p1), (2, .int p2), (3, .int p3), (4, .int p4), (5, .long p5)]) dX11_waiting_197 rfl (by decide) rfl rfl rfl ?_
          refine mr_goto (t := 42) dX11_waiting_200 (by decide) ?_
          exact mr_sub [(0, .ref 145), (1, .int p1), (2, .int p2), (3, .int p3), (4, .int p4), (5, .long p5), (7, .int (p7 + (1 : Int32)))] ⟨rfl, rfl, rfl, rfl, rfl, rfl, rfl, trivial⟩ rfl (ih _ _ _ _  h51)
        · rw [if_neg c52] at h51
          refine mr_if_ne_t (t := 189) dX11_waiting_183 (by decide) c52 ?_
          refine mr_iload (pc' := 191) dX11_waiting_189 rfl rfl ?_
          refine mr_istore (pc' := 193) (lv' := [(4, .int p7), (8, .long a45), (0, .ref 145), (1, .int p1), (2, .int p2), (3, .int p3), (5, .long p5), (7, .int p7)]) dX11_waiting_191 rfl (by decide) rfl ?_
          refine mr_lload (pc' := 195) dX11_waiting_193 rfl rfl ?_
          refine mr_lstore (pc' := 197) (lv' := [(5, .long a45), (4, .int p7), (8, .long a45), (0, .ref 145), (1, .int p1), (2, .int p2), (3, .int p3), (7, .int p7)]) dX11_waiting_195 rfl (by decide) rfl ?_
          refine mr_iinc (pc' := 200) (x' := (p7 + (1 : Int32))) (lv' := [(7, .int (p7 + (1 : Int32))), (5, .long a45), (4, .int p7), (8, .long a45), (0, .ref 145), (1, .int p1), (2, .int p2), (3, .int p3)]) dX11_waiting_197 rfl (by decide) rfl rfl rfl ?_
          refine mr_goto (t := 42) dX11_waiting_200 (by decide) ?_
          exact mr_sub [(0, .ref 145), (1, .int p1), (2, .int p2), (3, .int p3), (4, .int p7), (5, .long a45), (7, .int (p7 + (1 : Int32)))] ⟨rfl, rfl, rfl, rfl, rfl, rfl, rfl, trivial⟩ rfl (ih _ _ _ _  h51)
def f_X11_waiting (v1 : Int32) (v2 : Int32) (v3 : Int32) (S : fS) : Option (Int32 × fS) :=
  (f_X11_isThing v1 S).bind fun q1 =>
  if q1 = (0 : Int32) then (some ((-1 : Int32), S)) else
  ((f_X11_thingOf v1 (0 : Int32) S).bind fun q5 =>
  if q5 < (0 : Int32) then (some ((-1 : Int32), S)) else
  ((f_X11_in (Int32.toInt64 v2) (0 : Int64) (120 : Int64) S).bind fun q9 =>
  if q9 = (0 : Int32) then (some ((-1 : Int32), S)) else
  (lp_X11_waiting_42 v1 v2 v3 (fun u53 S54 => some (u53, S54)) FU (-1 : Int32) (-1 : Int64) (0 : Int32) S)))
set_option maxHeartbeats 4000000 in
set_option maxRecDepth 100000 in
theorem ok_X11_waiting {X : mm_C} {RR : Nat → Nat → Option Nat} (hR : RRok RR) {v1 : Int32} {v2 : Int32} {v3 : Int32}  {S : fS} {r : Int32 × fS} (h : f_X11_waiting v1 v2 v3 S = some r) : mr X 4 mY_X11_waiting 0 (lv_args 0 [.ref 145, .int v1, .int v2, .int v3]) [] (MM RR S) (some (.int r.1), MM RR r.2) := by
  unfold f_X11_waiting at h
  show mr X _ _ 0 [(0, .ref 145), (1, .int v1), (2, .int v2), (3, .int v3)] [] (MM RR S) _
  refine mr_aload_n (pc' := 1) dX11_waiting_0 rfl rfl ?_
  refine mr_iload_n (pc' := 2) dX11_waiting_1 rfl rfl ?_
  obtain ⟨q1, g2, h3⟩ := Option.bind_eq_some_iff.mp h
  refine mr_cv (pc' := 5) (a := 145) (d1 := 0) dX11_waiting_2 rfl rfl rfl rfl rfl rfl (by decide) rfl (by decide) (ok_X11_isThing hR  g2) ?_
  show mr X _ _ 5 _ [.int q1] (MM RR S) _
  by_cases c4 : q1 = (0 : Int32)
  · rw [if_pos c4] at h3
    refine mr_if_eq_t (t := 29) dX11_waiting_5 (by decide) c4 ?_
    refine mr_iconst (pc' := 30) (v := (-1 : Int32)) dX11_waiting_29 rfl (by decide) ?_
    obtain rfl := Option.some.inj h3
    exact mr_ireturn dX11_waiting_30 rfl
  · rw [if_neg c4] at h3
    refine mr_if_eq_f (t := 29) (pc' := 8) dX11_waiting_5 (by decide) rfl c4 ?_
    refine mr_aload_n (pc' := 9) dX11_waiting_8 rfl rfl ?_
    refine mr_iload_n (pc' := 10) dX11_waiting_9 rfl rfl ?_
    refine mr_iconst (pc' := 11) (v := (0 : Int32)) dX11_waiting_10 rfl (by decide) ?_
    obtain ⟨q5, g6, h7⟩ := Option.bind_eq_some_iff.mp h3
    refine mr_cv (pc' := 14) (a := 145) (d1 := 0) dX11_waiting_11 rfl rfl rfl rfl rfl rfl (by decide) rfl (by decide) (ok_X11_thingOf hR  g6) ?_
    show mr X _ _ 14 _ [.int q5] (MM RR S) _
    by_cases c8 : q5 < (0 : Int32)
    · rw [if_pos c8] at h7
      refine mr_if_lt_t (t := 29) dX11_waiting_14 (by decide) c8 ?_
      refine mr_iconst (pc' := 30) (v := (-1 : Int32)) dX11_waiting_29 rfl (by decide) ?_
      obtain rfl := Option.some.inj h7
      exact mr_ireturn dX11_waiting_30 rfl
    · rw [if_neg c8] at h7
      refine mr_if_lt_f (t := 29) (pc' := 17) dX11_waiting_14 (by decide) rfl c8 ?_
      refine mr_iload_n (pc' := 18) dX11_waiting_17 rfl rfl ?_
      refine mr_i2l (pc' := 19) dX11_waiting_18 rfl ?_
      refine mr_lconst (pc' := 20) (v := (0 : Int64)) dX11_waiting_19 rfl (by decide) ?_
      refine mr_ldc2 (pc' := 23) (v := (120 : Int64)) dX11_waiting_20 rfl rfl ?_
      obtain ⟨q9, g10, h11⟩ := Option.bind_eq_some_iff.mp h7
      refine mr_cs (pc' := 26) (d1 := 0) dX11_waiting_23 rfl rfl rfl rfl (by decide) (Nat.le_of_ble_eq_true rfl) rfl rfl rfl (by decide) (ok_X11_in hR  g10) ?_
      show mr X _ _ 26 _ [.int q9] (MM RR S) _
      by_cases c12 : q9 = (0 : Int32)
      · rw [if_pos c12] at h11
        refine mr_if_ne_f (t := 31) (pc' := 29) dX11_waiting_26 (by decide) rfl (not_not_intro c12) ?_
        refine mr_iconst (pc' := 30) (v := (-1 : Int32)) dX11_waiting_29 rfl (by decide) ?_
        obtain rfl := Option.some.inj h11
        exact mr_ireturn dX11_waiting_30 rfl
      · rw [if_neg c12] at h11
        refine mr_if_ne_t (t := 31) dX11_waiting_26 (by decide) c12 ?_
        refine mr_iconst (pc' := 32) (v := (-1 : Int32)) dX11_waiting_31 rfl (by decide) ?_
        refine mr_istore (pc' := 34) (lv' := [(4, .int (-1 : Int32)), (0, .ref 145), (1, .int v1), (2, .int v2), (3, .int v3)]) dX11_waiting_32 rfl (by decide) rfl ?_
        refine mr_ldc2 (pc' := 37) (v := (-1 : Int64)) dX11_waiting_34 rfl rfl ?_
        refine mr_lstore (pc' := 39) (lv' := [(5, .long (-1 : Int64)), (4, .int (-1 : Int32)), (0, .ref 145), (1, .int v1), (2, .int v2), (3, .int v3)]) dX11_waiting_37 rfl (by decide) rfl ?_
        refine mr_iconst (pc' := 40) (v := (0 : Int32)) dX11_waiting_39 rfl (by decide) ?_
        refine mr_istore (pc' := 42) (lv' := [(7, .int (0 : Int32)), (5, .long (-1 : Int64)), (4, .int (-1 : Int32)), (0, .ref 145), (1, .int v1), (2, .int v2), (3, .int v3)]) dX11_waiting_40 rfl (by decide) rfl ?_
        refine mr_sub [(0, .ref 145), (1, .int v1), (2, .int v2), (3, .int v3), (4, .int (-1 : Int32)), (5, .long (-1 : Int64)), (7, .int (0 : Int32))] ⟨rfl, rfl, rfl, rfl, rfl, rfl, rfl, trivial⟩ rfl ?_
        refine ok_lp_X11_waiting_42 hR  (fun u53 S54 h55 => ?_) FU _ _ _ _  h11
        refine mr_iload (pc' := 205) dX11_waiting_203 rfl rfl ?_
        obtain rfl := Option.some.inj h55
        exact mr_ireturn dX11_waiting_205 rfl
def f_X11_when (v1 : Int32) (v2 : Int32) (v3 : Int32) (v4 : Int32) (S : fS) : Option (Int64) :=
  (f_X11_isThing v1 S).bind fun q1 =>
  if q1 = (0 : Int32) then (some (-1 : Int64)) else
  ((f_X11_isFloor v2 S).bind fun q5 =>
  if q5 = (0 : Int32) then (some (-1 : Int64)) else
  ((f_X11_in (Int32.toInt64 v3) (0 : Int64) (9999 : Int64) S).bind fun q9 =>
  if q9 = (0 : Int32) then (some (-1 : Int64)) else
  ((f_X11_in (Int32.toInt64 v4) (0 : Int64) (1 : Int64) S).bind fun q13 =>
  if q13 = (0 : Int32) then (some (-1 : Int64)) else
  ((gL S 158 8 v1).bind fun a17 =>
  if (0 : Int64) ≤ (((Int32.toInt64 v3) * (232792560 : Int64)) - a17) then (if (((Int32.toInt64 v3) * (232792560 : Int64)) - a17) = (0 : Int64) then (some (Int32.toInt64 v4)) else
  ((f_X11_floorParts v2 S).bind fun q22 =>
  (f_X11_lowest (((Int32.toInt64 v3) * (232792560 : Int64)) - a17) q22 v4 S).bind fun q25 =>
  some q25)) else
  (some (-2 : Int64))))))
set_option maxHeartbeats 4000000 in
set_option maxRecDepth 100000 in
theorem ok_X11_when {X : mm_C} {RR : Nat → Nat → Option Nat} (hR : RRok RR) {v1 : Int32} {v2 : Int32} {v3 : Int32} {v4 : Int32}  {S : fS} {r : Int64} (h : f_X11_when v1 v2 v3 v4 S = some r) : mr X 2 mY_X11_when 0 (lv_args 0 [.ref 145, .int v1, .int v2, .int v3, .int v4]) [] (MM RR S) (some (.long r), MM RR S) := by
  unfold f_X11_when at h
  show mr X _ _ 0 [(0, .ref 145), (1, .int v1), (2, .int v2), (3, .int v3), (4, .int v4)] [] (MM RR S) _
  refine mr_aload_n (pc' := 1) dX11_when_0 rfl rfl ?_
  refine mr_iload_n (pc' := 2) dX11_when_1 rfl rfl ?_
  obtain ⟨q1, g2, h3⟩ := Option.bind_eq_some_iff.mp h
  refine mr_cv (pc' := 5) (a := 145) (d1 := 0) dX11_when_2 rfl rfl rfl rfl rfl rfl (by decide) rfl (by decide) (ok_X11_isThing hR  g2) ?_
  show mr X _ _ 5 _ [.int q1] (MM RR S) _
  by_cases c4 : q1 = (0 : Int32)
  · rw [if_pos c4] at h3
    refine mr_if_eq_t (t := 39) dX11_when_5 (by decide) c4 ?_
    refine mr_ldc2 (pc' := 42) (v := (-1 : Int64)) dX11_when_39 rfl rfl ?_
    obtain rfl := Option.some.inj h3
    exact mr_lreturn dX11_when_42 rfl
  · rw [if_neg c4] at h3
    refine mr_if_eq_f (t := 39) (pc' := 8) dX11_when_5 (by decide) rfl c4 ?_
    refine mr_aload_n (pc' := 9) dX11_when_8 rfl rfl ?_
    refine mr_iload_n (pc' := 10) dX11_when_9 rfl rfl ?_
    obtain ⟨q5, g6, h7⟩ := Option.bind_eq_some_iff.mp h3
    refine mr_cv (pc' := 13) (a := 145) (d1 := 0) dX11_when_10 rfl rfl rfl rfl rfl rfl (by decide) rfl (by decide) (ok_X11_isFloor hR  g6) ?_
    show mr X _ _ 13 _ [.int q5] (MM RR S) _
    by_cases c8 : q5 = (0 : Int32)
    · rw [if_pos c8] at h7
      refine mr_if_eq_t (t := 39) dX11_when_13 (by decide) c8 ?_
      refine mr_ldc2 (pc' := 42) (v := (-1 : Int64)) dX11_when_39 rfl rfl ?_
      obtain rfl := Option.some.inj h7
      exact mr_lreturn dX11_when_42 rfl
    · rw [if_neg c8] at h7
      refine mr_if_eq_f (t := 39) (pc' := 16) dX11_when_13 (by decide) rfl c8 ?_
      refine mr_iload_n (pc' := 17) dX11_when_16 rfl rfl ?_
      refine mr_i2l (pc' := 18) dX11_when_17 rfl ?_
      refine mr_lconst (pc' := 19) (v := (0 : Int64)) dX11_when_18 rfl (by decide) ?_
      refine mr_ldc2 (pc' := 22) (v := (9999 : Int64)) dX11_when_19 rfl rfl ?_
      obtain ⟨q9, g10, h11⟩ := Option.bind_eq_some_iff.mp h7
      refine mr_cs (pc' := 25) (d1 := 0) dX11_when_22 rfl rfl rfl rfl (by decide) (Nat.le_of_ble_eq_true rfl) rfl rfl rfl (by decide) (ok_X11_in hR  g10) ?_
      show mr X _ _ 25 _ [.int q9] (MM RR S) _
      by_cases c12 : q9 = (0 : Int32)
      · rw [if_pos c12] at h11
        refine mr_if_eq_t (t := 39) dX11_when_25 (by decide) c12 ?_
        refine mr_ldc2 (pc' := 42) (v := (-1 : Int64)) dX11_when_39 rfl rfl ?_
        obtain rfl := Option.some.inj h11
        exact mr_lreturn dX11_when_42 rfl
      · rw [if_neg c12] at h11
        refine mr_if_eq_f (t := 39) (pc' := 28) dX11_when_25 (by decide) rfl c12 ?_
        refine mr_iload (pc' := 30) dX11_when_28 rfl rfl ?_
        refine mr_i2l (pc' := 31) dX11_when_30 rfl ?_
        refine mr_lconst (pc' := 32) (v := (0 : Int64)) dX11_when_31 rfl (by decide) ?_
        refine mr_lconst (pc' := 33) (v := (1 : Int64)) dX11_when_32 rfl (by decide) ?_
        obtain ⟨q13, g14, h15⟩ := Option.bind_eq_some_iff.mp h11
        refine mr_cs (pc' := 36) (d1 := 0) dX11_when_33 rfl rfl rfl rfl (by decide) (Nat.le_of_ble_eq_true rfl) rfl rfl rfl (by decide) (ok_X11_in hR  g14) ?_
        show mr X _ _ 36 _ [.int q13] (MM RR S) _
        by_cases c16 : q13 = (0 : Int32)
        · rw [if_pos c16] at h15
          refine mr_if_ne_f (t := 43) (pc' := 39) dX11_when_36 (by decide) rfl (not_not_intro c16) ?_
          refine mr_ldc2 (pc' := 42) (v := (-1 : Int64)) dX11_when_39 rfl rfl ?_
          obtain rfl := Option.some.inj h15
          exact mr_lreturn dX11_when_42 rfl
        · rw [if_neg c16] at h15
          refine mr_if_ne_t (t := 43) dX11_when_36 (by decide) c16 ?_
          refine mr_iload_n (pc' := 44) dX11_when_43 rfl rfl ?_
          refine mr_i2l (pc' := 45) dX11_when_44 rfl ?_
          refine mr_ldc2 (pc' := 48) (v := (232792560 : Int64)) dX11_when_45 rfl rfl ?_
          refine mr_lmul (pc' := 49) dX11_when_48 rfl ?_
          refine mr_aload_n (pc' := 50) dX11_when_49 rfl rfl ?_
          refine mr_getR (pc' := 53) (ci := 11) (j := 26) (b := 158) hR dX11_when_50 rfl rfl rfl (by decide) (by decide) (by decide) rfl rfl ?_
          refine mr_iload_n (pc' := 54) dX11_when_53 rfl rfl ?_
          obtain ⟨a17, g18, h19⟩ := Option.bind_eq_some_iff.mp h15
          refine mr_lald (pc' := 55) dX11_when_54 rfl rfl rfl g18 ?_
          refine mr_lsub (pc' := 56) dX11_when_55 rfl ?_
          refine mr_lstore (pc' := 58) (lv' := [(5, .long (((Int32.toInt64 v3) * (232792560 : Int64)) - a17)), (0, .ref 145), (1, .int v1), (2, .int v2), (3, .int v3), (4, .int v4)]) dX11_when_56 rfl (by decide) rfl ?_
          refine mr_lload (pc' := 60) dX11_when_58 rfl rfl ?_
          refine mr_lconst (pc' := 61) (v := (0 : Int64)) dX11_when_60 rfl (by decide) ?_
          by_cases c20 : (0 : Int64) ≤ (((Int32.toInt64 v3) * (232792560 : Int64)) - a17)
          · rw [if_pos c20] at h19
            refine mr_lcmp_ge_t (t := 69) dX11_when_61 rfl dX11_when_62 (by decide) c20 ?_
            refine mr_lload (pc' := 71) dX11_when_69 rfl rfl ?_
            refine mr_lconst (pc' := 72) (v := (0 : Int64)) dX11_when_71 rfl (by decide) ?_
            by_cases c21 : (((Int32.toInt64 v3) * (232792560 : Int64)) - a17) = (0 : Int64)
            · rw [if_pos c21] at h19
              refine mr_lcmp_ne_f (t := 82) (pc' := 76) dX11_when_72 rfl dX11_when_73 (by decide) rfl (not_not_intro c21) ?_
              refine mr_iload (pc' := 78) dX11_when_76 rfl rfl ?_
              refine mr_i2l (pc' := 79) dX11_when_78 rfl ?_
              refine mr_goto (t := 94) dX11_when_79 (by decide) ?_
              obtain rfl := Option.some.inj h19
              exact mr_lreturn dX11_when_94 rfl
            · rw [if_neg c21] at h19
              refine mr_lcmp_ne_t (t := 82) dX11_when_72 rfl dX11_when_73 (by decide) c21 ?_
              refine mr_lload (pc' := 84) dX11_when_82 rfl rfl ?_
              refine mr_aload_n (pc' := 85) dX11_when_84 rfl rfl ?_
              refine mr_iload_n (pc' := 86) dX11_when_85 rfl rfl ?_
              obtain ⟨q22, g23, h24⟩ := Option.bind_eq_some_iff.mp h19
              refine mr_cv (pc' := 89) (a := 145) (d1 := 0) dX11_when_86 rfl rfl rfl rfl rfl rfl (by decide) rfl (by decide) (ok_X11_floorParts hR  g23) ?_
              show mr X _ _ 89 _ [.long q22, .long (((Int32.toInt64 v3) * (232792560 : Int64)) - a17)] (MM RR S) _
              refine mr_iload (pc' := 91) dX11_when_89 rfl rfl ?_
              obtain ⟨q25, g26, h27⟩ := Option.bind_eq_some_iff.mp h24
              refine mr_cs (pc' := 94) (d1 := 1) dX11_when_91 rfl rfl rfl rfl (by decide) (Nat.le_of_ble_eq_true rfl) rfl rfl rfl (by decide) (ok_X11_lowest hR  g26) ?_
              show mr X _ _ 94 _ [.long q25] (MM RR S) _
              obtain rfl := Option.some.inj h27
              exact mr_lreturn dX11_when_94 rfl
          · rw [if_neg c20] at h19
            refine mr_lcmp_ge_f (t := 69) (pc' := 65) dX11_when_61 rfl dX11_when_62 (by decide) rfl c20 ?_
            refine mr_ldc2 (pc' := 68) (v := (-2 : Int64)) dX11_when_65 rfl rfl ?_
            obtain rfl := Option.some.inj h19
            exact mr_lreturn dX11_when_68 rfl
def f_X11_shown (v1 : Int32) (v2 : Int32) (v3 : Int32) (S : fS) : Option (Int32) :=
  (f_X11_isFloor v1 S).bind fun q1 =>
  if q1 = (0 : Int32) then (some (-1 : Int32)) else
  ((f_X11_in (Int32.toInt64 v2) (0 : Int64) (9999 : Int64) S).bind fun q5 =>
  if q5 = (0 : Int32) then (some (-1 : Int32)) else
  ((f_X11_in (Int32.toInt64 v3) (0 : Int64) (1 : Int64) S).bind fun q9 =>
  if q9 = (0 : Int32) then (some (-1 : Int32)) else
  ((gI S 157 158 ((10 : Int32) + ((2 : Int32) * v1))).bind fun a13 =>
  (gI S 157 158 (((10 : Int32) + ((2 : Int32) * v1)) + (1 : Int32))).bind fun a16 =>
  (dI (v2 * a13) a16).bind fun a19 =>
  if v3 = (0 : Int32) then ((dI a19 (24 : Int32)).bind fun a26 =>
  some a26) else
  ((rI a19 (24 : Int32)).bind fun a23 =>
  some a23))))
set_option maxHeartbeats 4000000 in
set_option maxRecDepth 100000 in
theorem ok_X11_shown {X : mm_C} {RR : Nat → Nat → Option Nat} (hR : RRok RR) {v1 : Int32} {v2 : Int32} {v3 : Int32}  {S : fS} {r : Int32} (h : f_X11_shown v1 v2 v3 S = some r) : mr X 1 mY_X11_shown 0 (lv_args 0 [.ref 145, .int v1, .int v2, .int v3]) [] (MM RR S) (some (.int r), MM RR S) := by
  unfold f_X11_shown at h
  show mr X _ _ 0 [(0, .ref 145), (1, .int v1), (2, .int v2), (3, .int v3)] [] (MM RR S) _
  refine mr_aload_n (pc' := 1) dX11_shown_0 rfl rfl ?_
  refine mr_iload_n (pc' := 2) dX11_shown_1 rfl rfl ?_
  obtain ⟨q1, g2, h3⟩ := Option.bind_eq_some_iff.mp h
  refine mr_cv (pc' := 5) (a := 145) (d1 := 0) dX11_shown_2 rfl rfl rfl rfl rfl rfl (by decide) rfl (by decide) (ok_X11_isFloor hR  g2) ?_
  show mr X _ _ 5 _ [.int q1] (MM RR S) _
  by_cases c4 : q1 = (0 : Int32)
  · rw [if_pos c4] at h3
    refine mr_if_eq_t (t := 30) dX11_shown_5 (by decide) c4 ?_
    refine mr_iconst (pc' := 31) (v := (-1 : Int32)) dX11_shown_30 rfl (by decide) ?_
    obtain rfl := Option.some.inj h3
    exact mr_ireturn dX11_shown_31 rfl
  · rw [if_neg c4] at h3
    refine mr_if_eq_f (t := 30) (pc' := 8) dX11_shown_5 (by decide) rfl c4 ?_
    refine mr_iload_n (pc' := 9) dX11_shown_8 rfl rfl ?_
    refine mr_i2l (pc' := 10) dX11_shown_9 rfl ?_
    refine mr_lconst (pc' := 11) (v := (0 : Int64)) dX11_shown_10 rfl (by decide) ?_
    refine mr_ldc2 (pc' := 14) (v := (9999 : Int64)) dX11_shown_11 rfl rfl ?_
    obtain ⟨q5, g6, h7⟩ := Option.bind_eq_some_iff.mp h3
    refine mr_cs (pc' := 17) (d1 := 0) dX11_shown_14 rfl rfl rfl rfl (by decide) (Nat.le_of_ble_eq_true rfl) rfl rfl rfl (by decide) (ok_X11_in hR  g6) ?_
    show mr X _ _ 17 _ [.int q5] (MM RR S) _
    by_cases c8 : q5 = (0 : Int32)
    · rw [if_pos c8] at h7
      refine mr_if_eq_t (t := 30) dX11_shown_17 (by decide) c8 ?_
      refine mr_iconst (pc' := 31) (v := (-1 : Int32)) dX11_shown_30 rfl (by decide) ?_
      obtain rfl := Option.some.inj h7
      exact mr_ireturn dX11_shown_31 rfl
    · rw [if_neg c8] at h7
      refine mr_if_eq_f (t := 30) (pc' := 20) dX11_shown_17 (by decide) rfl c8 ?_
      refine mr_iload_n (pc' := 21) dX11_shown_20 rfl rfl ?_
      refine mr_i2l (pc' := 22) dX11_shown_21 rfl ?_
      refine mr_lconst (pc' := 23) (v := (0 : Int64)) dX11_shown_22 rfl (by decide) ?_
      refine mr_lconst (pc' := 24) (v := (1 : Int64)) dX11_shown_23 rfl (by decide) ?_
      obtain ⟨q9, g10, h11⟩ := Option.bind_eq_some_iff.mp h7
      refine mr_cs (pc' := 27) (d1 := 0) dX11_shown_24 rfl rfl rfl rfl (by decide) (Nat.le_of_ble_eq_true rfl) rfl rfl rfl (by decide) (ok_X11_in hR  g10) ?_
      show mr X _ _ 27 _ [.int q9] (MM RR S) _
      by_cases c12 : q9 = (0 : Int32)
      · rw [if_pos c12] at h11
        refine mr_if_ne_f (t := 32) (pc' := 30) dX11_shown_27 (by decide) rfl (not_not_intro c12) ?_
        refine mr_iconst (pc' := 31) (v := (-1 : Int32)) dX11_shown_30 rfl (by decide) ?_
        obtain rfl := Option.some.inj h11
        exact mr_ireturn dX11_shown_31 rfl
      · rw [if_neg c12] at h11
        refine mr_if_ne_t (t := 32) dX11_shown_27 (by decide) c12 ?_
        refine mr_iload_n (pc' := 33) dX11_shown_32 rfl rfl ?_
        refine mr_aload_n (pc' := 34) dX11_shown_33 rfl rfl ?_
        refine mr_getR (pc' := 37) (ci := 11) (j := 25) (b := 157) hR dX11_shown_34 rfl rfl rfl (by decide) (by decide) (by decide) rfl rfl ?_
        refine mr_bipush (pc' := 39) (v := (10 : Int32)) dX11_shown_37 rfl (by decide) ?_
        refine mr_iconst (pc' := 40) (v := (2 : Int32)) dX11_shown_39 rfl (by decide) ?_
        refine mr_iload_n (pc' := 41) dX11_shown_40 rfl rfl ?_
        refine mr_imul (pc' := 42) dX11_shown_41 rfl ?_
        refine mr_iadd (pc' := 43) dX11_shown_42 rfl ?_
        obtain ⟨a13, g14, h15⟩ := Option.bind_eq_some_iff.mp h11
        refine mr_iald (pc' := 44) dX11_shown_43 rfl rfl rfl g14 ?_
        refine mr_imul (pc' := 45) dX11_shown_44 rfl ?_
        refine mr_aload_n (pc' := 46) dX11_shown_45 rfl rfl ?_
        refine mr_getR (pc' := 49) (ci := 11) (j := 25) (b := 157) hR dX11_shown_46 rfl rfl rfl (by decide) (by decide) (by decide) rfl rfl ?_
        refine mr_bipush (pc' := 51) (v := (10 : Int32)) dX11_shown_49 rfl (by decide) ?_
        refine mr_iconst (pc' := 52) (v := (2 : Int32)) dX11_shown_51 rfl (by decide) ?_
        refine mr_iload_n (pc' := 53) dX11_shown_52 rfl rfl ?_
        refine mr_imul (pc' := 54) dX11_shown_53 rfl ?_
        refine mr_iadd (pc' := 55) dX11_shown_54 rfl ?_
        refine mr_iconst (pc' := 56) (v := (1 : Int32)) dX11_shown_55 rfl (by decide) ?_
        refine mr_iadd (pc' := 57) dX11_shown_56 rfl ?_
        obtain ⟨a16, g17, h18⟩ := Option.bind_eq_some_iff.mp h15
        refine mr_iald (pc' := 58) dX11_shown_57 rfl rfl rfl g17 ?_
        obtain ⟨a19, g20, h21⟩ := Option.bind_eq_some_iff.mp h18
        refine mr_idiv (pc' := 59) dX11_shown_58 rfl g20 ?_
        refine mr_istore (pc' := 61) (lv' := [(4, .int a19), (0, .ref 145), (1, .int v1), (2, .int v2), (3, .int v3)]) dX11_shown_59 rfl (by decide) rfl ?_
        refine mr_iload_n (pc' := 62) dX11_shown_61 rfl rfl ?_
        by_cases c22 : v3 = (0 : Int32)
        · rw [if_pos c22] at h21
          refine mr_if_ne_f (t := 73) (pc' := 65) dX11_shown_62 (by decide) rfl (not_not_intro c22) ?_
          refine mr_iload (pc' := 67) dX11_shown_65 rfl rfl ?_
          refine mr_bipush (pc' := 69) (v := (24 : Int32)) dX11_shown_67 rfl (by decide) ?_
          obtain ⟨a26, g27, h28⟩ := Option.bind_eq_some_iff.mp h21
          refine mr_idiv (pc' := 70) dX11_shown_69 rfl g27 ?_
          refine mr_goto (t := 78) dX11_shown_70 (by decide) ?_
          obtain rfl := Option.some.inj h28
          exact mr_ireturn dX11_shown_78 rfl
        · rw [if_neg c22] at h21
          refine mr_if_ne_t (t := 73) dX11_shown_62 (by decide) c22 ?_
          refine mr_iload (pc' := 75) dX11_shown_73 rfl rfl ?_
          refine mr_bipush (pc' := 77) (v := (24 : Int32)) dX11_shown_75 rfl (by decide) ?_
          obtain ⟨a23, g24, h25⟩ := Option.bind_eq_some_iff.mp h21
          refine mr_irem (pc' := 78) dX11_shown_77 rfl g24 ?_
          obtain rfl := Option.some.inj h25
          exact mr_ireturn dX11_shown_78 rfl
def f_X11_noonsTill (v0 : Int32) (v1 : Int32) (S : fS) : Option (Int32) :=
  if ((12 : Int32) * v1) ≤ v0 then ((dI (v0 - ((12 : Int32) * v1)) ((24 : Int32) * v1)).bind fun a2 =>
  some (a2 + (1 : Int32))) else
  (some (0 : Int32))
set_option maxHeartbeats 4000000 in
set_option maxRecDepth 100000 in
theorem ok_X11_noonsTill {X : mm_C} {RR : Nat → Nat → Option Nat} (hR : RRok RR) {v0 : Int32} {v1 : Int32}  {S : fS} {r : Int32} (h : f_X11_noonsTill v0 v1 S = some r) : mr X 0 mY_X11_noonsTill 0 (lv_args 0 [.int v0, .int v1]) [] (MM RR S) (some (.int r), MM RR S) := by
  unfold f_X11_noonsTill at h
  show mr X _ _ 0 [(0, .int v0), (1, .int v1)] [] (MM RR S) _
  refine mr_iload_n (pc' := 1) dX11_noonsTill_0 rfl rfl ?_
  refine mr_bipush (pc' := 3) (v := (12 : Int32)) dX11_noonsTill_1 rfl (by decide) ?_
  refine mr_iload_n (pc' := 4) dX11_noonsTill_3 rfl rfl ?_
  refine mr_imul (pc' := 5) dX11_noonsTill_4 rfl ?_
  by_cases c1 : ((12 : Int32) * v1) ≤ v0
  · rw [if_pos c1] at h
    refine mr_icmp_ge_t (t := 12) dX11_noonsTill_5 (by decide) c1 ?_
    refine mr_iload_n (pc' := 13) dX11_noonsTill_12 rfl rfl ?_
    refine mr_bipush (pc' := 15) (v := (12 : Int32)) dX11_noonsTill_13 rfl (by decide) ?_
    refine mr_iload_n (pc' := 16) dX11_noonsTill_15 rfl rfl ?_
    refine mr_imul (pc' := 17) dX11_noonsTill_16 rfl ?_
    refine mr_isub (pc' := 18) dX11_noonsTill_17 rfl ?_
    refine mr_bipush (pc' := 20) (v := (24 : Int32)) dX11_noonsTill_18 rfl (by decide) ?_
    refine mr_iload_n (pc' := 21) dX11_noonsTill_20 rfl rfl ?_
    refine mr_imul (pc' := 22) dX11_noonsTill_21 rfl ?_
    obtain ⟨a2, g3, h4⟩ := Option.bind_eq_some_iff.mp h
    refine mr_idiv (pc' := 23) dX11_noonsTill_22 rfl g3 ?_
    refine mr_iconst (pc' := 24) (v := (1 : Int32)) dX11_noonsTill_23 rfl (by decide) ?_
    refine mr_iadd (pc' := 25) dX11_noonsTill_24 rfl ?_
    obtain rfl := Option.some.inj h4
    exact mr_ireturn dX11_noonsTill_25 rfl
  · rw [if_neg c1] at h
    refine mr_icmp_ge_f (t := 12) (pc' := 8) dX11_noonsTill_5 (by decide) rfl c1 ?_
    refine mr_iconst (pc' := 9) (v := (0 : Int32)) dX11_noonsTill_8 rfl (by decide) ?_
    refine mr_goto (t := 25) dX11_noonsTill_9 (by decide) ?_
    obtain rfl := Option.some.inj h
    exact mr_ireturn dX11_noonsTill_25 rfl
def f_X11_noonsIn (v1 : Int32) (v2 : Int32) (v3 : Int32) (S : fS) : Option (Int32) :=
  (f_X11_isFloor v1 S).bind fun q1 =>
  if q1 = (0 : Int32) then (some (-1 : Int32)) else
  ((f_X11_in (Int32.toInt64 v2) (0 : Int64) (9999 : Int64) S).bind fun q5 =>
  if q5 = (0 : Int32) then (some (-1 : Int32)) else
  ((f_X11_in (Int32.toInt64 v3) (Int32.toInt64 v2) (9999 : Int64) S).bind fun q9 =>
  if q9 = (0 : Int32) then (some (-1 : Int32)) else
  ((gI S 157 158 ((10 : Int32) + ((2 : Int32) * v1))).bind fun a13 =>
  (gI S 157 158 (((10 : Int32) + ((2 : Int32) * v1)) + (1 : Int32))).bind fun a16 =>
  (f_X11_noonsTill (v3 * a13) a16 S).bind fun q19 =>
  (f_X11_noonsTill ((v2 * a13) - (1 : Int32)) a16 S).bind fun q22 =>
  some (q19 - q22))))
set_option maxHeartbeats 4000000 in
set_option maxRecDepth 100000 in
theorem ok_X11_noonsIn {X : mm_C} {RR : Nat → Nat → Option Nat} (hR : RRok RR) {v1 : Int32} {v2 : Int32} {v3 : Int32}  {S : fS} {r : Int32} (h : f_X11_noonsIn v1 v2 v3 S = some r) : mr X 1 mY_X11_noonsIn 0 (lv_args 0 [.ref 145, .int v1, .int v2, .int v3]) [] (MM RR S) (some (.int r), MM RR S) := by
  unfold f_X11_noonsIn at h
  show mr X _ _ 0 [(0, .ref 145), (1, .int v1), (2, .int v2), (3, .int v3)] [] (MM RR S) _
  refine mr_aload_n (pc' := 1) dX11_noonsIn_0 rfl rfl ?_
  refine mr_iload_n (pc' := 2) dX11_noonsIn_1 rfl rfl ?_
  obtain ⟨q1, g2, h3⟩ := Option.bind_eq_some_iff.mp h
  refine mr_cv (pc' := 5) (a := 145) (d1 := 0) dX11_noonsIn_2 rfl rfl rfl rfl rfl rfl (by decide) rfl (by decide) (ok_X11_isFloor hR  g2) ?_
  show mr X _ _ 5 _ [.int q1] (MM RR S) _
  by_cases c4 : q1 = (0 : Int32)
  · rw [if_pos c4] at h3
    refine mr_if_eq_t (t := 33) dX11_noonsIn_5 (by decide) c4 ?_
    refine mr_iconst (pc' := 34) (v := (-1 : Int32)) dX11_noonsIn_33 rfl (by decide) ?_
    obtain rfl := Option.some.inj h3
    exact mr_ireturn dX11_noonsIn_34 rfl
  · rw [if_neg c4] at h3
    refine mr_if_eq_f (t := 33) (pc' := 8) dX11_noonsIn_5 (by decide) rfl c4 ?_
    refine mr_iload_n (pc' := 9) dX11_noonsIn_8 rfl rfl ?_
    refine mr_i2l (pc' := 10) dX11_noonsIn_9 rfl ?_
    refine mr_lconst (pc' := 11) (v := (0 : Int64)) dX11_noonsIn_10 rfl (by decide) ?_
    refine mr_ldc2 (pc' := 14) (v := (9999 : Int64)) dX11_noonsIn_11 rfl rfl ?_
    obtain ⟨q5, g6, h7⟩ := Option.bind_eq_some_iff.mp h3
    refine mr_cs (pc' := 17) (d1 := 0) dX11_noonsIn_14 rfl rfl rfl rfl (by decide) (Nat.le_of_ble_eq_true rfl) rfl rfl rfl (by decide) (ok_X11_in hR  g6) ?_
    show mr X _ _ 17 _ [.int q5] (MM RR S) _
    by_cases c8 : q5 = (0 : Int32)
    · rw [if_pos c8] at h7
      refine mr_if_eq_t (t := 33) dX11_noonsIn_17 (by decide) c8 ?_
      refine mr_iconst (pc' := 34) (v := (-1 : Int32)) dX11_noonsIn_33 rfl (by decide) ?_
      obtain rfl := Option.some.inj h7
      exact mr_ireturn dX11_noonsIn_34 rfl
    · rw [if_neg c8] at h7
      refine mr_if_eq_f (t := 33) (pc' := 20) dX11_noonsIn_17 (by decide) rfl c8 ?_
      refine mr_iload_n (pc' := 21) dX11_noonsIn_20 rfl rfl ?_
      refine mr_i2l (pc' := 22) dX11_noonsIn_21 rfl ?_
      refine mr_iload_n (pc' := 23) dX11_noonsIn_22 rfl rfl ?_
      refine mr_i2l (pc' := 24) dX11_noonsIn_23 rfl ?_
      refine mr_ldc2 (pc' := 27) (v := (9999 : Int64)) dX11_noonsIn_24 rfl rfl ?_
      obtain ⟨q9, g10, h11⟩ := Option.bind_eq_some_iff.mp h7
      refine mr_cs (pc' := 30) (d1 := 0) dX11_noonsIn_27 rfl rfl rfl rfl (by decide) (Nat.le_of_ble_eq_true rfl) rfl rfl rfl (by decide) (ok_X11_in hR  g10) ?_
      show mr X _ _ 30 _ [.int q9] (MM RR S) _
      by_cases c12 : q9 = (0 : Int32)
      · rw [if_pos c12] at h11
        refine mr_if_ne_f (t := 35) (pc' := 33) dX11_noonsIn_30 (by decide) rfl (not_not_intro c12) ?_
        refine mr_iconst (pc' := 34) (v := (-1 : Int32)) dX11_noonsIn_33 rfl (by decide) ?_
        obtain rfl := Option.some.inj h11
        exact mr_ireturn dX11_noonsIn_34 rfl
      · rw [if_neg c12] at h11
        refine mr_if_ne_t (t := 35) dX11_noonsIn_30 (by decide) c12 ?_
        refine mr_aload_n (pc' := 36) dX11_noonsIn_35 rfl rfl ?_
        refine mr_getR (pc' := 39) (ci := 11) (j := 25) (b := 157) hR dX11_noonsIn_36 rfl rfl rfl (by decide) (by decide) (by decide) rfl rfl ?_
        refine mr_bipush (pc' := 41) (v := (10 : Int32)) dX11_noonsIn_39 rfl (by decide) ?_
        refine mr_iconst (pc' := 42) (v := (2 : Int32)) dX11_noonsIn_41 rfl (by decide) ?_
        refine mr_iload_n (pc' := 43) dX11_noonsIn_42 rfl rfl ?_
        refine mr_imul (pc' := 44) dX11_noonsIn_43 rfl ?_
        refine mr_iadd (pc' := 45) dX11_noonsIn_44 rfl ?_
        obtain ⟨a13, g14, h15⟩ := Option.bind_eq_some_iff.mp h11
        refine mr_iald (pc' := 46) dX11_noonsIn_45 rfl rfl rfl g14 ?_
        refine mr_istore (pc' := 48) (lv' := [(4, .int a13), (0, .ref 145), (1, .int v1), (2, .int v2), (3, .int v3)]) dX11_noonsIn_46 rfl (by decide) rfl ?_
        refine mr_aload_n (pc' := 49) dX11_noonsIn_48 rfl rfl ?_
        refine mr_getR (pc' := 52) (ci := 11) (j := 25) (b := 157) hR dX11_noonsIn_49 rfl rfl rfl (by decide) (by decide) (by decide) rfl rfl ?_
        refine mr_bipush (pc' := 54) (v := (10 : Int32)) dX11_noonsIn_52 rfl (by decide) ?_
        refine mr_iconst (pc' := 55) (v := (2 : Int32)) dX11_noonsIn_54 rfl (by decide) ?_
        refine mr_iload_n (pc' := 56) dX11_noonsIn_55 rfl rfl ?_
        refine mr_imul (pc' := 57) dX11_noonsIn_56 rfl ?_
        refine mr_iadd (pc' := 58) dX11_noonsIn_57 rfl ?_
        refine mr_iconst (pc' := 59) (v := (1 : Int32)) dX11_noonsIn_58 rfl (by decide) ?_
        refine mr_iadd (pc' := 60) dX11_noonsIn_59 rfl ?_
        obtain ⟨a16, g17, h18⟩ := Option.bind_eq_some_iff.mp h15
        refine mr_iald (pc' := 61) dX11_noonsIn_60 rfl rfl rfl g17 ?_
        refine mr_istore (pc' := 63) (lv' := [(5, .int a16), (4, .int a13), (0, .ref 145), (1, .int v1), (2, .int v2), (3, .int v3)]) dX11_noonsIn_61 rfl (by decide) rfl ?_
        refine mr_iload_n (pc' := 64) dX11_noonsIn_63 rfl rfl ?_
        refine mr_iload (pc' := 66) dX11_noonsIn_64 rfl rfl ?_
        refine mr_imul (pc' := 67) dX11_noonsIn_66 rfl ?_
        refine mr_iload (pc' := 69) dX11_noonsIn_67 rfl rfl ?_
        obtain ⟨q19, g20, h21⟩ := Option.bind_eq_some_iff.mp h18
        refine mr_cs (pc' := 72) (d1 := 0) dX11_noonsIn_69 rfl rfl rfl rfl (by decide) (Nat.le_of_ble_eq_true rfl) rfl rfl rfl (by decide) (ok_X11_noonsTill hR  g20) ?_
        show mr X _ _ 72 _ [.int q19] (MM RR S) _
        refine mr_iload_n (pc' := 73) dX11_noonsIn_72 rfl rfl ?_
        refine mr_iload (pc' := 75) dX11_noonsIn_73 rfl rfl ?_
        refine mr_imul (pc' := 76) dX11_noonsIn_75 rfl ?_
        refine mr_iconst (pc' := 77) (v := (1 : Int32)) dX11_noonsIn_76 rfl (by decide) ?_
        refine mr_isub (pc' := 78) dX11_noonsIn_77 rfl ?_
        refine mr_iload (pc' := 80) dX11_noonsIn_78 rfl rfl ?_
        obtain ⟨q22, g23, h24⟩ := Option.bind_eq_some_iff.mp h21
        refine mr_cs (pc' := 83) (d1 := 0) dX11_noonsIn_80 rfl rfl rfl rfl (by decide) (Nat.le_of_ble_eq_true rfl) rfl rfl rfl (by decide) (ok_X11_noonsTill hR  g23) ?_
        show mr X _ _ 83 _ [.int q22, .int q19] (MM RR S) _
        refine mr_isub (pc' := 84) dX11_noonsIn_83 rfl ?_
        obtain rfl := Option.some.inj h24
        exact mr_ireturn dX11_noonsIn_84 rfl
def f_X11_due (v1 : Int32) (v2 : Int32) (S : fS) : Option (Int32) :=
  (f_X11_isFloor v1 S).bind fun q1 =>
  if q1 = (0 : Int32) then (some (-1 : Int32)) else
  ((f_X11_in (Int32.toInt64 v2) (0 : Int64) (9999 : Int64) S).bind fun q5 =>
  if q5 = (0 : Int32) then (some (-1 : Int32)) else
  ((gI S 157 158 ((10 : Int32) + ((2 : Int32) * v1))).bind fun a9 =>
  (gI S 157 158 (((10 : Int32) + ((2 : Int32) * v1)) + (1 : Int32))).bind fun a12 =>
  (dI (((((24 : Int32) * v2) * a12) + a9) - (1 : Int32)) a9).bind fun a15 =>
  some a15))
set_option maxHeartbeats 4000000 in
set_option maxRecDepth 100000 in
theorem ok_X11_due {X : mm_C} {RR : Nat → Nat → Option Nat} (hR : RRok RR) {v1 : Int32} {v2 : Int32}  {S : fS} {r : Int32} (h : f_X11_due v1 v2 S = some r) : mr X 1 mY_X11_due 0 (lv_args 0 [.ref 145, .int v1, .int v2]) [] (MM RR S) (some (.int r), MM RR S) := by
  unfold f_X11_due at h
  show mr X _ _ 0 [(0, .ref 145), (1, .int v1), (2, .int v2)] [] (MM RR S) _
  refine mr_aload_n (pc' := 1) dX11_due_0 rfl rfl ?_
  refine mr_iload_n (pc' := 2) dX11_due_1 rfl rfl ?_
  obtain ⟨q1, g2, h3⟩ := Option.bind_eq_some_iff.mp h
  refine mr_cv (pc' := 5) (a := 145) (d1 := 0) dX11_due_2 rfl rfl rfl rfl rfl rfl (by decide) rfl (by decide) (ok_X11_isFloor hR  g2) ?_
  show mr X _ _ 5 _ [.int q1] (MM RR S) _
  by_cases c4 : q1 = (0 : Int32)
  · rw [if_pos c4] at h3
    refine mr_if_eq_t (t := 20) dX11_due_5 (by decide) c4 ?_
    refine mr_iconst (pc' := 21) (v := (-1 : Int32)) dX11_due_20 rfl (by decide) ?_
    obtain rfl := Option.some.inj h3
    exact mr_ireturn dX11_due_21 rfl
  · rw [if_neg c4] at h3
    refine mr_if_eq_f (t := 20) (pc' := 8) dX11_due_5 (by decide) rfl c4 ?_
    refine mr_iload_n (pc' := 9) dX11_due_8 rfl rfl ?_
    refine mr_i2l (pc' := 10) dX11_due_9 rfl ?_
    refine mr_lconst (pc' := 11) (v := (0 : Int64)) dX11_due_10 rfl (by decide) ?_
    refine mr_ldc2 (pc' := 14) (v := (9999 : Int64)) dX11_due_11 rfl rfl ?_
    obtain ⟨q5, g6, h7⟩ := Option.bind_eq_some_iff.mp h3
    refine mr_cs (pc' := 17) (d1 := 0) dX11_due_14 rfl rfl rfl rfl (by decide) (Nat.le_of_ble_eq_true rfl) rfl rfl rfl (by decide) (ok_X11_in hR  g6) ?_
    show mr X _ _ 17 _ [.int q5] (MM RR S) _
    by_cases c8 : q5 = (0 : Int32)
    · rw [if_pos c8] at h7
      refine mr_if_ne_f (t := 22) (pc' := 20) dX11_due_17 (by decide) rfl (not_not_intro c8) ?_
      refine mr_iconst (pc' := 21) (v := (-1 : Int32)) dX11_due_20 rfl (by decide) ?_
      obtain rfl := Option.some.inj h7
      exact mr_ireturn dX11_due_21 rfl
    · rw [if_neg c8] at h7
      refine mr_if_ne_t (t := 22) dX11_due_17 (by decide) c8 ?_
      refine mr_aload_n (pc' := 23) dX11_due_22 rfl rfl ?_
      refine mr_getR (pc' := 26) (ci := 11) (j := 25) (b := 157) hR dX11_due_23 rfl rfl rfl (by decide) (by decide) (by decide) rfl rfl ?_
      refine mr_bipush (pc' := 28) (v := (10 : Int32)) dX11_due_26 rfl (by decide) ?_
      refine mr_iconst (pc' := 29) (v := (2 : Int32)) dX11_due_28 rfl (by decide) ?_
      refine mr_iload_n (pc' := 30) dX11_due_29 rfl rfl ?_
      refine mr_imul (pc' := 31) dX11_due_30 rfl ?_
      refine mr_iadd (pc' := 32) dX11_due_31 rfl ?_
      obtain ⟨a9, g10, h11⟩ := Option.bind_eq_some_iff.mp h7
      refine mr_iald (pc' := 33) dX11_due_32 rfl rfl rfl g10 ?_
      refine mr_istore_n (pc' := 34) (lv' := [(3, .int a9), (0, .ref 145), (1, .int v1), (2, .int v2)]) dX11_due_33 rfl (by decide) rfl ?_
      refine mr_bipush (pc' := 36) (v := (24 : Int32)) dX11_due_34 rfl (by decide) ?_
      refine mr_iload_n (pc' := 37) dX11_due_36 rfl rfl ?_
      refine mr_imul (pc' := 38) dX11_due_37 rfl ?_
      refine mr_aload_n (pc' := 39) dX11_due_38 rfl rfl ?_
      refine mr_getR (pc' := 42) (ci := 11) (j := 25) (b := 157) hR dX11_due_39 rfl rfl rfl (by decide) (by decide) (by decide) rfl rfl ?_
      refine mr_bipush (pc' := 44) (v := (10 : Int32)) dX11_due_42 rfl (by decide) ?_
      refine mr_iconst (pc' := 45) (v := (2 : Int32)) dX11_due_44 rfl (by decide) ?_
      refine mr_iload_n (pc' := 46) dX11_due_45 rfl rfl ?_
      refine mr_imul (pc' := 47) dX11_due_46 rfl ?_
      refine mr_iadd (pc' := 48) dX11_due_47 rfl ?_
      refine mr_iconst (pc' := 49) (v := (1 : Int32)) dX11_due_48 rfl (by decide) ?_
      refine mr_iadd (pc' := 50) dX11_due_49 rfl ?_
      obtain ⟨a12, g13, h14⟩ := Option.bind_eq_some_iff.mp h11
      refine mr_iald (pc' := 51) dX11_due_50 rfl rfl rfl g13 ?_
      refine mr_imul (pc' := 52) dX11_due_51 rfl ?_
      refine mr_iload_n (pc' := 53) dX11_due_52 rfl rfl ?_
      refine mr_iadd (pc' := 54) dX11_due_53 rfl ?_
      refine mr_iconst (pc' := 55) (v := (1 : Int32)) dX11_due_54 rfl (by decide) ?_
      refine mr_isub (pc' := 56) dX11_due_55 rfl ?_
      refine mr_iload_n (pc' := 57) dX11_due_56 rfl rfl ?_
      obtain ⟨a15, g16, h17⟩ := Option.bind_eq_some_iff.mp h14
      refine mr_idiv (pc' := 58) dX11_due_57 rfl g16 ?_
      obtain rfl := Option.some.inj h17
      exact mr_ireturn dX11_due_58 rfl
def lp_X11_isSpare_2 (p1 : Int32) (K : fS → Option (Int32 × fS)) : Nat → Int32 → fS → Option (Int32 × fS)
  | 0, _, _ => none
  | n + 1, p2, S0 =>
    if (10 : Int32) ≤ p2 then (K S0) else
    ((f_X11_stairOf p1 (0 : Int32) S0).bind fun q2 =>
    if p2 = q2 then ((sI S0 163 10 p2 (vp_nar .boolean (1 : Int32))).bind fun S9 =>
    lp_X11_isSpare_2 p1 K n (p2 + (1 : Int32)) S9) else
    ((sI S0 163 10 p2 (vp_nar .boolean (0 : Int32))).bind fun S6 =>
    lp_X11_isSpare_2 p1 K n (p2 + (1 : Int32)) S6))
set_option maxHeartbeats 4000000 in
set_option maxRecDepth 100000 in
theorem ok_lp_X11_isSpare_2 {X : mm_C} {RR : Nat → Nat → Option Nat} (hR : RRok RR) {p1 : Int32}  {K : fS → Option (Int32 × fS)} {r : Int32 × fS} (hK : ∀ (Sk : fS), K Sk = some r → mr X 1 mY_X11_isSpare 35 [(0, .ref 145), (1, .int p1)] [] (MM RR Sk) (some (.int r.1), MM RR r.2)) : ∀ (n : Nat) (p2 : Int32) (S0 : fS), lp_X11_isSpare_2 p1 K n p2 S0 = some r → mr X 1 mY_X11_isSpare 2 [(0, .ref 145), (1, .int p1), (2, .int p2)] [] (MM RR S0) (some (.int r.1), MM RR r.2) := by
  intro n
  induction n with
  | zero => intro p2 S0 h; exact mm_no h
  | succ n ih =>
    intro p2 S0 h
    unfold lp_X11_isSpare_2 at h
    refine mr_iload_n (pc' := 3) dX11_isSpare_2 rfl rfl ?_
    refine mr_bipush (pc' := 5) (v := (10 : Int32)) dX11_isSpare_3 rfl (by decide) ?_
    by_cases c1 : (10 : Int32) ≤ p2
    · rw [if_pos c1] at h
      refine mr_icmp_ge_t (t := 35) dX11_isSpare_5 (by decide) c1 ?_
      exact mr_sub [(0, .ref 145), (1, .int p1)] ⟨rfl, rfl, trivial⟩ rfl (hK _  h)
    · rw [if_neg c1] at h
      refine mr_icmp_ge_f (t := 35) (pc' := 8) dX11_isSpare_5 (by decide) rfl c1 ?_
      refine mr_aload_n (pc' := 9) dX11_isSpare_8 rfl rfl ?_
      refine mr_getR (pc' := 12) (ci := 11) (j := 31) (b := 163) hR dX11_isSpare_9 rfl rfl rfl (by decide) (by decide) (by decide) rfl rfl ?_
      refine mr_iload_n (pc' := 13) dX11_isSpare_12 rfl rfl ?_
      refine mr_iload_n (pc' := 14) dX11_isSpare_13 rfl rfl ?_
      refine mr_aload_n (pc' := 15) dX11_isSpare_14 rfl rfl ?_
      refine mr_iload_n (pc' := 16) dX11_isSpare_15 rfl rfl ?_
      refine mr_iconst (pc' := 17) (v := (0 : Int32)) dX11_isSpare_16 rfl (by decide) ?_
      obtain ⟨q2, g3, h4⟩ := Option.bind_eq_some_iff.mp h
      refine mr_cv (pc' := 20) (a := 145) (d1 := 0) dX11_isSpare_17 rfl rfl rfl rfl rfl rfl (by decide) rfl (by decide) (ok_X11_stairOf hR  g3) ?_
      show mr X _ _ 20 _ [.int q2, .int p2, .int p2, .ref 163] (MM RR S0) _
      by_cases c5 : p2 = q2
      · rw [if_pos c5] at h4
        refine mr_icmp_ne_f (t := 27) (pc' := 23) dX11_isSpare_20 (by decide) rfl (not_not_intro c5) ?_
        refine mr_iconst (pc' := 24) (v := (1 : Int32)) dX11_isSpare_23 rfl (by decide) ?_
        refine mr_goto (t := 28) dX11_isSpare_24 (by decide) ?_
        obtain ⟨S9, g10, h11⟩ := Option.bind_eq_some_iff.mp h4
        refine mr_zast (pc' := 29) dX11_isSpare_28 rfl rfl rfl g10 ?_
        refine mr_iinc (pc' := 32) (x' := (p2 + (1 : Int32))) (lv' := [(2, .int (p2 + (1 : Int32))), (0, .ref 145), (1, .int p1)]) dX11_isSpare_29 rfl (by decide) rfl rfl rfl ?_
        refine mr_goto (t := 2) dX11_isSpare_32 (by decide) ?_
        exact mr_sub [(0, .ref 145), (1, .int p1), (2, .int (p2 + (1 : Int32)))] ⟨rfl, rfl, rfl, trivial⟩ rfl (ih _ _  h11)
      · rw [if_neg c5] at h4
        refine mr_icmp_ne_t (t := 27) dX11_isSpare_20 (by decide) c5 ?_
        refine mr_iconst (pc' := 28) (v := (0 : Int32)) dX11_isSpare_27 rfl (by decide) ?_
        obtain ⟨S6, g7, h8⟩ := Option.bind_eq_some_iff.mp h4
        refine mr_zast (pc' := 29) dX11_isSpare_28 rfl rfl rfl g7 ?_
        refine mr_iinc (pc' := 32) (x' := (p2 + (1 : Int32))) (lv' := [(2, .int (p2 + (1 : Int32))), (0, .ref 145), (1, .int p1)]) dX11_isSpare_29 rfl (by decide) rfl rfl rfl ?_
        refine mr_goto (t := 2) dX11_isSpare_32 (by decide) ?_
        exact mr_sub [(0, .ref 145), (1, .int p1), (2, .int (p2 + (1 : Int32)))] ⟨rfl, rfl, rfl, trivial⟩ rfl (ih _ _  h8)
def lp_X11_isSpare_45 (p1 : Int32) (p2 : Int32) (K : fS → Option (Int32 × fS)) : Nat → Int32 → fS → Option (Int32 × fS)
  | 0, _, _ => none
  | n + 1, p3, S0 =>
    (gI S0 157 158 (1 : Int32)).bind fun a15 =>
    if a15 ≤ p3 then (K S0) else
    (if p3 = p1 then (lp_X11_isSpare_45 p1 p2 K n (p3 + (1 : Int32)) S0) else
    ((f_X11_stairOf p3 (0 : Int32) S0).bind fun q20 =>
    (gI S0 163 10 q20).bind fun a23 =>
    if a23 = (0 : Int32) then ((f_X11_stairOf p3 (1 : Int32) S0).bind fun q39 =>
    (gI S0 163 10 q39).bind fun a42 =>
    if a42 = (0 : Int32) then (lp_X11_isSpare_45 p1 p2 K n (p3 + (1 : Int32)) S0) else
    ((f_X11_stairOf p3 (0 : Int32) S0).bind fun q46 =>
    (sI S0 163 10 q46 (vp_nar .boolean (1 : Int32))).bind fun S49 =>
    (f_X11_stairOf p3 (1 : Int32) S49).bind fun q52 =>
    (sI S49 163 10 q52 (vp_nar .boolean (1 : Int32))).bind fun S55 =>
    lp_X11_isSpare_45 p1 p2 K n (p3 + (1 : Int32)) S55)) else
    ((f_X11_stairOf p3 (0 : Int32) S0).bind fun q27 =>
    (sI S0 163 10 q27 (vp_nar .boolean (1 : Int32))).bind fun S30 =>
    (f_X11_stairOf p3 (1 : Int32) S30).bind fun q33 =>
    (sI S30 163 10 q33 (vp_nar .boolean (1 : Int32))).bind fun S36 =>
    lp_X11_isSpare_45 p1 p2 K n (p3 + (1 : Int32)) S36)))
set_option maxHeartbeats 4000000 in
set_option maxRecDepth 100000 in
theorem ok_lp_X11_isSpare_45 {X : mm_C} {RR : Nat → Nat → Option Nat} (hR : RRok RR) {p1 : Int32} {p2 : Int32}  {K : fS → Option (Int32 × fS)} {r : Int32 × fS} (hK : ∀ (Sk : fS), K Sk = some r → mr X 1 mY_X11_isSpare 121 [(0, .ref 145), (1, .int p1), (2, .int p2)] [] (MM RR Sk) (some (.int r.1), MM RR r.2)) : ∀ (n : Nat) (p3 : Int32) (S0 : fS), lp_X11_isSpare_45 p1 p2 K n p3 S0 = some r → mr X 1 mY_X11_isSpare 45 [(0, .ref 145), (1, .int p1), (2, .int p2), (3, .int p3)] [] (MM RR S0) (some (.int r.1), MM RR r.2) := by
  intro n
  induction n with
  | zero => intro p3 S0 h; exact mm_no h
  | succ n ih =>
    intro p3 S0 h
    unfold lp_X11_isSpare_45 at h
    refine mr_iload_n (pc' := 46) dX11_isSpare_45 rfl rfl ?_
    refine mr_aload_n (pc' := 47) dX11_isSpare_46 rfl rfl ?_
    refine mr_getR (pc' := 50) (ci := 11) (j := 25) (b := 157) hR dX11_isSpare_47 rfl rfl rfl (by decide) (by decide) (by decide) rfl rfl ?_
    refine mr_iconst (pc' := 51) (v := (1 : Int32)) dX11_isSpare_50 rfl (by decide) ?_
    obtain ⟨a15, g16, h17⟩ := Option.bind_eq_some_iff.mp h
    refine mr_iald (pc' := 52) dX11_isSpare_51 rfl rfl rfl g16 ?_
    by_cases c18 : a15 ≤ p3
    · rw [if_pos c18] at h17
      refine mr_icmp_ge_t (t := 121) dX11_isSpare_52 (by decide) c18 ?_
      exact mr_sub [(0, .ref 145), (1, .int p1), (2, .int p2)] ⟨rfl, rfl, rfl, trivial⟩ rfl (hK _  h17)
    · rw [if_neg c18] at h17
      refine mr_icmp_ge_f (t := 121) (pc' := 55) dX11_isSpare_52 (by decide) rfl c18 ?_
      refine mr_iload_n (pc' := 56) dX11_isSpare_55 rfl rfl ?_
      refine mr_iload_n (pc' := 57) dX11_isSpare_56 rfl rfl ?_
      by_cases c19 : p3 = p1
      · rw [if_pos c19] at h17
        refine mr_icmp_eq_t (t := 115) dX11_isSpare_57 (by decide) c19 ?_
        refine mr_iinc (pc' := 118) (x' := (p3 + (1 : Int32))) (lv' := [(3, .int (p3 + (1 : Int32))), (0, .ref 145), (1, .int p1), (2, .int p2)]) dX11_isSpare_115 rfl (by decide) rfl rfl rfl ?_
        refine mr_goto (t := 45) dX11_isSpare_118 (by decide) ?_
        exact mr_sub [(0, .ref 145), (1, .int p1), (2, .int p2), (3, .int (p3 + (1 : Int32)))] ⟨rfl, rfl, rfl, rfl, trivial⟩ rfl (ih _ _  h17)
      · rw [if_neg c19] at h17
        refine mr_icmp_eq_f (t := 115) (pc' := 60) dX11_isSpare_57 (by decide) rfl c19 ?_
        refine mr_aload_n (pc' := 61) dX11_isSpare_60 rfl rfl ?_
        refine mr_getR (pc' := 64) (ci := 11) (j := 31) (b := 163) hR dX11_isSpare_61 rfl rfl rfl (by decide) (by decide) (by decide) rfl rfl ?_
        refine mr_aload_n (pc' := 65) dX11_isSpare_64 rfl rfl ?_
        refine mr_iload_n (pc' := 66) dX11_isSpare_65 rfl rfl ?_
        refine mr_iconst (pc' := 67) (v := (0 : Int32)) dX11_isSpare_66 rfl (by decide) ?_
        obtain ⟨q20, g21, h22⟩ := Option.bind_eq_some_iff.mp h17
        refine mr_cv (pc' := 70) (a := 145) (d1 := 0) dX11_isSpare_67 rfl rfl rfl rfl rfl rfl (by decide) rfl (by decide) (ok_X11_stairOf hR  g21) ?_
        show mr X _ _ 70 _ [.int q20, .ref 163] (MM RR S0) _
        obtain ⟨a23, g24, h25⟩ := Option.bind_eq_some_iff.mp h22
        refine mr_bald (pc' := 71) dX11_isSpare_70 rfl (Or.inr rfl) rfl g24 ?_
        by_cases c26 : a23 = (0 : Int32)
        · rw [if_pos c26] at h25
          refine mr_if_ne_f (t := 91) (pc' := 74) dX11_isSpare_71 (by decide) rfl (not_not_intro c26) ?_
          refine mr_aload_n (pc' := 75) dX11_isSpare_74 rfl rfl ?_
          refine mr_getR (pc' := 78) (ci := 11) (j := 31) (b := 163) hR dX11_isSpare_75 rfl rfl rfl (by decide) (by decide) (by decide) rfl rfl ?_
          refine mr_aload_n (pc' := 79) dX11_isSpare_78 rfl rfl ?_
          refine mr_iload_n (pc' := 80) dX11_isSpare_79 rfl rfl ?_
          refine mr_iconst (pc' := 81) (v := (1 : Int32)) dX11_isSpare_80 rfl (by decide) ?_
          obtain ⟨q39, g40, h41⟩ := Option.bind_eq_some_iff.mp h25
          refine mr_cv (pc' := 84) (a := 145) (d1 := 0) dX11_isSpare_81 rfl rfl rfl rfl rfl rfl (by decide) rfl (by decide) (ok_X11_stairOf hR  g40) ?_
          show mr X _ _ 84 _ [.int q39, .ref 163] (MM RR S0) _
          obtain ⟨a42, g43, h44⟩ := Option.bind_eq_some_iff.mp h41
          refine mr_bald (pc' := 85) dX11_isSpare_84 rfl (Or.inr rfl) rfl g43 ?_
          by_cases c45 : a42 = (0 : Int32)
          · rw [if_pos c45] at h44
            refine mr_if_ne_f (t := 91) (pc' := 88) dX11_isSpare_85 (by decide) rfl (not_not_intro c45) ?_
            refine mr_goto (t := 115) dX11_isSpare_88 (by decide) ?_
            refine mr_iinc (pc' := 118) (x' := (p3 + (1 : Int32))) (lv' := [(3, .int (p3 + (1 : Int32))), (0, .ref 145), (1, .int p1), (2, .int p2)]) dX11_isSpare_115 rfl (by decide) rfl rfl rfl ?_
            refine mr_goto (t := 45) dX11_isSpare_118 (by decide) ?_
            exact mr_sub [(0, .ref 145), (1, .int p1), (2, .int p2), (3, .int (p3 + (1 : Int32)))] ⟨rfl, rfl, rfl, rfl, trivial⟩ rfl (ih _ _  h44)
          · rw [if_neg c45] at h44
            refine mr_if_ne_t (t := 91) dX11_isSpare_85 (by decide) c45 ?_
            refine mr_aload_n (pc' := 92) dX11_isSpare_91 rfl rfl ?_
            refine mr_getR (pc' := 95) (ci := 11) (j := 31) (b := 163) hR dX11_isSpare_92 rfl rfl rfl (by decide) (by decide) (by decide) rfl rfl ?_
            refine mr_aload_n (pc' := 96) dX11_isSpare_95 rfl rfl ?_
            refine mr_iload_n (pc' := 97) dX11_isSpare_96 rfl rfl ?_
            refine mr_iconst (pc' := 98) (v := (0 : Int32)) dX11_isSpare_97 rfl (by decide) ?_
            obtain ⟨q46, g47, h48⟩ := Option.bind_eq_some_iff.mp h44
            refine mr_cv (pc' := 101) (a := 145) (d1 := 0) dX11_isSpare_98 rfl rfl rfl rfl rfl rfl (by decide) rfl (by decide) (ok_X11_stairOf hR  g47) ?_
            show mr X _ _ 101 _ [.int q46, .ref 163] (MM RR S0) _
            refine mr_iconst (pc' := 102) (v := (1 : Int32)) dX11_isSpare_101 rfl (by decide) ?_
            obtain ⟨S49, g50, h51⟩ := Option.bind_eq_some_iff.mp h48
            refine mr_zast (pc' := 103) dX11_isSpare_102 rfl rfl rfl g50 ?_
            refine mr_aload_n (pc' := 104) dX11_isSpare_103 rfl rfl ?_
            refine mr_getR (pc' := 107) (ci := 11) (j := 31) (b := 163) hR dX11_isSpare_104 rfl rfl rfl (by decide) (by decide) (by decide) rfl rfl ?_
            refine mr_aload_n (pc' := 108) dX11_isSpare_107 rfl rfl ?_
            refine mr_iload_n (pc' := 109) dX11_isSpare_108 rfl rfl ?_
            refine mr_iconst (pc' := 110) (v := (1 : Int32)) dX11_isSpare_109 rfl (by decide) ?_
            obtain ⟨q52, g53, h54⟩ := Option.bind_eq_some_iff.mp h51
            refine mr_cv (pc' := 113) (a := 145) (d1 := 0) dX11_isSpare_110 rfl rfl rfl rfl rfl rfl (by decide) rfl (by decide) (ok_X11_stairOf hR  g53) ?_
            show mr X _ _ 113 _ [.int q52, .ref 163] (MM RR S49) _
            refine mr_iconst (pc' := 114) (v := (1 : Int32)) dX11_isSpare_113 rfl (by decide) ?_
            obtain ⟨S55, g56, h57⟩ := Option.bind_eq_some_iff.mp h54
            refine mr_zast (pc' := 115) dX11_isSpare_114 rfl rfl rfl g56 ?_
            refine mr_iinc (pc' := 118) (x' := (p3 + (1 : Int32))) (lv' := [(3, .int (p3 + (1 : Int32))), (0, .ref 145), (1, .int p1), (2, .int p2)]) dX11_isSpare_115 rfl (by decide) rfl rfl rfl ?_
            refine mr_goto (t := 45) dX11_isSpare_118 (by decide) ?_
            exact mr_sub [(0, .ref 145), (1, .int p1), (2, .int p2), (3, .int (p3 + (1 : Int32)))] ⟨rfl, rfl, rfl, rfl, trivial⟩ rfl (ih _ _  h57)
        · rw [if_neg c26] at h25
          refine mr_if_ne_t (t := 91) dX11_isSpare_71 (by decide) c26 ?_
          refine mr_aload_n (pc' := 92) dX11_isSpare_91 rfl rfl ?_
          refine mr_getR (pc' := 95) (ci := 11) (j := 31) (b := 163) hR dX11_isSpare_92 rfl rfl rfl (by decide) (by decide) (by decide) rfl rfl ?_
          refine mr_aload_n (pc' := 96) dX11_isSpare_95 rfl rfl ?_
          refine mr_iload_n (pc' := 97) dX11_isSpare_96 rfl rfl ?_
          refine mr_iconst (pc' := 98) (v := (0 : Int32)) dX11_isSpare_97 rfl (by decide) ?_
          obtain ⟨q27, g28, h29⟩ := Option.bind_eq_some_iff.mp h25
          refine mr_cv (pc' := 101) (a := 145) (d1 := 0) dX11_isSpare_98 rfl rfl rfl rfl rfl rfl (by decide) rfl (by decide) (ok_X11_stairOf hR  g28) ?_
          show mr X _ _ 101 _ [.int q27, .ref 163] (MM RR S0) _
          refine mr_iconst (pc' := 102) (v := (1 : Int32)) dX11_isSpare_101 rfl (by decide) ?_
          obtain ⟨S30, g31, h32⟩ := Option.bind_eq_some_iff.mp h29
          refine mr_zast (pc' := 103) dX11_isSpare_102 rfl rfl rfl g31 ?_
          refine mr_aload_n (pc' := 104) dX11_isSpare_103 rfl rfl ?_
          refine mr_getR (pc' := 107) (ci := 11) (j := 31) (b := 163) hR dX11_isSpare_104 rfl rfl rfl (by decide) (by decide) (by decide) rfl rfl ?_
          refine mr_aload_n (pc' := 108) dX11_isSpare_107 rfl rfl ?_
          refine mr_iload_n (pc' := 109) dX11_isSpare_108 rfl rfl ?_
          refine mr_iconst (pc' := 110) (v := (1 : Int32)) dX11_isSpare_109 rfl (by decide) ?_
          obtain ⟨q33, g34, h35⟩ := Option.bind_eq_some_iff.mp h32
          refine mr_cv (pc' := 113) (a := 145) (d1 := 0) dX11_isSpare_110 rfl rfl rfl rfl rfl rfl (by decide) rfl (by decide) (ok_X11_stairOf hR  g34) ?_
          show mr X _ _ 113 _ [.int q33, .ref 163] (MM RR S30) _
          refine mr_iconst (pc' := 114) (v := (1 : Int32)) dX11_isSpare_113 rfl (by decide) ?_
          obtain ⟨S36, g37, h38⟩ := Option.bind_eq_some_iff.mp h35
          refine mr_zast (pc' := 115) dX11_isSpare_114 rfl rfl rfl g37 ?_
          refine mr_iinc (pc' := 118) (x' := (p3 + (1 : Int32))) (lv' := [(3, .int (p3 + (1 : Int32))), (0, .ref 145), (1, .int p1), (2, .int p2)]) dX11_isSpare_115 rfl (by decide) rfl rfl rfl ?_
          refine mr_goto (t := 45) dX11_isSpare_118 (by decide) ?_
          exact mr_sub [(0, .ref 145), (1, .int p1), (2, .int p2), (3, .int (p3 + (1 : Int32)))] ⟨rfl, rfl, rfl, rfl, trivial⟩ rfl (ih _ _  h38)
def lp_X11_isSpare_37 (p1 : Int32) (K : fS → Option (Int32 × fS)) : Nat → Int32 → fS → Option (Int32 × fS)
  | 0, _, _ => none
  | n + 1, p2, S0 =>
    if (10 : Int32) ≤ p2 then (K S0) else
    (lp_X11_isSpare_45 p1 p2 (fun S58 => lp_X11_isSpare_37 p1 K n (p2 + (1 : Int32)) S58) FU (0 : Int32) S0)
set_option maxHeartbeats 4000000 in
set_option maxRecDepth 100000 in
theorem ok_lp_X11_isSpare_37 {X : mm_C} {RR : Nat → Nat → Option Nat} (hR : RRok RR) {p1 : Int32}  {K : fS → Option (Int32 × fS)} {r : Int32 × fS} (hK : ∀ (Sk : fS), K Sk = some r → mr X 1 mY_X11_isSpare 127 [(0, .ref 145), (1, .int p1)] [] (MM RR Sk) (some (.int r.1), MM RR r.2)) : ∀ (n : Nat) (p2 : Int32) (S0 : fS), lp_X11_isSpare_37 p1 K n p2 S0 = some r → mr X 1 mY_X11_isSpare 37 [(0, .ref 145), (1, .int p1), (2, .int p2)] [] (MM RR S0) (some (.int r.1), MM RR r.2) := by
  intro n
  induction n with
  | zero => intro p2 S0 h; exact mm_no h
  | succ n ih =>
    intro p2 S0 h
    unfold lp_X11_isSpare_37 at h
    refine mr_iload_n (pc' := 38) dX11_isSpare_37 rfl rfl ?_
    refine mr_bipush (pc' := 40) (v := (10 : Int32)) dX11_isSpare_38 rfl (by decide) ?_
    by_cases c14 : (10 : Int32) ≤ p2
    · rw [if_pos c14] at h
      refine mr_icmp_ge_t (t := 127) dX11_isSpare_40 (by decide) c14 ?_
      exact mr_sub [(0, .ref 145), (1, .int p1)] ⟨rfl, rfl, trivial⟩ rfl (hK _  h)
    · rw [if_neg c14] at h
      refine mr_icmp_ge_f (t := 127) (pc' := 43) dX11_isSpare_40 (by decide) rfl c14 ?_
      refine mr_iconst (pc' := 44) (v := (0 : Int32)) dX11_isSpare_43 rfl (by decide) ?_
      refine mr_istore_n (pc' := 45) (lv' := [(3, .int (0 : Int32)), (0, .ref 145), (1, .int p1), (2, .int p2)]) dX11_isSpare_44 rfl (by decide) rfl ?_
      refine mr_sub [(0, .ref 145), (1, .int p1), (2, .int p2), (3, .int (0 : Int32))] ⟨rfl, rfl, rfl, rfl, trivial⟩ rfl ?_
      refine ok_lp_X11_isSpare_45 hR  (fun S58 h59 => ?_) FU _ _  h
      refine mr_iinc (pc' := 124) (x' := (p2 + (1 : Int32))) (lv' := [(2, .int (p2 + (1 : Int32))), (0, .ref 145), (1, .int p1)]) dX11_isSpare_121 rfl (by decide) rfl rfl rfl ?_
      refine mr_goto (t := 37) dX11_isSpare_124 (by decide) ?_
      exact mr_sub [(0, .ref 145), (1, .int p1), (2, .int (p2 + (1 : Int32)))] ⟨rfl, rfl, rfl, trivial⟩ rfl (ih _ _  h59)
def f_X11_isSpare (v1 : Int32) (S : fS) : Option (Int32 × fS) :=
  lp_X11_isSpare_2 v1 (fun S12 => lp_X11_isSpare_37 v1 (fun S60 => (f_X11_stairOf v1 (1 : Int32) S60).bind fun q62 =>
  (gI S60 163 10 q62).bind fun a65 =>
  (bZ a65).bind fun z68 => some (z68, S60)) FU (0 : Int32) S12) FU (0 : Int32) S
set_option maxHeartbeats 4000000 in
set_option maxRecDepth 100000 in
theorem ok_X11_isSpare {X : mm_C} {RR : Nat → Nat → Option Nat} (hR : RRok RR) {v1 : Int32}  {S : fS} {r : Int32 × fS} (h : f_X11_isSpare v1 S = some r) : mr X 1 mY_X11_isSpare 0 (lv_args 0 [.ref 145, .int v1]) [] (MM RR S) (some (.int r.1), MM RR r.2) := by
  unfold f_X11_isSpare at h
  show mr X _ _ 0 [(0, .ref 145), (1, .int v1)] [] (MM RR S) _
  refine mr_iconst (pc' := 1) (v := (0 : Int32)) dX11_isSpare_0 rfl (by decide) ?_
  refine mr_istore_n (pc' := 2) (lv' := [(2, .int (0 : Int32)), (0, .ref 145), (1, .int v1)]) dX11_isSpare_1 rfl (by decide) rfl ?_
  refine mr_sub [(0, .ref 145), (1, .int v1), (2, .int (0 : Int32))] ⟨rfl, rfl, rfl, trivial⟩ rfl ?_
  refine ok_lp_X11_isSpare_2 hR  (fun S12 h13 => ?_) FU _ _  h
  refine mr_iconst (pc' := 36) (v := (0 : Int32)) dX11_isSpare_35 rfl (by decide) ?_
  refine mr_istore_n (pc' := 37) (lv' := [(2, .int (0 : Int32)), (0, .ref 145), (1, .int v1)]) dX11_isSpare_36 rfl (by decide) rfl ?_
  refine mr_sub [(0, .ref 145), (1, .int v1), (2, .int (0 : Int32))] ⟨rfl, rfl, rfl, trivial⟩ rfl ?_
  refine ok_lp_X11_isSpare_37 hR  (fun S60 h61 => ?_) FU _ _  h13
  refine mr_aload_n (pc' := 128) dX11_isSpare_127 rfl rfl ?_
  refine mr_getR (pc' := 131) (ci := 11) (j := 31) (b := 163) hR dX11_isSpare_128 rfl rfl rfl (by decide) (by decide) (by decide) rfl rfl ?_
  refine mr_aload_n (pc' := 132) dX11_isSpare_131 rfl rfl ?_
  refine mr_iload_n (pc' := 133) dX11_isSpare_132 rfl rfl ?_
  refine mr_iconst (pc' := 134) (v := (1 : Int32)) dX11_isSpare_133 rfl (by decide) ?_
  obtain ⟨q62, g63, h64⟩ := Option.bind_eq_some_iff.mp h61
  refine mr_cv (pc' := 137) (a := 145) (d1 := 0) dX11_isSpare_134 rfl rfl rfl rfl rfl rfl (by decide) rfl (by decide) (ok_X11_stairOf hR  g63) ?_
  show mr X _ _ 137 _ [.int q62, .ref 163] (MM RR S60) _
  obtain ⟨a65, g66, h67⟩ := Option.bind_eq_some_iff.mp h64
  refine mr_bald (pc' := 138) dX11_isSpare_137 rfl (Or.inr rfl) rfl g66 ?_
  obtain ⟨z68, g69, h70⟩ := Option.bind_eq_some_iff.mp h67
  obtain ⟨g71, e72⟩ := mm_ifs g69
  cases e72
  cases h70
  exact mr_zreturn dX11_isSpare_138 rfl g71
