def lp_X11_bestFrom_8 (p1 : Int32) (p2 : Int32) (p3 : Int32) (p4 : Int32) (S : fS) (K : Int64 → Option (Int64)) : Nat → Int64 → Int32 → Option (Int64)
  | 0, _, _ => none
  | n + 1, p5, p7 =>
    (gI S 157 158 (1 : Int32)).bind fun a1 =>
    if a1 ≤ p7 then (K p5) else
    ((f_X11_by p1 p2 p7 p3 S).bind fun q5 =>
    if q5 < (0 : Int64) then (lp_X11_bestFrom_8 p1 p2 p3 p4 S K n p5 (p7 + (1 : Int32))) else
    ((f_X11_isBetter q5 p5 p4 S).bind fun q9 =>
    if q9 = (0 : Int32) then (lp_X11_bestFrom_8 p1 p2 p3 p4 S K n p5 (p7 + (1 : Int32))) else
    (lp_X11_bestFrom_8 p1 p2 p3 p4 S K n q5 (p7 + (1 : Int32)))))
set_option maxHeartbeats 4000000 in
set_option maxRecDepth 100000 in
theorem ok_lp_X11_bestFrom_8 {X : mm_C} {RR : Nat → Nat → Option Nat} (hR : RRok RR) {p1 : Int32} {p2 : Int32} {p3 : Int32} {p4 : Int32}  {S : fS} {K : Int64 → Option (Int64)} {r : Int64} (hK : ∀ (k5 : Int64), K k5 = some r → mr X 3 mY_X11_bestFrom 60 [(5, .long k5)] [] (MM RR S) (some (.long r), MM RR S)) : ∀ (n : Nat) (p5 : Int64) (p7 : Int32), lp_X11_bestFrom_8 p1 p2 p3 p4 S K n p5 p7 = some r → mr X 3 mY_X11_bestFrom 8 [(0, .ref 145), (1, .int p1), (2, .int p2), (3, .int p3), (4, .int p4), (5, .long p5), (7, .int p7)] [] (MM RR S) (some (.long r), MM RR S) := by
  intro n
  induction n with
  | zero => intro p5 p7 h; exact mm_no h
  | succ n ih =>
    intro p5 p7 h
    unfold lp_X11_bestFrom_8 at h
    refine mr_iload (pc' := 10) dX11_bestFrom_8 rfl rfl ?_
    refine mr_aload_n (pc' := 11) dX11_bestFrom_10 rfl rfl ?_
    refine mr_getR (pc' := 14) (ci := 11) (j := 25) (b := 157) hR dX11_bestFrom_11 rfl rfl rfl (by decide) (by decide) (by decide) rfl rfl ?_
    refine mr_iconst (pc' := 15) (v := (1 : Int32)) dX11_bestFrom_14 rfl (by decide) ?_
    obtain ⟨a1, g2, h3⟩ := Option.bind_eq_some_iff.mp h
    refine mr_iald (pc' := 16) dX11_bestFrom_15 rfl rfl rfl g2 ?_
    by_cases c4 : a1 ≤ p7
    · rw [if_pos c4] at h3
      refine mr_icmp_ge_t (t := 60) dX11_bestFrom_16 (by decide) c4 ?_
      exact mr_sub [(5, .long p5)] ⟨rfl, trivial⟩ rfl (hK _  h3)
    · rw [if_neg c4] at h3
      refine mr_icmp_ge_f (t := 60) (pc' := 19) dX11_bestFrom_16 (by decide) rfl c4 ?_
      refine mr_aload_n (pc' := 20) dX11_bestFrom_19 rfl rfl ?_
      refine mr_iload_n (pc' := 21) dX11_bestFrom_20 rfl rfl ?_
      refine mr_iload_n (pc' := 22) dX11_bestFrom_21 rfl rfl ?_
      refine mr_iload (pc' := 24) dX11_bestFrom_22 rfl rfl ?_
      refine mr_iload_n (pc' := 25) dX11_bestFrom_24 rfl rfl ?_
      obtain ⟨q5, g6, h7⟩ := Option.bind_eq_some_iff.mp h3
      refine mr_cv (pc' := 28) (a := 145) (d1 := 2) dX11_bestFrom_25 rfl rfl rfl rfl rfl rfl (by decide) rfl (by decide) (ok_X11_by hR  g6) ?_
      show mr X _ _ 28 _ [.long q5] (MM RR S) _
      refine mr_lstore (pc' := 30) (lv' := [(8, .long q5), (0, .ref 145), (1, .int p1), (2, .int p2), (3, .int p3), (4, .int p4), (5, .long p5), (7, .int p7)]) dX11_bestFrom_28 rfl (by decide) rfl ?_
      refine mr_lload (pc' := 32) dX11_bestFrom_30 rfl rfl ?_
      refine mr_lconst (pc' := 33) (v := (0 : Int64)) dX11_bestFrom_32 rfl (by decide) ?_
      by_cases c8 : q5 < (0 : Int64)
      · rw [if_pos c8] at h7
        refine mr_lcmp_lt_t (t := 54) dX11_bestFrom_33 rfl dX11_bestFrom_34 (by decide) c8 ?_
        refine mr_iinc (pc' := 57) (x' := (p7 + (1 : Int32))) (lv' := [(7, .int (p7 + (1 : Int32))), (8, .long q5), (0, .ref 145), (1, .int p1), (2, .int p2), (3, .int p3), (4, .int p4), (5, .long p5)]) dX11_bestFrom_54 rfl (by decide) rfl rfl rfl ?_
        refine mr_goto (t := 8) dX11_bestFrom_57 (by decide) ?_
        exact mr_sub [(0, .ref 145), (1, .int p1), (2, .int p2), (3, .int p3), (4, .int p4), (5, .long p5), (7, .int (p7 + (1 : Int32)))] ⟨rfl, rfl, rfl, rfl, rfl, rfl, rfl, trivial⟩ rfl (ih _ _  h7)
      · rw [if_neg c8] at h7
        refine mr_lcmp_lt_f (t := 54) (pc' := 37) dX11_bestFrom_33 rfl dX11_bestFrom_34 (by decide) rfl c8 ?_
        refine mr_aload_n (pc' := 38) dX11_bestFrom_37 rfl rfl ?_
        refine mr_lload (pc' := 40) dX11_bestFrom_38 rfl rfl ?_
        refine mr_lload (pc' := 42) dX11_bestFrom_40 rfl rfl ?_
        refine mr_iload (pc' := 44) dX11_bestFrom_42 rfl rfl ?_
        obtain ⟨q9, g10, h11⟩ := Option.bind_eq_some_iff.mp h7
        refine mr_cv (pc' := 47) (a := 145) (d1 := 0) dX11_bestFrom_44 rfl rfl rfl rfl rfl rfl (by decide) rfl (by decide) (ok_X11_isBetter hR  g10) ?_
        show mr X _ _ 47 _ [.int q9] (MM RR S) _
        by_cases c12 : q9 = (0 : Int32)
        · rw [if_pos c12] at h11
          refine mr_if_eq_t (t := 54) dX11_bestFrom_47 (by decide) c12 ?_
          refine mr_iinc (pc' := 57) (x' := (p7 + (1 : Int32))) (lv' := [(7, .int (p7 + (1 : Int32))), (8, .long q5), (0, .ref 145), (1, .int p1), (2, .int p2), (3, .int p3), (4, .int p4), (5, .long p5)]) dX11_bestFrom_54 rfl (by decide) rfl rfl rfl ?_
          refine mr_goto (t := 8) dX11_bestFrom_57 (by decide) ?_
          exact mr_sub [(0, .ref 145), (1, .int p1), (2, .int p2), (3, .int p3), (4, .int p4), (5, .long p5), (7, .int (p7 + (1 : Int32)))] ⟨rfl, rfl, rfl, rfl, rfl, rfl, rfl, trivial⟩ rfl (ih _ _  h11)
        · rw [if_neg c12] at h11
          refine mr_if_eq_f (t := 54) (pc' := 50) dX11_bestFrom_47 (by decide) rfl c12 ?_
          refine mr_lload (pc' := 52) dX11_bestFrom_50 rfl rfl ?_
          refine mr_lstore (pc' := 54) (lv' := [(5, .long q5), (8, .long q5), (0, .ref 145), (1, .int p1), (2, .int p2), (3, .int p3), (4, .int p4), (7, .int p7)]) dX11_bestFrom_52 rfl (by decide) rfl ?_
          refine mr_iinc (pc' := 57) (x' := (p7 + (1 : Int32))) (lv' := [(7, .int (p7 + (1 : Int32))), (5, .long q5), (8, .long q5), (0, .ref 145), (1, .int p1), (2, .int p2), (3, .int p3), (4, .int p4)]) dX11_bestFrom_54 rfl (by decide) rfl rfl rfl ?_
          refine mr_goto (t := 8) dX11_bestFrom_57 (by decide) ?_
          exact mr_sub [(0, .ref 145), (1, .int p1), (2, .int p2), (3, .int p3), (4, .int p4), (5, .long q5), (7, .int (p7 + (1 : Int32)))] ⟨rfl, rfl, rfl, rfl, rfl, rfl, rfl, trivial⟩ rfl (ih _ _  h11)
def f_X11_bestFrom (v1 : Int32) (v2 : Int32) (v3 : Int32) (v4 : Int32) (S : fS) : Option (Int64) :=
  lp_X11_bestFrom_8 v1 v2 v3 v4 S (fun u13 => some u13) FU (-1 : Int64) (-1 : Int32)
set_option maxHeartbeats 4000000 in
set_option maxRecDepth 100000 in
theorem ok_X11_bestFrom {X : mm_C} {RR : Nat → Nat → Option Nat} (hR : RRok RR) {v1 : Int32} {v2 : Int32} {v3 : Int32} {v4 : Int32}  {S : fS} {r : Int64} (h : f_X11_bestFrom v1 v2 v3 v4 S = some r) : mr X 3 mY_X11_bestFrom 0 (lv_args 0 [.ref 145, .int v1, .int v2, .int v3, .int v4]) [] (MM RR S) (some (.long r), MM RR S) := by
  unfold f_X11_bestFrom at h
  show mr X _ _ 0 [(0, .ref 145), (1, .int v1), (2, .int v2), (3, .int v3), (4, .int v4)] [] (MM RR S) _
  refine mr_ldc2 (pc' := 3) (v := (-1 : Int64)) dX11_bestFrom_0 rfl rfl ?_
  refine mr_lstore (pc' := 5) (lv' := [(5, .long (-1 : Int64)), (0, .ref 145), (1, .int v1), (2, .int v2), (3, .int v3), (4, .int v4)]) dX11_bestFrom_3 rfl (by decide) rfl ?_
  refine mr_iconst (pc' := 6) (v := (-1 : Int32)) dX11_bestFrom_5 rfl (by decide) ?_
  refine mr_istore (pc' := 8) (lv' := [(7, .int (-1 : Int32)), (5, .long (-1 : Int64)), (0, .ref 145), (1, .int v1), (2, .int v2), (3, .int v3), (4, .int v4)]) dX11_bestFrom_6 rfl (by decide) rfl ?_
  refine mr_sub [(0, .ref 145), (1, .int v1), (2, .int v2), (3, .int v3), (4, .int v4), (5, .long (-1 : Int64)), (7, .int (-1 : Int32))] ⟨rfl, rfl, rfl, rfl, rfl, rfl, rfl, trivial⟩ rfl ?_
  refine ok_lp_X11_bestFrom_8 hR  (fun u13 h14 => ?_) FU _ _  h
  refine mr_lload (pc' := 62) dX11_bestFrom_60 rfl rfl ?_
  obtain rfl := Option.some.inj h14
  exact mr_lreturn dX11_bestFrom_62 rfl
def lp_X11_plan_57 (p1 : Int32) (p2 : Int32) (p3 : Int32) (p4 : Int32) (p5 : Int32) (K : fS → Option (Int64 × fS)) : Nat → Int32 → fS → Option (Int64 × fS)
  | 0, _, _ => none
  | n + 1, p6, S0 =>
    if (10 : Int32) ≤ p6 then (K S0) else
    (if p6 = p2 then ((sL S0 162 1210 (((10 : Int32) * p3) + p6) (0 : Int64)).bind fun S26 =>
    lp_X11_plan_57 p1 p2 p3 p4 p5 K n (p6 + (1 : Int32)) S26) else
    ((sL S0 162 1210 (((10 : Int32) * p3) + p6) (-1 : Int64)).bind fun S23 =>
    lp_X11_plan_57 p1 p2 p3 p4 p5 K n (p6 + (1 : Int32)) S23))
set_option maxHeartbeats 4000000 in
set_option maxRecDepth 100000 in
theorem ok_lp_X11_plan_57 {X : mm_C} {RR : Nat → Nat → Option Nat} (hR : RRok RR) {p1 : Int32} {p2 : Int32} {p3 : Int32} {p4 : Int32} {p5 : Int32}  {K : fS → Option (Int64 × fS)} {r : Int64 × fS} (hK : ∀ (Sk : fS), K Sk = some r → mr X 4 mY_X11_plan 95 [(0, .ref 145), (1, .int p1), (3, .int p3), (4, .int p4), (5, .int p5)] [] (MM RR Sk) (some (.long r.1), MM RR r.2)) : ∀ (n : Nat) (p6 : Int32) (S0 : fS), lp_X11_plan_57 p1 p2 p3 p4 p5 K n p6 S0 = some r → mr X 4 mY_X11_plan 57 [(0, .ref 145), (1, .int p1), (2, .int p2), (3, .int p3), (4, .int p4), (5, .int p5), (6, .int p6)] [] (MM RR S0) (some (.long r.1), MM RR r.2) := by
  intro n
  induction n with
  | zero => intro p6 S0 h; exact mm_no h
  | succ n ih =>
    intro p6 S0 h
    unfold lp_X11_plan_57 at h
    refine mr_iload (pc' := 59) dX11_plan_57 rfl rfl ?_
    refine mr_bipush (pc' := 61) (v := (10 : Int32)) dX11_plan_59 rfl (by decide) ?_
    by_cases c21 : (10 : Int32) ≤ p6
    · rw [if_pos c21] at h
      refine mr_icmp_ge_t (t := 95) dX11_plan_61 (by decide) c21 ?_
      exact mr_sub [(0, .ref 145), (1, .int p1), (3, .int p3), (4, .int p4), (5, .int p5)] ⟨rfl, rfl, rfl, rfl, rfl, trivial⟩ rfl (hK _  h)
    · rw [if_neg c21] at h
      refine mr_icmp_ge_f (t := 95) (pc' := 64) dX11_plan_61 (by decide) rfl c21 ?_
      refine mr_aload_n (pc' := 65) dX11_plan_64 rfl rfl ?_
      refine mr_getR (pc' := 68) (ci := 11) (j := 30) (b := 162) hR dX11_plan_65 rfl rfl rfl (by decide) (by decide) (by decide) rfl rfl ?_
      refine mr_bipush (pc' := 70) (v := (10 : Int32)) dX11_plan_68 rfl (by decide) ?_
      refine mr_iload_n (pc' := 71) dX11_plan_70 rfl rfl ?_
      refine mr_imul (pc' := 72) dX11_plan_71 rfl ?_
      refine mr_iload (pc' := 74) dX11_plan_72 rfl rfl ?_
      refine mr_iadd (pc' := 75) dX11_plan_74 rfl ?_
      refine mr_iload (pc' := 77) dX11_plan_75 rfl rfl ?_
      refine mr_iload_n (pc' := 78) dX11_plan_77 rfl rfl ?_
      by_cases c22 : p6 = p2
      · rw [if_pos c22] at h
        refine mr_icmp_ne_f (t := 85) (pc' := 81) dX11_plan_78 (by decide) rfl (not_not_intro c22) ?_
        refine mr_lconst (pc' := 82) (v := (0 : Int64)) dX11_plan_81 rfl (by decide) ?_
        refine mr_goto (t := 88) dX11_plan_82 (by decide) ?_
        obtain ⟨S26, g27, h28⟩ := Option.bind_eq_some_iff.mp h
        refine mr_last (pc' := 89) dX11_plan_88 rfl rfl rfl g27 ?_
        refine mr_iinc (pc' := 92) (x' := (p6 + (1 : Int32))) (lv' := [(6, .int (p6 + (1 : Int32))), (0, .ref 145), (1, .int p1), (2, .int p2), (3, .int p3), (4, .int p4), (5, .int p5)]) dX11_plan_89 rfl (by decide) rfl rfl rfl ?_
        refine mr_goto (t := 57) dX11_plan_92 (by decide) ?_
        exact mr_sub [(0, .ref 145), (1, .int p1), (2, .int p2), (3, .int p3), (4, .int p4), (5, .int p5), (6, .int (p6 + (1 : Int32)))] ⟨rfl, rfl, rfl, rfl, rfl, rfl, rfl, trivial⟩ rfl (ih _ _  h28)
      · rw [if_neg c22] at h
        refine mr_icmp_ne_t (t := 85) dX11_plan_78 (by decide) c22 ?_
        refine mr_ldc2 (pc' := 88) (v := (-1 : Int64)) dX11_plan_85 rfl rfl ?_
        obtain ⟨S23, g24, h25⟩ := Option.bind_eq_some_iff.mp h
        refine mr_last (pc' := 89) dX11_plan_88 rfl rfl rfl g24 ?_
        refine mr_iinc (pc' := 92) (x' := (p6 + (1 : Int32))) (lv' := [(6, .int (p6 + (1 : Int32))), (0, .ref 145), (1, .int p1), (2, .int p2), (3, .int p3), (4, .int p4), (5, .int p5)]) dX11_plan_89 rfl (by decide) rfl rfl rfl ?_
        refine mr_goto (t := 57) dX11_plan_92 (by decide) ?_
        exact mr_sub [(0, .ref 145), (1, .int p1), (2, .int p2), (3, .int p3), (4, .int p4), (5, .int p5), (6, .int (p6 + (1 : Int32)))] ⟨rfl, rfl, rfl, rfl, rfl, rfl, rfl, trivial⟩ rfl (ih _ _  h25)
def lp_X11_plan_108 (p1 : Int32) (p3 : Int32) (p4 : Int32) (p5 : Int32) (p6 : Int32) (K : fS → Option (Int64 × fS)) : Nat → Int32 → fS → Option (Int64 × fS)
  | 0, _, _ => none
  | n + 1, p7, S0 =>
    (gI S0 157 158 (0 : Int32)).bind fun a32 =>
    if a32 ≤ p7 then (K S0) else
    ((f_X11_bestFrom p7 p6 p3 p4 S0).bind fun q36 =>
    (sL S0 162 1210 (((10 : Int32) * p6) + p7) q36).bind fun S39 =>
    lp_X11_plan_108 p1 p3 p4 p5 p6 K n (p7 + (1 : Int32)) S39)
set_option maxHeartbeats 4000000 in
set_option maxRecDepth 100000 in
theorem ok_lp_X11_plan_108 {X : mm_C} {RR : Nat → Nat → Option Nat} (hR : RRok RR) {p1 : Int32} {p3 : Int32} {p4 : Int32} {p5 : Int32} {p6 : Int32}  {K : fS → Option (Int64 × fS)} {r : Int64 × fS} (hK : ∀ (Sk : fS), K Sk = some r → mr X 4 mY_X11_plan 149 [(0, .ref 145), (1, .int p1), (3, .int p3), (4, .int p4), (5, .int p5), (6, .int p6)] [] (MM RR Sk) (some (.long r.1), MM RR r.2)) : ∀ (n : Nat) (p7 : Int32) (S0 : fS), lp_X11_plan_108 p1 p3 p4 p5 p6 K n p7 S0 = some r → mr X 4 mY_X11_plan 108 [(0, .ref 145), (1, .int p1), (3, .int p3), (4, .int p4), (5, .int p5), (6, .int p6), (7, .int p7)] [] (MM RR S0) (some (.long r.1), MM RR r.2) := by
  intro n
  induction n with
  | zero => intro p7 S0 h; exact mm_no h
  | succ n ih =>
    intro p7 S0 h
    unfold lp_X11_plan_108 at h
    refine mr_iload (pc' := 110) dX11_plan_108 rfl rfl ?_
    refine mr_aload_n (pc' := 111) dX11_plan_110 rfl rfl ?_
    refine mr_getR (pc' := 114) (ci := 11) (j := 25) (b := 157) hR dX11_plan_111 rfl rfl rfl (by decide) (by decide) (by decide) rfl rfl ?_
    refine mr_iconst (pc' := 115) (v := (0 : Int32)) dX11_plan_114 rfl (by decide) ?_
    obtain ⟨a32, g33, h34⟩ := Option.bind_eq_some_iff.mp h
    refine mr_iald (pc' := 116) dX11_plan_115 rfl rfl rfl g33 ?_
    by_cases c35 : a32 ≤ p7
    · rw [if_pos c35] at h34
      refine mr_icmp_ge_t (t := 149) dX11_plan_116 (by decide) c35 ?_
      exact mr_sub [(0, .ref 145), (1, .int p1), (3, .int p3), (4, .int p4), (5, .int p5), (6, .int p6)] ⟨rfl, rfl, rfl, rfl, rfl, rfl, trivial⟩ rfl (hK _  h34)
    · rw [if_neg c35] at h34
      refine mr_icmp_ge_f (t := 149) (pc' := 119) dX11_plan_116 (by decide) rfl c35 ?_
      refine mr_aload_n (pc' := 120) dX11_plan_119 rfl rfl ?_
      refine mr_getR (pc' := 123) (ci := 11) (j := 30) (b := 162) hR dX11_plan_120 rfl rfl rfl (by decide) (by decide) (by decide) rfl rfl ?_
      refine mr_bipush (pc' := 125) (v := (10 : Int32)) dX11_plan_123 rfl (by decide) ?_
      refine mr_iload (pc' := 127) dX11_plan_125 rfl rfl ?_
      refine mr_imul (pc' := 128) dX11_plan_127 rfl ?_
      refine mr_iload (pc' := 130) dX11_plan_128 rfl rfl ?_
      refine mr_iadd (pc' := 131) dX11_plan_130 rfl ?_
      refine mr_aload_n (pc' := 132) dX11_plan_131 rfl rfl ?_
      refine mr_iload (pc' := 134) dX11_plan_132 rfl rfl ?_
      refine mr_iload (pc' := 136) dX11_plan_134 rfl rfl ?_
      refine mr_iload_n (pc' := 137) dX11_plan_136 rfl rfl ?_
      refine mr_iload (pc' := 139) dX11_plan_137 rfl rfl ?_
      obtain ⟨q36, g37, h38⟩ := Option.bind_eq_some_iff.mp h34
      refine mr_cv (pc' := 142) (a := 145) (d1 := 3) dX11_plan_139 rfl rfl rfl rfl rfl rfl (by decide) rfl (by decide) (ok_X11_bestFrom hR  g37) ?_
      show mr X _ _ 142 _ [.long q36, .int (((10 : Int32) * p6) + p7), .ref 162] (MM RR S0) _
      obtain ⟨S39, g40, h41⟩ := Option.bind_eq_some_iff.mp h38
      refine mr_last (pc' := 143) dX11_plan_142 rfl rfl rfl g40 ?_
      refine mr_iinc (pc' := 146) (x' := (p7 + (1 : Int32))) (lv' := [(7, .int (p7 + (1 : Int32))), (0, .ref 145), (1, .int p1), (3, .int p3), (4, .int p4), (5, .int p5), (6, .int p6)]) dX11_plan_143 rfl (by decide) rfl rfl rfl ?_
      refine mr_goto (t := 108) dX11_plan_146 (by decide) ?_
      exact mr_sub [(0, .ref 145), (1, .int p1), (3, .int p3), (4, .int p4), (5, .int p5), (6, .int p6), (7, .int (p7 + (1 : Int32)))] ⟨rfl, rfl, rfl, rfl, rfl, rfl, rfl, trivial⟩ rfl (ih _ _  h41)
def lp_X11_plan_100 (p1 : Int32) (p3 : Int32) (p4 : Int32) (p5 : Int32) (K : fS → Option (Int64 × fS)) : Nat → Int32 → fS → Option (Int64 × fS)
  | 0, _, _ => none
  | n + 1, p6, S0 =>
    if p6 < (0 : Int32) then (K S0) else
    (lp_X11_plan_108 p1 p3 p4 p5 p6 (fun S42 => lp_X11_plan_100 p1 p3 p4 p5 K n (p6 + (-1 : Int32)) S42) FU (0 : Int32) S0)
set_option maxHeartbeats 4000000 in
set_option maxRecDepth 100000 in
theorem ok_lp_X11_plan_100 {X : mm_C} {RR : Nat → Nat → Option Nat} (hR : RRok RR) {p1 : Int32} {p3 : Int32} {p4 : Int32} {p5 : Int32}  {K : fS → Option (Int64 × fS)} {r : Int64 × fS} (hK : ∀ (Sk : fS), K Sk = some r → mr X 4 mY_X11_plan 155 [(0, .ref 145), (1, .int p1), (3, .int p3), (5, .int p5)] [] (MM RR Sk) (some (.long r.1), MM RR r.2)) : ∀ (n : Nat) (p6 : Int32) (S0 : fS), lp_X11_plan_100 p1 p3 p4 p5 K n p6 S0 = some r → mr X 4 mY_X11_plan 100 [(0, .ref 145), (1, .int p1), (3, .int p3), (4, .int p4), (5, .int p5), (6, .int p6)] [] (MM RR S0) (some (.long r.1), MM RR r.2) := by
  intro n
  induction n with
  | zero => intro p6 S0 h; exact mm_no h
  | succ n ih =>
    intro p6 S0 h
    unfold lp_X11_plan_100 at h
    refine mr_iload (pc' := 102) dX11_plan_100 rfl rfl ?_
    by_cases c31 : p6 < (0 : Int32)
    · rw [if_pos c31] at h
      refine mr_if_lt_t (t := 155) dX11_plan_102 (by decide) c31 ?_
      exact mr_sub [(0, .ref 145), (1, .int p1), (3, .int p3), (5, .int p5)] ⟨rfl, rfl, rfl, rfl, trivial⟩ rfl (hK _  h)
    · rw [if_neg c31] at h
      refine mr_if_lt_f (t := 155) (pc' := 105) dX11_plan_102 (by decide) rfl c31 ?_
      refine mr_iconst (pc' := 106) (v := (0 : Int32)) dX11_plan_105 rfl (by decide) ?_
      refine mr_istore (pc' := 108) (lv' := [(7, .int (0 : Int32)), (0, .ref 145), (1, .int p1), (3, .int p3), (4, .int p4), (5, .int p5), (6, .int p6)]) dX11_plan_106 rfl (by decide) rfl ?_
      refine mr_sub [(0, .ref 145), (1, .int p1), (3, .int p3), (4, .int p4), (5, .int p5), (6, .int p6), (7, .int (0 : Int32))] ⟨rfl, rfl, rfl, rfl, rfl, rfl, rfl, trivial⟩ rfl ?_
      refine ok_lp_X11_plan_108 hR  (fun S42 h43 => ?_) FU _ _  h
      refine mr_iinc (pc' := 152) (x' := (p6 + (-1 : Int32))) (lv' := [(6, .int (p6 + (-1 : Int32))), (0, .ref 145), (1, .int p1), (3, .int p3), (4, .int p4), (5, .int p5)]) dX11_plan_149 rfl (by decide) rfl rfl rfl ?_
      refine mr_goto (t := 100) dX11_plan_152 (by decide) ?_
      exact mr_sub [(0, .ref 145), (1, .int p1), (3, .int p3), (4, .int p4), (5, .int p5), (6, .int (p6 + (-1 : Int32)))] ⟨rfl, rfl, rfl, rfl, rfl, rfl, trivial⟩ rfl (ih _ _  h43)
def lp_X11_plan_218 (p3 : Int32) (p6 : Int32) (p7 : Int64) (K : Int32 → fS → Option (Int64 × fS)) : Nat → Int32 → fS → Option (Int64 × fS)
  | 0, _, _ => none
  | n + 1, p9, S0 =>
    (f_X11_by p6 (0 : Int32) p9 p3 S0).bind fun q55 =>
    if q55 = p7 then (K p9 S0) else
    (lp_X11_plan_218 p3 p6 p7 K n (p9 + (1 : Int32)) S0)
set_option maxHeartbeats 4000000 in
set_option maxRecDepth 100000 in
theorem ok_lp_X11_plan_218 {X : mm_C} {RR : Nat → Nat → Option Nat} (hR : RRok RR) {p3 : Int32} {p6 : Int32} {p7 : Int64}  {K : Int32 → fS → Option (Int64 × fS)} {r : Int64 × fS} (hK : ∀ (k9 : Int32) (Sk : fS), K k9 Sk = some r → mr X 4 mY_X11_plan 240 [(9, .int k9)] [] (MM RR Sk) (some (.long r.1), MM RR r.2)) : ∀ (n : Nat) (p9 : Int32) (S0 : fS), lp_X11_plan_218 p3 p6 p7 K n p9 S0 = some r → mr X 4 mY_X11_plan 218 [(0, .ref 145), (3, .int p3), (6, .int p6), (7, .long p7), (9, .int p9)] [] (MM RR S0) (some (.long r.1), MM RR r.2) := by
  intro n
  induction n with
  | zero => intro p9 S0 h; exact mm_no h
  | succ n ih =>
    intro p9 S0 h
    unfold lp_X11_plan_218 at h
    refine mr_aload_n (pc' := 219) dX11_plan_218 rfl rfl ?_
    refine mr_iload (pc' := 221) dX11_plan_219 rfl rfl ?_
    refine mr_iconst (pc' := 222) (v := (0 : Int32)) dX11_plan_221 rfl (by decide) ?_
    refine mr_iload (pc' := 224) dX11_plan_222 rfl rfl ?_
    refine mr_iload_n (pc' := 225) dX11_plan_224 rfl rfl ?_
    obtain ⟨q55, g56, h57⟩ := Option.bind_eq_some_iff.mp h
    refine mr_cv (pc' := 228) (a := 145) (d1 := 2) dX11_plan_225 rfl rfl rfl rfl rfl rfl (by decide) rfl (by decide) (ok_X11_by hR  g56) ?_
    show mr X _ _ 228 _ [.long q55] (MM RR S0) _
    refine mr_lload (pc' := 230) dX11_plan_228 rfl rfl ?_
    by_cases c58 : q55 = p7
    · rw [if_pos c58] at h57
      refine mr_lcmp_eq_t (t := 240) dX11_plan_230 rfl dX11_plan_231 (by decide) c58 ?_
      exact mr_sub [(9, .int p9)] ⟨rfl, trivial⟩ rfl (hK _ _  h57)
    · rw [if_neg c58] at h57
      refine mr_lcmp_eq_f (t := 240) (pc' := 234) dX11_plan_230 rfl dX11_plan_231 (by decide) rfl c58 ?_
      refine mr_iinc (pc' := 237) (x' := (p9 + (1 : Int32))) (lv' := [(9, .int (p9 + (1 : Int32))), (0, .ref 145), (3, .int p3), (6, .int p6), (7, .long p7)]) dX11_plan_234 rfl (by decide) rfl rfl rfl ?_
      refine mr_goto (t := 218) dX11_plan_237 (by decide) ?_
      exact mr_sub [(0, .ref 145), (3, .int p3), (6, .int p6), (7, .long p7), (9, .int (p9 + (1 : Int32)))] ⟨rfl, rfl, rfl, rfl, rfl, trivial⟩ rfl (ih _ _  h57)
def f_X11_plan (v1 : Int32) (v2 : Int32) (v3 : Int32) (v4 : Int32) (v5 : Int32) (S : fS) : Option (Int64 × fS) :=
  (f_X11_isThing v1 S).bind fun q1 =>
  if q1 = (0 : Int32) then (some ((-1 : Int64), S)) else
  ((f_X11_thingOf v1 (0 : Int32) S).bind fun q5 =>
  if q5 < (0 : Int32) then (some ((-1 : Int64), S)) else
  ((f_X11_isFloor v2 S).bind fun q9 =>
  if q9 = (0 : Int32) then (some ((-1 : Int64), S)) else
  ((f_X11_in (Int32.toInt64 v3) (0 : Int64) (120 : Int64) S).bind fun q13 =>
  if q13 = (0 : Int32) then (some ((-1 : Int64), S)) else
  ((f_X11_in (Int32.toInt64 v5) (0 : Int64) (2 : Int64) S).bind fun q17 =>
  if q17 = (0 : Int32) then (some ((-1 : Int64), S)) else
  (lp_X11_plan_57 v1 v2 v3 v4 v5 (fun S29 => lp_X11_plan_100 v1 v3 v4 v5 (fun S44 => (f_X11_thingOf v1 (0 : Int32) S44).bind fun q46 =>
  (gL S44 162 1210 q46).bind fun a49 =>
  if (0 : Int64) ≤ a49 then (if (2 : Int32) ≤ v5 then (if v3 = (0 : Int32) then (some ((-4 : Int64), S44)) else
  (lp_X11_plan_218 v3 q46 a49 (fun u59 S60 => if (0 : Int32) ≤ u59 then (some ((Int32.toInt64 u59), S60)) else
  (some ((-3 : Int64), S60))) FU (-1 : Int32) S44)) else
  ((gL S44 158 8 v1).bind fun a63 =>
  (f_X11_lowest (a63 + a49) (232792560 : Int64) v5 S44).bind fun q66 =>
  some (q66, S44))) else
  (some ((-2 : Int64), S44))) FU (v3 - (1 : Int32)) S29) FU (0 : Int32) S)))))
set_option maxHeartbeats 4000000 in
set_option maxRecDepth 100000 in
theorem ok_X11_plan {X : mm_C} {RR : Nat → Nat → Option Nat} (hR : RRok RR) {v1 : Int32} {v2 : Int32} {v3 : Int32} {v4 : Int32} {v5 : Int32}  {S : fS} {r : Int64 × fS} (h : f_X11_plan v1 v2 v3 v4 v5 S = some r) : mr X 4 mY_X11_plan 0 (lv_args 0 [.ref 145, .int v1, .int v2, .int v3, .int v4, .int v5]) [] (MM RR S) (some (.long r.1), MM RR r.2) := by
  unfold f_X11_plan at h
  show mr X _ _ 0 [(0, .ref 145), (1, .int v1), (2, .int v2), (3, .int v3), (4, .int v4), (5, .int v5)] [] (MM RR S) _
  refine mr_aload_n (pc' := 1) dX11_plan_0 rfl rfl ?_
  refine mr_iload_n (pc' := 2) dX11_plan_1 rfl rfl ?_
  obtain ⟨q1, g2, h3⟩ := Option.bind_eq_some_iff.mp h
  refine mr_cv (pc' := 5) (a := 145) (d1 := 0) dX11_plan_2 rfl rfl rfl rfl rfl rfl (by decide) rfl (by decide) (ok_X11_isThing hR  g2) ?_
  show mr X _ _ 5 _ [.int q1] (MM RR S) _
  by_cases c4 : q1 = (0 : Int32)
  · rw [if_pos c4] at h3
    refine mr_if_eq_t (t := 50) dX11_plan_5 (by decide) c4 ?_
    refine mr_ldc2 (pc' := 53) (v := (-1 : Int64)) dX11_plan_50 rfl rfl ?_
    obtain rfl := Option.some.inj h3
    exact mr_lreturn dX11_plan_53 rfl
  · rw [if_neg c4] at h3
    refine mr_if_eq_f (t := 50) (pc' := 8) dX11_plan_5 (by decide) rfl c4 ?_
    refine mr_aload_n (pc' := 9) dX11_plan_8 rfl rfl ?_
    refine mr_iload_n (pc' := 10) dX11_plan_9 rfl rfl ?_
    refine mr_iconst (pc' := 11) (v := (0 : Int32)) dX11_plan_10 rfl (by decide) ?_
    obtain ⟨q5, g6, h7⟩ := Option.bind_eq_some_iff.mp h3
    refine mr_cv (pc' := 14) (a := 145) (d1 := 0) dX11_plan_11 rfl rfl rfl rfl rfl rfl (by decide) rfl (by decide) (ok_X11_thingOf hR  g6) ?_
    show mr X _ _ 14 _ [.int q5] (MM RR S) _
    by_cases c8 : q5 < (0 : Int32)
    · rw [if_pos c8] at h7
      refine mr_if_lt_t (t := 50) dX11_plan_14 (by decide) c8 ?_
      refine mr_ldc2 (pc' := 53) (v := (-1 : Int64)) dX11_plan_50 rfl rfl ?_
      obtain rfl := Option.some.inj h7
      exact mr_lreturn dX11_plan_53 rfl
    · rw [if_neg c8] at h7
      refine mr_if_lt_f (t := 50) (pc' := 17) dX11_plan_14 (by decide) rfl c8 ?_
      refine mr_aload_n (pc' := 18) dX11_plan_17 rfl rfl ?_
      refine mr_iload_n (pc' := 19) dX11_plan_18 rfl rfl ?_
      obtain ⟨q9, g10, h11⟩ := Option.bind_eq_some_iff.mp h7
      refine mr_cv (pc' := 22) (a := 145) (d1 := 0) dX11_plan_19 rfl rfl rfl rfl rfl rfl (by decide) rfl (by decide) (ok_X11_isFloor hR  g10) ?_
      show mr X _ _ 22 _ [.int q9] (MM RR S) _
      by_cases c12 : q9 = (0 : Int32)
      · rw [if_pos c12] at h11
        refine mr_if_eq_t (t := 50) dX11_plan_22 (by decide) c12 ?_
        refine mr_ldc2 (pc' := 53) (v := (-1 : Int64)) dX11_plan_50 rfl rfl ?_
        obtain rfl := Option.some.inj h11
        exact mr_lreturn dX11_plan_53 rfl
      · rw [if_neg c12] at h11
        refine mr_if_eq_f (t := 50) (pc' := 25) dX11_plan_22 (by decide) rfl c12 ?_
        refine mr_iload_n (pc' := 26) dX11_plan_25 rfl rfl ?_
        refine mr_i2l (pc' := 27) dX11_plan_26 rfl ?_
        refine mr_lconst (pc' := 28) (v := (0 : Int64)) dX11_plan_27 rfl (by decide) ?_
        refine mr_ldc2 (pc' := 31) (v := (120 : Int64)) dX11_plan_28 rfl rfl ?_
        obtain ⟨q13, g14, h15⟩ := Option.bind_eq_some_iff.mp h11
        refine mr_cs (pc' := 34) (d1 := 0) dX11_plan_31 rfl rfl rfl rfl (by decide) (Nat.le_of_ble_eq_true rfl) rfl rfl rfl (by decide) (ok_X11_in hR  g14) ?_
        show mr X _ _ 34 _ [.int q13] (MM RR S) _
        by_cases c16 : q13 = (0 : Int32)
        · rw [if_pos c16] at h15
          refine mr_if_eq_t (t := 50) dX11_plan_34 (by decide) c16 ?_
          refine mr_ldc2 (pc' := 53) (v := (-1 : Int64)) dX11_plan_50 rfl rfl ?_
          obtain rfl := Option.some.inj h15
          exact mr_lreturn dX11_plan_53 rfl
        · rw [if_neg c16] at h15
          refine mr_if_eq_f (t := 50) (pc' := 37) dX11_plan_34 (by decide) rfl c16 ?_
          refine mr_iload (pc' := 39) dX11_plan_37 rfl rfl ?_
          refine mr_i2l (pc' := 40) dX11_plan_39 rfl ?_
          refine mr_lconst (pc' := 41) (v := (0 : Int64)) dX11_plan_40 rfl (by decide) ?_
          refine mr_ldc2 (pc' := 44) (v := (2 : Int64)) dX11_plan_41 rfl rfl ?_
          obtain ⟨q17, g18, h19⟩ := Option.bind_eq_some_iff.mp h15
          refine mr_cs (pc' := 47) (d1 := 0) dX11_plan_44 rfl rfl rfl rfl (by decide) (Nat.le_of_ble_eq_true rfl) rfl rfl rfl (by decide) (ok_X11_in hR  g18) ?_
          show mr X _ _ 47 _ [.int q17] (MM RR S) _
          by_cases c20 : q17 = (0 : Int32)
          · rw [if_pos c20] at h19
            refine mr_if_ne_f (t := 54) (pc' := 50) dX11_plan_47 (by decide) rfl (not_not_intro c20) ?_
            refine mr_ldc2 (pc' := 53) (v := (-1 : Int64)) dX11_plan_50 rfl rfl ?_
            obtain rfl := Option.some.inj h19
            exact mr_lreturn dX11_plan_53 rfl
          · rw [if_neg c20] at h19
            refine mr_if_ne_t (t := 54) dX11_plan_47 (by decide) c20 ?_
            refine mr_iconst (pc' := 55) (v := (0 : Int32)) dX11_plan_54 rfl (by decide) ?_
            refine mr_istore (pc' := 57) (lv' := [(6, .int (0 : Int32)), (0, .ref 145), (1, .int v1), (2, .int v2), (3, .int v3), (4, .int v4), (5, .int v5)]) dX11_plan_55 rfl (by decide) rfl ?_
            refine mr_sub [(0, .ref 145), (1, .int v1), (2, .int v2), (3, .int v3), (4, .int v4), (5, .int v5), (6, .int (0 : Int32))] ⟨rfl, rfl, rfl, rfl, rfl, rfl, rfl, trivial⟩ rfl ?_
            refine ok_lp_X11_plan_57 hR  (fun S29 h30 => ?_) FU _ _  h19
            refine mr_iload_n (pc' := 96) dX11_plan_95 rfl rfl ?_
            refine mr_iconst (pc' := 97) (v := (1 : Int32)) dX11_plan_96 rfl (by decide) ?_
            refine mr_isub (pc' := 98) dX11_plan_97 rfl ?_
            refine mr_istore (pc' := 100) (lv' := [(6, .int (v3 - (1 : Int32))), (0, .ref 145), (1, .int v1), (3, .int v3), (4, .int v4), (5, .int v5)]) dX11_plan_98 rfl (by decide) rfl ?_
            refine mr_sub [(0, .ref 145), (1, .int v1), (3, .int v3), (4, .int v4), (5, .int v5), (6, .int (v3 - (1 : Int32)))] ⟨rfl, rfl, rfl, rfl, rfl, rfl, trivial⟩ rfl ?_
            refine ok_lp_X11_plan_100 hR  (fun S44 h45 => ?_) FU _ _  h30
            refine mr_aload_n (pc' := 156) dX11_plan_155 rfl rfl ?_
            refine mr_iload_n (pc' := 157) dX11_plan_156 rfl rfl ?_
            refine mr_iconst (pc' := 158) (v := (0 : Int32)) dX11_plan_157 rfl (by decide) ?_
            obtain ⟨q46, g47, h48⟩ := Option.bind_eq_some_iff.mp h45
            refine mr_cv (pc' := 161) (a := 145) (d1 := 0) dX11_plan_158 rfl rfl rfl rfl rfl rfl (by decide) rfl (by decide) (ok_X11_thingOf hR  g47) ?_
            show mr X _ _ 161 _ [.int q46] (MM RR S44) _
            refine mr_istore (pc' := 163) (lv' := [(6, .int q46), (0, .ref 145), (1, .int v1), (3, .int v3), (5, .int v5)]) dX11_plan_161 rfl (by decide) rfl ?_
            refine mr_aload_n (pc' := 164) dX11_plan_163 rfl rfl ?_
            refine mr_getR (pc' := 167) (ci := 11) (j := 30) (b := 162) hR dX11_plan_164 rfl rfl rfl (by decide) (by decide) (by decide) rfl rfl ?_
            refine mr_iload (pc' := 169) dX11_plan_167 rfl rfl ?_
            obtain ⟨a49, g50, h51⟩ := Option.bind_eq_some_iff.mp h48
            refine mr_lald (pc' := 170) dX11_plan_169 rfl rfl rfl g50 ?_
            refine mr_lstore (pc' := 172) (lv' := [(7, .long a49), (6, .int q46), (0, .ref 145), (1, .int v1), (3, .int v3), (5, .int v5)]) dX11_plan_170 rfl (by decide) rfl ?_
            refine mr_lload (pc' := 174) dX11_plan_172 rfl rfl ?_
            refine mr_lconst (pc' := 175) (v := (0 : Int64)) dX11_plan_174 rfl (by decide) ?_
            by_cases c52 : (0 : Int64) ≤ a49
            · rw [if_pos c52] at h51
              refine mr_lcmp_ge_t (t := 183) dX11_plan_175 rfl dX11_plan_176 (by decide) c52 ?_
              refine mr_iload (pc' := 185) dX11_plan_183 rfl rfl ?_
              refine mr_iconst (pc' := 186) (v := (2 : Int32)) dX11_plan_185 rfl (by decide) ?_
              by_cases c53 : (2 : Int32) ≤ v5
              · rw [if_pos c53] at h51
                refine mr_icmp_ge_t (t := 207) dX11_plan_186 (by decide) c53 ?_
                refine mr_iload_n (pc' := 208) dX11_plan_207 rfl rfl ?_
                by_cases c54 : v3 = (0 : Int32)
                · rw [if_pos c54] at h51
                  refine mr_if_ne_f (t := 215) (pc' := 211) dX11_plan_208 (by decide) rfl (not_not_intro c54) ?_
                  refine mr_ldc2 (pc' := 214) (v := (-4 : Int64)) dX11_plan_211 rfl rfl ?_
                  obtain rfl := Option.some.inj h51
                  exact mr_lreturn dX11_plan_214 rfl
                · rw [if_neg c54] at h51
                  refine mr_if_ne_t (t := 215) dX11_plan_208 (by decide) c54 ?_
                  refine mr_iconst (pc' := 216) (v := (-1 : Int32)) dX11_plan_215 rfl (by decide) ?_
                  refine mr_istore (pc' := 218) (lv' := [(9, .int (-1 : Int32)), (7, .long a49), (6, .int q46), (0, .ref 145), (1, .int v1), (3, .int v3), (5, .int v5)]) dX11_plan_216 rfl (by decide) rfl ?_
                  refine mr_sub [(0, .ref 145), (3, .int v3), (6, .int q46), (7, .long a49), (9, .int (-1 : Int32))] ⟨rfl, rfl, rfl, rfl, rfl, trivial⟩ rfl ?_
                  refine ok_lp_X11_plan_218 hR  (fun u59 S60 h61 => ?_) FU _ _  h51
                  refine mr_iload (pc' := 242) dX11_plan_240 rfl rfl ?_
                  by_cases c62 : (0 : Int32) ≤ u59
                  · rw [if_pos c62] at h61
                    refine mr_if_ge_t (t := 251) dX11_plan_242 (by decide) c62 ?_
                    refine mr_iload (pc' := 253) dX11_plan_251 rfl rfl ?_
                    refine mr_i2l (pc' := 254) dX11_plan_253 rfl ?_
                    obtain rfl := Option.some.inj h61
                    exact mr_lreturn dX11_plan_254 rfl
                  · rw [if_neg c62] at h61
                    refine mr_if_ge_f (t := 251) (pc' := 245) dX11_plan_242 (by decide) rfl c62 ?_
                    refine mr_ldc2 (pc' := 248) (v := (-3 : Int64)) dX11_plan_245 rfl rfl ?_
                    refine mr_goto (t := 254) dX11_plan_248 (by decide) ?_
                    obtain rfl := Option.some.inj h61
                    exact mr_lreturn dX11_plan_254 rfl
              · rw [if_neg c53] at h51
                refine mr_icmp_ge_f (t := 207) (pc' := 189) dX11_plan_186 (by decide) rfl c53 ?_
                refine mr_aload_n (pc' := 190) dX11_plan_189 rfl rfl ?_
                refine mr_getR (pc' := 193) (ci := 11) (j := 26) (b := 158) hR dX11_plan_190 rfl rfl rfl (by decide) (by decide) (by decide) rfl rfl ?_
                refine mr_iload_n (pc' := 194) dX11_plan_193 rfl rfl ?_
                obtain ⟨a63, g64, h65⟩ := Option.bind_eq_some_iff.mp h51
                refine mr_lald (pc' := 195) dX11_plan_194 rfl rfl rfl g64 ?_
                refine mr_lload (pc' := 197) dX11_plan_195 rfl rfl ?_
                refine mr_ladd (pc' := 198) dX11_plan_197 rfl ?_
                refine mr_ldc2 (pc' := 201) (v := (232792560 : Int64)) dX11_plan_198 rfl rfl ?_
                refine mr_iload (pc' := 203) dX11_plan_201 rfl rfl ?_
                obtain ⟨q66, g67, h68⟩ := Option.bind_eq_some_iff.mp h65
                refine mr_cs (pc' := 206) (d1 := 1) dX11_plan_203 rfl rfl rfl rfl (by decide) (Nat.le_of_ble_eq_true rfl) rfl rfl rfl (by decide) (ok_X11_lowest hR  g67) ?_
                show mr X _ _ 206 _ [.long q66] (MM RR S44) _
                obtain rfl := Option.some.inj h68
                exact mr_lreturn dX11_plan_206 rfl
            · rw [if_neg c52] at h51
              refine mr_lcmp_ge_f (t := 183) (pc' := 179) dX11_plan_175 rfl dX11_plan_176 (by decide) rfl c52 ?_
              refine mr_ldc2 (pc' := 182) (v := (-2 : Int64)) dX11_plan_179 rfl rfl ?_
              obtain rfl := Option.some.inj h51
              exact mr_lreturn dX11_plan_182 rfl
def f_X11_even (v1 : Int32) (v2 : Int32) (v3 : Int32) (v4 : Int32) (v5 : Int32) (S : fS) : Option (Int64) :=
  (f_X11_isThing v1 S).bind fun q1 =>
  if q1 = (0 : Int32) then (some (-1 : Int64)) else
  ((f_X11_isThing v2 S).bind fun q5 =>
  if q5 = (0 : Int32) then (some (-1 : Int64)) else
  (if v1 = v2 then (some (-1 : Int64)) else
  ((f_X11_isFloor v3 S).bind fun q10 =>
  if q10 = (0 : Int32) then (some (-1 : Int64)) else
  ((f_X11_isFloor v4 S).bind fun q14 =>
  if q14 = (0 : Int32) then (some (-1 : Int64)) else
  ((f_X11_in (Int32.toInt64 v5) (0 : Int64) (1 : Int64) S).bind fun q18 =>
  if q18 = (0 : Int32) then (some (-1 : Int64)) else
  ((gL S 158 8 v2).bind fun a22 =>
  (gL S 158 8 v1).bind fun a25 =>
  (f_X11_floorParts v3 S).bind fun q28 =>
  (f_X11_floorParts v4 S).bind fun q31 =>
  if (a22 - a25) = (0 : Int64) then (some (Int32.toInt64 v5)) else
  (if (q28 - q31) = (0 : Int64) then (some (-2 : Int64)) else
  (if (a22 - a25) ≤ (0 : Int64) then (if (q28 - q31) ≤ (0 : Int64) then (if (0 : Int32) = (0 : Int32) then ((f_X11_divisor (a22 - a25) (q28 - q31) S).bind fun q39 =>
  if v5 = (0 : Int32) then ((dL (a22 - a25) q39).bind fun a47 =>
  if (0 : Int64) ≤ a47 then (some a47) else
  (some (-a47))) else
  ((dL (q28 - q31) q39).bind fun a43 =>
  if (0 : Int64) ≤ a43 then (some a43) else
  (some (-a43)))) else
  (some (-2 : Int64))) else
  (if (0 : Int32) = (1 : Int32) then ((f_X11_divisor (a22 - a25) (q28 - q31) S).bind fun q52 =>
  if v5 = (0 : Int32) then ((dL (a22 - a25) q52).bind fun a60 =>
  if (0 : Int64) ≤ a60 then (some a60) else
  (some (-a60))) else
  ((dL (q28 - q31) q52).bind fun a56 =>
  if (0 : Int64) ≤ a56 then (some a56) else
  (some (-a56)))) else
  (some (-2 : Int64)))) else
  (if (q28 - q31) ≤ (0 : Int64) then (if (1 : Int32) = (0 : Int32) then ((f_X11_divisor (a22 - a25) (q28 - q31) S).bind fun q66 =>
  if v5 = (0 : Int32) then ((dL (a22 - a25) q66).bind fun a74 =>
  if (0 : Int64) ≤ a74 then (some a74) else
  (some (-a74))) else
  ((dL (q28 - q31) q66).bind fun a70 =>
  if (0 : Int64) ≤ a70 then (some a70) else
  (some (-a70)))) else
  (some (-2 : Int64))) else
  (if (1 : Int32) = (1 : Int32) then ((f_X11_divisor (a22 - a25) (q28 - q31) S).bind fun q79 =>
  if v5 = (0 : Int32) then ((dL (a22 - a25) q79).bind fun a87 =>
  if (0 : Int64) ≤ a87 then (some a87) else
  (some (-a87))) else
  ((dL (q28 - q31) q79).bind fun a83 =>
  if (0 : Int64) ≤ a83 then (some a83) else
  (some (-a83)))) else
  (some (-2 : Int64))))))))))))
set_option maxHeartbeats 4000000 in
set_option maxRecDepth 100000 in
theorem ok_X11_even {X : mm_C} {RR : Nat → Nat → Option Nat} (hR : RRok RR) {v1 : Int32} {v2 : Int32} {v3 : Int32} {v4 : Int32} {v5 : Int32}  {S : fS} {r : Int64} (h : f_X11_even v1 v2 v3 v4 v5 S = some r) : mr X 1 mY_X11_even 0 (lv_args 0 [.ref 145, .int v1, .int v2, .int v3, .int v4, .int v5]) [] (MM RR S) (some (.long r), MM RR S) := by
  unfold f_X11_even at h
  show mr X _ _ 0 [(0, .ref 145), (1, .int v1), (2, .int v2), (3, .int v3), (4, .int v4), (5, .int v5)] [] (MM RR S) _
  refine mr_aload_n (pc' := 1) dX11_even_0 rfl rfl ?_
  refine mr_iload_n (pc' := 2) dX11_even_1 rfl rfl ?_
  obtain ⟨q1, g2, h3⟩ := Option.bind_eq_some_iff.mp h
  refine mr_cv (pc' := 5) (a := 145) (d1 := 0) dX11_even_2 rfl rfl rfl rfl rfl rfl (by decide) rfl (by decide) (ok_X11_isThing hR  g2) ?_
  show mr X _ _ 5 _ [.int q1] (MM RR S) _
  by_cases c4 : q1 = (0 : Int32)
  · rw [if_pos c4] at h3
    refine mr_if_eq_t (t := 49) dX11_even_5 (by decide) c4 ?_
    refine mr_ldc2 (pc' := 52) (v := (-1 : Int64)) dX11_even_49 rfl rfl ?_
    obtain rfl := Option.some.inj h3
    exact mr_lreturn dX11_even_52 rfl
  · rw [if_neg c4] at h3
    refine mr_if_eq_f (t := 49) (pc' := 8) dX11_even_5 (by decide) rfl c4 ?_
    refine mr_aload_n (pc' := 9) dX11_even_8 rfl rfl ?_
    refine mr_iload_n (pc' := 10) dX11_even_9 rfl rfl ?_
    obtain ⟨q5, g6, h7⟩ := Option.bind_eq_some_iff.mp h3
    refine mr_cv (pc' := 13) (a := 145) (d1 := 0) dX11_even_10 rfl rfl rfl rfl rfl rfl (by decide) rfl (by decide) (ok_X11_isThing hR  g6) ?_
    show mr X _ _ 13 _ [.int q5] (MM RR S) _
    by_cases c8 : q5 = (0 : Int32)
    · rw [if_pos c8] at h7
      refine mr_if_eq_t (t := 49) dX11_even_13 (by decide) c8 ?_
      refine mr_ldc2 (pc' := 52) (v := (-1 : Int64)) dX11_even_49 rfl rfl ?_
      obtain rfl := Option.some.inj h7
      exact mr_lreturn dX11_even_52 rfl
    · rw [if_neg c8] at h7
      refine mr_if_eq_f (t := 49) (pc' := 16) dX11_even_13 (by decide) rfl c8 ?_
      refine mr_iload_n (pc' := 17) dX11_even_16 rfl rfl ?_
      refine mr_iload_n (pc' := 18) dX11_even_17 rfl rfl ?_
      by_cases c9 : v1 = v2
      · rw [if_pos c9] at h7
        refine mr_icmp_eq_t (t := 49) dX11_even_18 (by decide) c9 ?_
        refine mr_ldc2 (pc' := 52) (v := (-1 : Int64)) dX11_even_49 rfl rfl ?_
        obtain rfl := Option.some.inj h7
        exact mr_lreturn dX11_even_52 rfl
      · rw [if_neg c9] at h7
        refine mr_icmp_eq_f (t := 49) (pc' := 21) dX11_even_18 (by decide) rfl c9 ?_
        refine mr_aload_n (pc' := 22) dX11_even_21 rfl rfl ?_
        refine mr_iload_n (pc' := 23) dX11_even_22 rfl rfl ?_
        obtain ⟨q10, g11, h12⟩ := Option.bind_eq_some_iff.mp h7
        refine mr_cv (pc' := 26) (a := 145) (d1 := 0) dX11_even_23 rfl rfl rfl rfl rfl rfl (by decide) rfl (by decide) (ok_X11_isFloor hR  g11) ?_
        show mr X _ _ 26 _ [.int q10] (MM RR S) _
        by_cases c13 : q10 = (0 : Int32)
        · rw [if_pos c13] at h12
          refine mr_if_eq_t (t := 49) dX11_even_26 (by decide) c13 ?_
          refine mr_ldc2 (pc' := 52) (v := (-1 : Int64)) dX11_even_49 rfl rfl ?_
          obtain rfl := Option.some.inj h12
          exact mr_lreturn dX11_even_52 rfl
        · rw [if_neg c13] at h12
          refine mr_if_eq_f (t := 49) (pc' := 29) dX11_even_26 (by decide) rfl c13 ?_
          refine mr_aload_n (pc' := 30) dX11_even_29 rfl rfl ?_
          refine mr_iload (pc' := 32) dX11_even_30 rfl rfl ?_
          obtain ⟨q14, g15, h16⟩ := Option.bind_eq_some_iff.mp h12
          refine mr_cv (pc' := 35) (a := 145) (d1 := 0) dX11_even_32 rfl rfl rfl rfl rfl rfl (by decide) rfl (by decide) (ok_X11_isFloor hR  g15) ?_
          show mr X _ _ 35 _ [.int q14] (MM RR S) _
          by_cases c17 : q14 = (0 : Int32)
          · rw [if_pos c17] at h16
            refine mr_if_eq_t (t := 49) dX11_even_35 (by decide) c17 ?_
            refine mr_ldc2 (pc' := 52) (v := (-1 : Int64)) dX11_even_49 rfl rfl ?_
            obtain rfl := Option.some.inj h16
            exact mr_lreturn dX11_even_52 rfl
          · rw [if_neg c17] at h16
            refine mr_if_eq_f (t := 49) (pc' := 38) dX11_even_35 (by decide) rfl c17 ?_
            refine mr_iload (pc' := 40) dX11_even_38 rfl rfl ?_
            refine mr_i2l (pc' := 41) dX11_even_40 rfl ?_
            refine mr_lconst (pc' := 42) (v := (0 : Int64)) dX11_even_41 rfl (by decide) ?_
            refine mr_lconst (pc' := 43) (v := (1 : Int64)) dX11_even_42 rfl (by decide) ?_
            obtain ⟨q18, g19, h20⟩ := Option.bind_eq_some_iff.mp h16
            refine mr_cs (pc' := 46) (d1 := 0) dX11_even_43 rfl rfl rfl rfl (by decide) (Nat.le_of_ble_eq_true rfl) rfl rfl rfl (by decide) (ok_X11_in hR  g19) ?_
            show mr X _ _ 46 _ [.int q18] (MM RR S) _
            by_cases c21 : q18 = (0 : Int32)
            · rw [if_pos c21] at h20
              refine mr_if_ne_f (t := 53) (pc' := 49) dX11_even_46 (by decide) rfl (not_not_intro c21) ?_
              refine mr_ldc2 (pc' := 52) (v := (-1 : Int64)) dX11_even_49 rfl rfl ?_
              obtain rfl := Option.some.inj h20
              exact mr_lreturn dX11_even_52 rfl
            · rw [if_neg c21] at h20
              refine mr_if_ne_t (t := 53) dX11_even_46 (by decide) c21 ?_
              refine mr_aload_n (pc' := 54) dX11_even_53 rfl rfl ?_
              refine mr_getR (pc' := 57) (ci := 11) (j := 26) (b := 158) hR dX11_even_54 rfl rfl rfl (by decide) (by decide) (by decide) rfl rfl ?_
              refine mr_iload_n (pc' := 58) dX11_even_57 rfl rfl ?_
              obtain ⟨a22, g23, h24⟩ := Option.bind_eq_some_iff.mp h20
              refine mr_lald (pc' := 59) dX11_even_58 rfl rfl rfl g23 ?_
              refine mr_aload_n (pc' := 60) dX11_even_59 rfl rfl ?_
              refine mr_getR (pc' := 63) (ci := 11) (j := 26) (b := 158) hR dX11_even_60 rfl rfl rfl (by decide) (by decide) (by decide) rfl rfl ?_
              refine mr_iload_n (pc' := 64) dX11_even_63 rfl rfl ?_
              obtain ⟨a25, g26, h27⟩ := Option.bind_eq_some_iff.mp h24
              refine mr_lald (pc' := 65) dX11_even_64 rfl rfl rfl g26 ?_
              refine mr_lsub (pc' := 66) dX11_even_65 rfl ?_
              refine mr_lstore (pc' := 68) (lv' := [(6, .long (a22 - a25)), (0, .ref 145), (1, .int v1), (2, .int v2), (3, .int v3), (4, .int v4), (5, .int v5)]) dX11_even_66 rfl (by decide) rfl ?_
              refine mr_aload_n (pc' := 69) dX11_even_68 rfl rfl ?_
              refine mr_iload_n (pc' := 70) dX11_even_69 rfl rfl ?_
              obtain ⟨q28, g29, h30⟩ := Option.bind_eq_some_iff.mp h27
              refine mr_cv (pc' := 73) (a := 145) (d1 := 0) dX11_even_70 rfl rfl rfl rfl rfl rfl (by decide) rfl (by decide) (ok_X11_floorParts hR  g29) ?_
              show mr X _ _ 73 _ [.long q28] (MM RR S) _
              refine mr_aload_n (pc' := 74) dX11_even_73 rfl rfl ?_
              refine mr_iload (pc' := 76) dX11_even_74 rfl rfl ?_
              obtain ⟨q31, g32, h33⟩ := Option.bind_eq_some_iff.mp h30
              refine mr_cv (pc' := 79) (a := 145) (d1 := 0) dX11_even_76 rfl rfl rfl rfl rfl rfl (by decide) rfl (by decide) (ok_X11_floorParts hR  g32) ?_
              show mr X _ _ 79 _ [.long q31, .long q28] (MM RR S) _
              refine mr_lsub (pc' := 80) dX11_even_79 rfl ?_
              refine mr_lstore (pc' := 82) (lv' := [(8, .long (q28 - q31)), (6, .long (a22 - a25)), (0, .ref 145), (1, .int v1), (2, .int v2), (3, .int v3), (4, .int v4), (5, .int v5)]) dX11_even_80 rfl (by decide) rfl ?_
              refine mr_lload (pc' := 84) dX11_even_82 rfl rfl ?_
              refine mr_lconst (pc' := 85) (v := (0 : Int64)) dX11_even_84 rfl (by decide) ?_
              by_cases c34 : (a22 - a25) = (0 : Int64)
              · rw [if_pos c34] at h33
                refine mr_lcmp_ne_f (t := 93) (pc' := 89) dX11_even_85 rfl dX11_even_86 (by decide) rfl (not_not_intro c34) ?_
                refine mr_iload (pc' := 91) dX11_even_89 rfl rfl ?_
                refine mr_i2l (pc' := 92) dX11_even_91 rfl ?_
                obtain rfl := Option.some.inj h33
                exact mr_lreturn dX11_even_92 rfl
              · rw [if_neg c34] at h33
                refine mr_lcmp_ne_t (t := 93) dX11_even_85 rfl dX11_even_86 (by decide) c34 ?_
                refine mr_lload (pc' := 95) dX11_even_93 rfl rfl ?_
                refine mr_lconst (pc' := 96) (v := (0 : Int64)) dX11_even_95 rfl (by decide) ?_
                by_cases c35 : (q28 - q31) = (0 : Int64)
                · rw [if_pos c35] at h33
                  refine mr_lcmp_eq_t (t := 127) dX11_even_96 rfl dX11_even_97 (by decide) c35 ?_
                  refine mr_ldc2 (pc' := 130) (v := (-2 : Int64)) dX11_even_127 rfl rfl ?_
                  obtain rfl := Option.some.inj h33
                  exact mr_lreturn dX11_even_130 rfl
                · rw [if_neg c35] at h33
                  refine mr_lcmp_eq_f (t := 127) (pc' := 100) dX11_even_96 rfl dX11_even_97 (by decide) rfl c35 ?_
                  refine mr_lload (pc' := 102) dX11_even_100 rfl rfl ?_
                  refine mr_lconst (pc' := 103) (v := (0 : Int64)) dX11_even_102 rfl (by decide) ?_
                  by_cases c36 : (a22 - a25) ≤ (0 : Int64)
                  · rw [if_pos c36] at h33
                    refine mr_lcmp_le_t (t := 111) dX11_even_103 rfl dX11_even_104 (by decide) c36 ?_
                    refine mr_iconst (pc' := 112) (v := (0 : Int32)) dX11_even_111 rfl (by decide) ?_
                    refine mr_lload (pc' := 114) dX11_even_112 rfl rfl ?_
                    refine mr_lconst (pc' := 115) (v := (0 : Int64)) dX11_even_114 rfl (by decide) ?_
                    by_cases c37 : (q28 - q31) ≤ (0 : Int64)
                    · rw [if_pos c37] at h33
                      refine mr_lcmp_le_t (t := 123) dX11_even_115 rfl dX11_even_116 (by decide) c37 ?_
                      refine mr_iconst (pc' := 124) (v := (0 : Int32)) dX11_even_123 rfl (by decide) ?_
                      by_cases c38 : (0 : Int32) = (0 : Int32)
                      · rw [if_pos c38] at h33
                        refine mr_icmp_eq_t (t := 131) dX11_even_124 (by decide) c38 ?_
                        refine mr_lload (pc' := 133) dX11_even_131 rfl rfl ?_
                        refine mr_lload (pc' := 135) dX11_even_133 rfl rfl ?_
                        obtain ⟨q39, g40, h41⟩ := Option.bind_eq_some_iff.mp h33
                        refine mr_cs (pc' := 138) (d1 := 0) dX11_even_135 rfl rfl rfl rfl (by decide) (Nat.le_of_ble_eq_true rfl) rfl rfl rfl (by decide) (ok_X11_divisor hR  g40) ?_
                        show mr X _ _ 138 _ [.long q39] (MM RR S) _
                        refine mr_lstore (pc' := 140) (lv' := [(10, .long q39), (8, .long (q28 - q31)), (6, .long (a22 - a25)), (0, .ref 145), (1, .int v1), (2, .int v2), (3, .int v3), (4, .int v4), (5, .int v5)]) dX11_even_138 rfl (by decide) rfl ?_
                        refine mr_iload (pc' := 142) dX11_even_140 rfl rfl ?_
                        by_cases c42 : v5 = (0 : Int32)
                        · rw [if_pos c42] at h41
                          refine mr_if_ne_f (t := 150) (pc' := 145) dX11_even_142 (by decide) rfl (not_not_intro c42) ?_
                          refine mr_lload (pc' := 147) dX11_even_145 rfl rfl ?_
                          refine mr_goto (t := 152) dX11_even_147 (by decide) ?_
                          refine mr_lload (pc' := 154) dX11_even_152 rfl rfl ?_
                          obtain ⟨a47, g48, h49⟩ := Option.bind_eq_some_iff.mp h41
                          refine mr_ldiv (pc' := 155) dX11_even_154 rfl g48 ?_
                          refine mr_lstore (pc' := 157) (lv' := [(12, .long a47), (10, .long q39), (8, .long (q28 - q31)), (6, .long (a22 - a25)), (0, .ref 145), (1, .int v1), (2, .int v2), (3, .int v3), (4, .int v4), (5, .int v5)]) dX11_even_155 rfl (by decide) rfl ?_
                          refine mr_lload (pc' := 159) dX11_even_157 rfl rfl ?_
                          refine mr_lconst (pc' := 160) (v := (0 : Int64)) dX11_even_159 rfl (by decide) ?_
                          by_cases c50 : (0 : Int64) ≤ a47
                          · rw [if_pos c50] at h49
                            refine mr_lcmp_ge_t (t := 170) dX11_even_160 rfl dX11_even_161 (by decide) c50 ?_
                            refine mr_lload (pc' := 172) dX11_even_170 rfl rfl ?_
                            obtain rfl := Option.some.inj h49
                            exact mr_lreturn dX11_even_172 rfl
                          · rw [if_neg c50] at h49
                            refine mr_lcmp_ge_f (t := 170) (pc' := 164) dX11_even_160 rfl dX11_even_161 (by decide) rfl c50 ?_
                            refine mr_lload (pc' := 166) dX11_even_164 rfl rfl ?_
                            refine mr_lneg (pc' := 167) dX11_even_166 rfl ?_
                            refine mr_goto (t := 172) dX11_even_167 (by decide) ?_
                            obtain rfl := Option.some.inj h49
                            exact mr_lreturn dX11_even_172 rfl
                        · rw [if_neg c42] at h41
                          refine mr_if_ne_t (t := 150) dX11_even_142 (by decide) c42 ?_
                          refine mr_lload (pc' := 152) dX11_even_150 rfl rfl ?_
                          refine mr_lload (pc' := 154) dX11_even_152 rfl rfl ?_
                          obtain ⟨a43, g44, h45⟩ := Option.bind_eq_some_iff.mp h41
                          refine mr_ldiv (pc' := 155) dX11_even_154 rfl g44 ?_
                          refine mr_lstore (pc' := 157) (lv' := [(12, .long a43), (10, .long q39), (8, .long (q28 - q31)), (6, .long (a22 - a25)), (0, .ref 145), (1, .int v1), (2, .int v2), (3, .int v3), (4, .int v4), (5, .int v5)]) dX11_even_155 rfl (by decide) rfl ?_
                          refine mr_lload (pc' := 159) dX11_even_157 rfl rfl ?_
                          refine mr_lconst (pc' := 160) (v := (0 : Int64)) dX11_even_159 rfl (by decide) ?_
                          by_cases c46 : (0 : Int64) ≤ a43
                          · rw [if_pos c46] at h45
                            refine mr_lcmp_ge_t (t := 170) dX11_even_160 rfl dX11_even_161 (by decide) c46 ?_
                            refine mr_lload (pc' := 172) dX11_even_170 rfl rfl ?_
                            obtain rfl := Option.some.inj h45
                            exact mr_lreturn dX11_even_172 rfl
                          · rw [if_neg c46] at h45
                            refine mr_lcmp_ge_f (t := 170) (pc' := 164) dX11_even_160 rfl dX11_even_161 (by decide) rfl c46 ?_
                            refine mr_lload (pc' := 166) dX11_even_164 rfl rfl ?_
                            refine mr_lneg (pc' := 167) dX11_even_166 rfl ?_
                            refine mr_goto (t := 172) dX11_even_167 (by decide) ?_
                            obtain rfl := Option.some.inj h45
                            exact mr_lreturn dX11_even_172 rfl
                      · rw [if_neg c38] at h33
                        refine mr_icmp_eq_f (t := 131) (pc' := 127) dX11_even_124 (by decide) rfl c38 ?_
                        refine mr_ldc2 (pc' := 130) (v := (-2 : Int64)) dX11_even_127 rfl rfl ?_
                        obtain rfl := Option.some.inj h33
                        exact mr_lreturn dX11_even_130 rfl
                    · rw [if_neg c37] at h33
                      refine mr_lcmp_le_f (t := 123) (pc' := 119) dX11_even_115 rfl dX11_even_116 (by decide) rfl c37 ?_
                      refine mr_iconst (pc' := 120) (v := (1 : Int32)) dX11_even_119 rfl (by decide) ?_
                      refine mr_goto (t := 124) dX11_even_120 (by decide) ?_
                      by_cases c51 : (0 : Int32) = (1 : Int32)
                      · rw [if_pos c51] at h33
                        refine mr_icmp_eq_t (t := 131) dX11_even_124 (by decide) c51 ?_
                        refine mr_lload (pc' := 133) dX11_even_131 rfl rfl ?_
                        refine mr_lload (pc' := 135) dX11_even_133 rfl rfl ?_
                        obtain ⟨q52, g53, h54⟩ := Option.bind_eq_some_iff.mp h33
                        refine mr_cs (pc' := 138) (d1 := 0) dX11_even_135 rfl rfl rfl rfl (by decide) (Nat.le_of_ble_eq_true rfl) rfl rfl rfl (by decide) (ok_X11_divisor hR  g53) ?_
                        show mr X _ _ 138 _ [.long q52] (MM RR S) _
                        refine mr_lstore (pc' := 140) (lv' := [(10, .long q52), (8, .long (q28 - q31)), (6, .long (a22 - a25)), (0, .ref 145), (1, .int v1), (2, .int v2), (3, .int v3), (4, .int v4), (5, .int v5)]) dX11_even_138 rfl (by decide) rfl ?_
                        refine mr_iload (pc' := 142) dX11_even_140 rfl rfl ?_
                        by_cases c55 : v5 = (0 : Int32)
                        · rw [if_pos c55] at h54
                          refine mr_if_ne_f (t := 150) (pc' := 145) dX11_even_142 (by decide) rfl (not_not_intro c55) ?_
                          refine mr_lload (pc' := 147) dX11_even_145 rfl rfl ?_
                          refine mr_goto (t := 152) dX11_even_147 (by decide) ?_
                          refine mr_lload (pc' := 154) dX11_even_152 rfl rfl ?_
                          obtain ⟨a60, g61, h62⟩ := Option.bind_eq_some_iff.mp h54
                          refine mr_ldiv (pc' := 155) dX11_even_154 rfl g61 ?_
                          refine mr_lstore (pc' := 157) (lv' := [(12, .long a60), (10, .long q52), (8, .long (q28 - q31)), (6, .long (a22 - a25)), (0, .ref 145), (1, .int v1), (2, .int v2), (3, .int v3), (4, .int v4), (5, .int v5)]) dX11_even_155 rfl (by decide) rfl ?_
                          refine mr_lload (pc' := 159) dX11_even_157 rfl rfl ?_
                          refine mr_lconst (pc' := 160) (v := (0 : Int64)) dX11_even_159 rfl (by decide) ?_
                          by_cases c63 : (0 : Int64) ≤ a60
                          · rw [if_pos c63] at h62
                            refine mr_lcmp_ge_t (t := 170) dX11_even_160 rfl dX11_even_161 (by decide) c63 ?_
                            refine mr_lload (pc' := 172) dX11_even_170 rfl rfl ?_
                            obtain rfl := Option.some.inj h62
                            exact mr_lreturn dX11_even_172 rfl
                          · rw [if_neg c63] at h62
                            refine mr_lcmp_ge_f (t := 170) (pc' := 164) dX11_even_160 rfl dX11_even_161 (by decide) rfl c63 ?_
                            refine mr_lload (pc' := 166) dX11_even_164 rfl rfl ?_
                            refine mr_lneg (pc' := 167) dX11_even_166 rfl ?_
                            refine mr_goto (t := 172) dX11_even_167 (by decide) ?_
                            obtain rfl := Option.some.inj h62
                            exact mr_lreturn dX11_even_172 rfl
                        · rw [if_neg c55] at h54
                          refine mr_if_ne_t (t := 150) dX11_even_142 (by decide) c55 ?_
                          refine mr_lload (pc' := 152) dX11_even_150 rfl rfl ?_
                          refine mr_lload (pc' := 154) dX11_even_152 rfl rfl ?_
                          obtain ⟨a56, g57, h58⟩ := Option.bind_eq_some_iff.mp h54
                          refine mr_ldiv (pc' := 155) dX11_even_154 rfl g57 ?_
                          refine mr_lstore (pc' := 157) (lv' := [(12, .long a56), (10, .long q52), (8, .long (q28 - q31)), (6, .long (a22 - a25)), (0, .ref 145), (1, .int v1), (2, .int v2), (3, .int v3), (4, .int v4), (5, .int v5)]) dX11_even_155 rfl (by decide) rfl ?_
                          refine mr_lload (pc' := 159) dX11_even_157 rfl rfl ?_
                          refine mr_lconst (pc' := 160) (v := (0 : Int64)) dX11_even_159 rfl (by decide) ?_
                          by_cases c59 : (0 : Int64) ≤ a56
                          · rw [if_pos c59] at h58
                            refine mr_lcmp_ge_t (t := 170) dX11_even_160 rfl dX11_even_161 (by decide) c59 ?_
                            refine mr_lload (pc' := 172) dX11_even_170 rfl rfl ?_
                            obtain rfl := Option.some.inj h58
                            exact mr_lreturn dX11_even_172 rfl
                          · rw [if_neg c59] at h58
                            refine mr_lcmp_ge_f (t := 170) (pc' := 164) dX11_even_160 rfl dX11_even_161 (by decide) rfl c59 ?_
                            refine mr_lload (pc' := 166) dX11_even_164 rfl rfl ?_
                            refine mr_lneg (pc' := 167) dX11_even_166 rfl ?_
                            refine mr_goto (t := 172) dX11_even_167 (by decide) ?_
                            obtain rfl := Option.some.inj h58
                            exact mr_lreturn dX11_even_172 rfl
                      · rw [if_neg c51] at h33
                        refine mr_icmp_eq_f (t := 131) (pc' := 127) dX11_even_124 (by decide) rfl c51 ?_
                        refine mr_ldc2 (pc' := 130) (v := (-2 : Int64)) dX11_even_127 rfl rfl ?_
                        obtain rfl := Option.some.inj h33
                        exact mr_lreturn dX11_even_130 rfl
                  · rw [if_neg c36] at h33
                    refine mr_lcmp_le_f (t := 111) (pc' := 107) dX11_even_103 rfl dX11_even_104 (by decide) rfl c36 ?_
                    refine mr_iconst (pc' := 108) (v := (1 : Int32)) dX11_even_107 rfl (by decide) ?_
                    refine mr_goto (t := 112) dX11_even_108 (by decide) ?_
                    refine mr_lload (pc' := 114) dX11_even_112 rfl rfl ?_
                    refine mr_lconst (pc' := 115) (v := (0 : Int64)) dX11_even_114 rfl (by decide) ?_
                    by_cases c64 : (q28 - q31) ≤ (0 : Int64)
                    · rw [if_pos c64] at h33
                      refine mr_lcmp_le_t (t := 123) dX11_even_115 rfl dX11_even_116 (by decide) c64 ?_
                      refine mr_iconst (pc' := 124) (v := (0 : Int32)) dX11_even_123 rfl (by decide) ?_
                      by_cases c65 : (1 : Int32) = (0 : Int32)
                      · rw [if_pos c65] at h33
                        refine mr_icmp_eq_t (t := 131) dX11_even_124 (by decide) c65 ?_
                        refine mr_lload (pc' := 133) dX11_even_131 rfl rfl ?_
                        refine mr_lload (pc' := 135) dX11_even_133 rfl rfl ?_
                        obtain ⟨q66, g67, h68⟩ := Option.bind_eq_some_iff.mp h33
                        refine mr_cs (pc' := 138) (d1 := 0) dX11_even_135 rfl rfl rfl rfl (by decide) (Nat.le_of_ble_eq_true rfl) rfl rfl rfl (by decide) (ok_X11_divisor hR  g67) ?_
                        show mr X _ _ 138 _ [.long q66] (MM RR S) _
                        refine mr_lstore (pc' := 140) (lv' := [(10, .long q66), (8, .long (q28 - q31)), (6, .long (a22 - a25)), (0, .ref 145), (1, .int v1), (2, .int v2), (3, .int v3), (4, .int v4), (5, .int v5)]) dX11_even_138 rfl (by decide) rfl ?_
                        refine mr_iload (pc' := 142) dX11_even_140 rfl rfl ?_
                        by_cases c69 : v5 = (0 : Int32)
                        · rw [if_pos c69] at h68
                          refine mr_if_ne_f (t := 150) (pc' := 145) dX11_even_142 (by decide) rfl (not_not_intro c69) ?_
                          refine mr_lload (pc' := 147) dX11_even_145 rfl rfl ?_
                          refine mr_goto (t := 152) dX11_even_147 (by decide) ?_
                          refine mr_lload (pc' := 154) dX11_even_152 rfl rfl ?_
                          obtain ⟨a74, g75, h76⟩ := Option.bind_eq_some_iff.mp h68
                          refine mr_ldiv (pc' := 155) dX11_even_154 rfl g75 ?_
                          refine mr_lstore (pc' := 157) (lv' := [(12, .long a74), (10, .long q66), (8, .long (q28 - q31)), (6, .long (a22 - a25)), (0, .ref 145), (1, .int v1), (2, .int v2), (3, .int v3), (4, .int v4), (5, .int v5)]) dX11_even_155 rfl (by decide) rfl ?_
                          refine mr_lload (pc' := 159) dX11_even_157 rfl rfl ?_
                          refine mr_lconst (pc' := 160) (v := (0 : Int64)) dX11_even_159 rfl (by decide) ?_
                          by_cases c77 : (0 : Int64) ≤ a74
                          · rw [if_pos c77] at h76
                            refine mr_lcmp_ge_t (t := 170) dX11_even_160 rfl dX11_even_161 (by decide) c77 ?_
                            refine mr_lload (pc' := 172) dX11_even_170 rfl rfl ?_
                            obtain rfl := Option.some.inj h76
                            exact mr_lreturn dX11_even_172 rfl
                          · rw [if_neg c77] at h76
                            refine mr_lcmp_ge_f (t := 170) (pc' := 164) dX11_even_160 rfl dX11_even_161 (by decide) rfl c77 ?_
                            refine mr_lload (pc' := 166) dX11_even_164 rfl rfl ?_
                            refine mr_lneg (pc' := 167) dX11_even_166 rfl ?_
                            refine mr_goto (t := 172) dX11_even_167 (by decide) ?_
                            obtain rfl := Option.some.inj h76
                            exact mr_lreturn dX11_even_172 rfl
                        · rw [if_neg c69] at h68
                          refine mr_if_ne_t (t := 150) dX11_even_142 (by decide) c69 ?_
                          refine mr_lload (pc' := 152) dX11_even_150 rfl rfl ?_
                          refine mr_lload (pc' := 154) dX11_even_152 rfl rfl ?_
                          obtain ⟨a70, g71, h72⟩ := Option.bind_eq_some_iff.mp h68
                          refine mr_ldiv (pc' := 155) dX11_even_154 rfl g71 ?_
                          refine mr_lstore (pc' := 157) (lv' := [(12, .long a70), (10, .long q66), (8, .long (q28 - q31)), (6, .long (a22 - a25)), (0, .ref 145), (1, .int v1), (2, .int v2), (3, .int v3), (4, .int v4), (5, .int v5)]) dX11_even_155 rfl (by decide) rfl ?_
                          refine mr_lload (pc' := 159) dX11_even_157 rfl rfl ?_
                          refine mr_lconst (pc' := 160) (v := (0 : Int64)) dX11_even_159 rfl (by decide) ?_
                          by_cases c73 : (0 : Int64) ≤ a70
                          · rw [if_pos c73] at h72
                            refine mr_lcmp_ge_t (t := 170) dX11_even_160 rfl dX11_even_161 (by decide) c73 ?_
                            refine mr_lload (pc' := 172) dX11_even_170 rfl rfl ?_
                            obtain rfl := Option.some.inj h72
                            exact mr_lreturn dX11_even_172 rfl
                          · rw [if_neg c73] at h72
                            refine mr_lcmp_ge_f (t := 170) (pc' := 164) dX11_even_160 rfl dX11_even_161 (by decide) rfl c73 ?_
                            refine mr_lload (pc' := 166) dX11_even_164 rfl rfl ?_
                            refine mr_lneg (pc' := 167) dX11_even_166 rfl ?_
                            refine mr_goto (t := 172) dX11_even_167 (by decide) ?_
                            obtain rfl := Option.some.inj h72
                            exact mr_lreturn dX11_even_172 rfl
                      · rw [if_neg c65] at h33
                        refine mr_icmp_eq_f (t := 131) (pc' := 127) dX11_even_124 (by decide) rfl c65 ?_
                        refine mr_ldc2 (pc' := 130) (v := (-2 : Int64)) dX11_even_127 rfl rfl ?_
                        obtain rfl := Option.some.inj h33
                        exact mr_lreturn dX11_even_130 rfl
                    · rw [if_neg c64] at h33
                      refine mr_lcmp_le_f (t := 123) (pc' := 119) dX11_even_115 rfl dX11_even_116 (by decide) rfl c64 ?_
                      refine mr_iconst (pc' := 120) (v := (1 : Int32)) dX11_even_119 rfl (by decide) ?_
                      refine mr_goto (t := 124) dX11_even_120 (by decide) ?_
                      by_cases c78 : (1 : Int32) = (1 : Int32)
                      · rw [if_pos c78] at h33
                        refine mr_icmp_eq_t (t := 131) dX11_even_124 (by decide) c78 ?_
                        refine mr_lload (pc' := 133) dX11_even_131 rfl rfl ?_
                        refine mr_lload (pc' := 135) dX11_even_133 rfl rfl ?_
                        obtain ⟨q79, g80, h81⟩ := Option.bind_eq_some_iff.mp h33
                        refine mr_cs (pc' := 138) (d1 := 0) dX11_even_135 rfl rfl rfl rfl (by decide) (Nat.le_of_ble_eq_true rfl) rfl rfl rfl (by decide) (ok_X11_divisor hR  g80) ?_
                        show mr X _ _ 138 _ [.long q79] (MM RR S) _
                        refine mr_lstore (pc' := 140) (lv' := [(10, .long q79), (8, .long (q28 - q31)), (6, .long (a22 - a25)), (0, .ref 145), (1, .int v1), (2, .int v2), (3, .int v3), (4, .int v4), (5, .int v5)]) dX11_even_138 rfl (by decide) rfl ?_
                        refine mr_iload (pc' := 142) dX11_even_140 rfl rfl ?_
                        by_cases c82 : v5 = (0 : Int32)
                        · rw [if_pos c82] at h81
                          refine mr_if_ne_f (t := 150) (pc' := 145) dX11_even_142 (by decide) rfl (not_not_intro c82) ?_
                          refine mr_lload (pc' := 147) dX11_even_145 rfl rfl ?_
                          refine mr_goto (t := 152) dX11_even_147 (by decide) ?_
                          refine mr_lload (pc' := 154) dX11_even_152 rfl rfl ?_
                          obtain ⟨a87, g88, h89⟩ := Option.bind_eq_some_iff.mp h81
                          refine mr_ldiv (pc' := 155) dX11_even_154 rfl g88 ?_
                          refine mr_lstore (pc' := 157) (lv' := [(12, .long a87), (10, .long q79), (8, .long (q28 - q31)), (6, .long (a22 - a25)), (0, .ref 145), (1, .int v1), (2, .int v2), (3, .int v3), (4, .int v4), (5, .int v5)]) dX11_even_155 rfl (by decide) rfl ?_
                          refine mr_lload (pc' := 159) dX11_even_157 rfl rfl ?_
                          refine mr_lconst (pc' := 160) (v := (0 : Int64)) dX11_even_159 rfl (by decide) ?_
                          by_cases c90 : (0 : Int64) ≤ a87
                          · rw [if_pos c90] at h89
                            refine mr_lcmp_ge_t (t := 170) dX11_even_160 rfl dX11_even_161 (by decide) c90 ?_
                            refine mr_lload (pc' := 172) dX11_even_170 rfl rfl ?_
                            obtain rfl := Option.some.inj h89
                            exact mr_lreturn dX11_even_172 rfl
                          · rw [if_neg c90] at h89
                            refine mr_lcmp_ge_f (t := 170) (pc' := 164) dX11_even_160 rfl dX11_even_161 (by decide) rfl c90 ?_
                            refine mr_lload (pc' := 166) dX11_even_164 rfl rfl ?_
                            refine mr_lneg (pc' := 167) dX11_even_166 rfl ?_
                            refine mr_goto (t := 172) dX11_even_167 (by decide) ?_
                            obtain rfl := Option.some.inj h89
                            exact mr_lreturn dX11_even_172 rfl
                        · rw [if_neg c82] at h81
                          refine mr_if_ne_t (t := 150) dX11_even_142 (by decide) c82 ?_
                          refine mr_lload (pc' := 152) dX11_even_150 rfl rfl ?_
                          refine mr_lload (pc' := 154) dX11_even_152 rfl rfl ?_
                          obtain ⟨a83, g84, h85⟩ := Option.bind_eq_some_iff.mp h81
                          refine mr_ldiv (pc' := 155) dX11_even_154 rfl g84 ?_
                          refine mr_lstore (pc' := 157) (lv' := [(12, .long a83), (10, .long q79), (8, .long (q28 - q31)), (6, .long (a22 - a25)), (0, .ref 145), (1, .int v1), (2, .int v2), (3, .int v3), (4, .int v4), (5, .int v5)]) dX11_even_155 rfl (by decide) rfl ?_
                          refine mr_lload (pc' := 159) dX11_even_157 rfl rfl ?_
                          refine mr_lconst (pc' := 160) (v := (0 : Int64)) dX11_even_159 rfl (by decide) ?_
                          by_cases c86 : (0 : Int64) ≤ a83
                          · rw [if_pos c86] at h85
                            refine mr_lcmp_ge_t (t := 170) dX11_even_160 rfl dX11_even_161 (by decide) c86 ?_
                            refine mr_lload (pc' := 172) dX11_even_170 rfl rfl ?_
                            obtain rfl := Option.some.inj h85
                            exact mr_lreturn dX11_even_172 rfl
                          · rw [if_neg c86] at h85
                            refine mr_lcmp_ge_f (t := 170) (pc' := 164) dX11_even_160 rfl dX11_even_161 (by decide) rfl c86 ?_
                            refine mr_lload (pc' := 166) dX11_even_164 rfl rfl ?_
                            refine mr_lneg (pc' := 167) dX11_even_166 rfl ?_
                            refine mr_goto (t := 172) dX11_even_167 (by decide) ?_
                            obtain rfl := Option.some.inj h85
                            exact mr_lreturn dX11_even_172 rfl
                      · rw [if_neg c78] at h33
                        refine mr_icmp_eq_f (t := 131) (pc' := 127) dX11_even_124 (by decide) rfl c78 ?_
                        refine mr_ldc2 (pc' := 130) (v := (-2 : Int64)) dX11_even_127 rfl rfl ?_
                        obtain rfl := Option.some.inj h33
                        exact mr_lreturn dX11_even_130 rfl
def lp_X11_waiting_56 (p1 : Int32) (p2 : Int32) (p3 : Int32) (p4 : Int32) (p5 : Int64) (p7 : Int32) (K : fS → Option (Int32 × fS)) : Nat → Int32 → fS → Option (Int32 × fS)
  | 0, _, _ => none
  | n + 1, p8, S0 =>
    if (10 : Int32) ≤ p8 then (K S0) else
    (if p8 = p7 then ((sL S0 162 1210 (((10 : Int32) * p2) + p8) (0 : Int64)).bind fun S22 =>
    lp_X11_waiting_56 p1 p2 p3 p4 p5 p7 K n (p8 + (1 : Int32)) S22) else
    ((sL S0 162 1210 (((10 : Int32) * p2) + p8) (-1 : Int64)).bind fun S19 =>
    lp_X11_waiting_56 p1 p2 p3 p4 p5 p7 K n (p8 + (1 : Int32)) S19))
set_option maxHeartbeats 4000000 in
set_option maxRecDepth 100000 in
theorem ok_lp_X11_waiting_56 {X : mm_C} {RR : Nat → Nat → Option Nat} (hR : RRok RR) {p1 : Int32} {p2 : Int32} {p3 : Int32} {p4 : Int32} {p5 : Int64} {p7 : Int32}  {K : fS → Option (Int32 × fS)} {r : Int32 × fS} (hK : ∀ (Sk : fS), K Sk = some r → mr X 4 mY_X11_waiting 95 [(0, .ref 145), (1, .int p1), (2, .int p2), (3, .int p3), (4, .int p4), (5, .long p5), (7, .int p7)] [] (MM RR Sk) (some (.int r.1), MM RR r.2)) : ∀ (n : Nat) (p8 : Int32) (S0 : fS), lp_X11_waiting_56 p1 p2 p3 p4 p5 p7 K n p8 S0 = some r → mr X 4 mY_X11_waiting 56 [(0, .ref 145), (1, .int p1), (2, .int p2), (3, .int p3), (4, .int p4), (5, .long p5), (7, .int p7), (8, .int p8)] [] (MM RR S0) (some (.int r.1), MM RR r.2) := by
  intro n
  induction n with
  | zero => intro p8 S0 h; exact mm_no h
  | succ n ih =>
    intro p8 S0 h
    unfold lp_X11_waiting_56 at h
    refine mr_iload (pc' := 58) dX11_waiting_56 rfl rfl ?_
    refine mr_bipush (pc' := 60) (v := (10 : Int32)) dX11_waiting_58 rfl (by decide) ?_
    by_cases c17 : (10 : Int32) ≤ p8
    · rw [if_pos c17] at h
      refine mr_icmp_ge_t (t := 95) dX11_waiting_60 (by decide) c17 ?_
      exact mr_sub [(0, .ref 145), (1, .int p1), (2, .int p2), (3, .int p3), (4, .int p4), (5, .long p5), (7, .int p7)] ⟨rfl, rfl, rfl, rfl, rfl, rfl, rfl, trivial⟩ rfl (hK _  h)
    · rw [if_neg c17] at h
      refine mr_icmp_ge_f (t := 95) (pc' := 63) dX11_waiting_60 (by decide) rfl c17 ?_
      refine mr_aload_n (pc' := 64) dX11_waiting_63 rfl rfl ?_
      refine mr_getR (pc' := 67) (ci := 11) (j := 30) (b := 162) hR dX11_waiting_64 rfl rfl rfl (by decide) (by decide) (by decide) rfl rfl ?_
      refine mr_bipush (pc' := 69) (v := (10 : Int32)) dX11_waiting_67 rfl (by decide) ?_
      refine mr_iload_n (pc' := 70) dX11_waiting_69 rfl rfl ?_
      refine mr_imul (pc' := 71) dX11_waiting_70 rfl ?_
      refine mr_iload (pc' := 73) dX11_waiting_71 rfl rfl ?_
      refine mr_iadd (pc' := 74) dX11_waiting_73 rfl ?_
      refine mr_iload (pc' := 76) dX11_waiting_74 rfl rfl ?_
      refine mr_iload (pc' := 78) dX11_waiting_76 rfl rfl ?_
      by_cases c18 : p8 = p7
      · rw [if_pos c18] at h
        refine mr_icmp_ne_f (t := 85) (pc' := 81) dX11_waiting_78 (by decide) rfl (not_not_intro c18) ?_
        refine mr_lconst (pc' := 82) (v := (0 : Int64)) dX11_waiting_81 rfl (by decide) ?_
        refine mr_goto (t := 88) dX11_waiting_82 (by decide) ?_
        obtain ⟨S22, g23, h24⟩ := Option.bind_eq_some_iff.mp h
        refine mr_last (pc' := 89) dX11_waiting_88 rfl rfl rfl g23 ?_
        refine mr_iinc (pc' := 92) (x' := (p8 + (1 : Int32))) (lv' := [(8, .int (p8 + (1 : Int32))), (0, .ref 145), (1, .int p1), (2, .int p2), (3, .int p3), (4, .int p4), (5, .long p5), (7, .int p7)]) dX11_waiting_89 rfl (by decide) rfl rfl rfl ?_
        refine mr_goto (t := 56) dX11_waiting_92 (by decide) ?_
        exact mr_sub [(0, .ref 145), (1, .int p1), (2, .int p2), (3, .int p3), (4, .int p4), (5, .long p5), (7, .int p7), (8, .int (p8 + (1 : Int32)))] ⟨rfl, rfl, rfl, rfl, rfl, rfl, rfl, rfl, trivial⟩ rfl (ih _ _  h24)
      · rw [if_neg c18] at h
        refine mr_icmp_ne_t (t := 85) dX11_waiting_78 (by decide) c18 ?_
        refine mr_ldc2 (pc' := 88) (v := (-1 : Int64)) dX11_waiting_85 rfl rfl ?_
        obtain ⟨S19, g20, h21⟩ := Option.bind_eq_some_iff.mp h
        refine mr_last (pc' := 89) dX11_waiting_88 rfl rfl rfl g20 ?_
        refine mr_iinc (pc' := 92) (x' := (p8 + (1 : Int32))) (lv' := [(8, .int (p8 + (1 : Int32))), (0, .ref 145), (1, .int p1), (2, .int p2), (3, .int p3), (4, .int p4), (5, .long p5), (7, .int p7)]) dX11_waiting_89 rfl (by decide) rfl rfl rfl ?_
        refine mr_goto (t := 56) dX11_waiting_92 (by decide) ?_
        exact mr_sub [(0, .ref 145), (1, .int p1), (2, .int p2), (3, .int p3), (4, .int p4), (5, .long p5), (7, .int p7), (8, .int (p8 + (1 : Int32)))] ⟨rfl, rfl, rfl, rfl, rfl, rfl, rfl, rfl, trivial⟩ rfl (ih _ _  h21)
def lp_X11_waiting_108 (p1 : Int32) (p2 : Int32) (p3 : Int32) (p4 : Int32) (p5 : Int64) (p7 : Int32) (p8 : Int32) (K : fS → Option (Int32 × fS)) : Nat → Int32 → fS → Option (Int32 × fS)
  | 0, _, _ => none
  | n + 1, p9, S0 =>
    (gI S0 157 158 (0 : Int32)).bind fun a28 =>
    if a28 ≤ p9 then (K S0) else
    ((f_X11_bestFrom p9 p8 p2 p3 S0).bind fun q32 =>
    (sL S0 162 1210 (((10 : Int32) * p8) + p9) q32).bind fun S35 =>
    lp_X11_waiting_108 p1 p2 p3 p4 p5 p7 p8 K n (p9 + (1 : Int32)) S35)
set_option maxHeartbeats 4000000 in
set_option maxRecDepth 100000 in
theorem ok_lp_X11_waiting_108 {X : mm_C} {RR : Nat → Nat → Option Nat} (hR : RRok RR) {p1 : Int32} {p2 : Int32} {p3 : Int32} {p4 : Int32} {p5 : Int64} {p7 : Int32} {p8 : Int32}  {K : fS → Option (Int32 × fS)} {r : Int32 × fS} (hK : ∀ (Sk : fS), K Sk = some r → mr X 4 mY_X11_waiting 148 [(0, .ref 145), (1, .int p1), (2, .int p2), (3, .int p3), (4, .int p4), (5, .long p5), (7, .int p7), (8, .int p8)] [] (MM RR Sk) (some (.int r.1), MM RR r.2)) : ∀ (n : Nat) (p9 : Int32) (S0 : fS), lp_X11_waiting_108 p1 p2 p3 p4 p5 p7 p8 K n p9 S0 = some r → mr X 4 mY_X11_waiting 108 [(0, .ref 145), (1, .int p1), (2, .int p2), (3, .int p3), (4, .int p4), (5, .long p5), (7, .int p7), (8, .int p8), (9, .int p9)] [] (MM RR S0) (some (.int r.1), MM RR r.2) := by
  intro n
  induction n with
  | zero => intro p9 S0 h; exact mm_no h
  | succ n ih =>
    intro p9 S0 h
    unfold lp_X11_waiting_108 at h
    refine mr_iload (pc' := 110) dX11_waiting_108 rfl rfl ?_
    refine mr_aload_n (pc' := 111) dX11_waiting_110 rfl rfl ?_
    refine mr_getR (pc' := 114) (ci := 11) (j := 25) (b := 157) hR dX11_waiting_111 rfl rfl rfl (by decide) (by decide) (by decide) rfl rfl ?_
    refine mr_iconst (pc' := 115) (v := (0 : Int32)) dX11_waiting_114 rfl (by decide) ?_
    obtain ⟨a28, g29, h30⟩ := Option.bind_eq_some_iff.mp h
    refine mr_iald (pc' := 116) dX11_waiting_115 rfl rfl rfl g29 ?_
    by_cases c31 : a28 ≤ p9
    · rw [if_pos c31] at h30
      refine mr_icmp_ge_t (t := 148) dX11_waiting_116 (by decide) c31 ?_
      exact mr_sub [(0, .ref 145), (1, .int p1), (2, .int p2), (3, .int p3), (4, .int p4), (5, .long p5), (7, .int p7), (8, .int p8)] ⟨rfl, rfl, rfl, rfl, rfl, rfl, rfl, rfl, trivial⟩ rfl (hK _  h30)
    · rw [if_neg c31] at h30
      refine mr_icmp_ge_f (t := 148) (pc' := 119) dX11_waiting_116 (by decide) rfl c31 ?_
      refine mr_aload_n (pc' := 120) dX11_waiting_119 rfl rfl ?_
      refine mr_getR (pc' := 123) (ci := 11) (j := 30) (b := 162) hR dX11_waiting_120 rfl rfl rfl (by decide) (by decide) (by decide) rfl rfl ?_
      refine mr_bipush (pc' := 125) (v := (10 : Int32)) dX11_waiting_123 rfl (by decide) ?_
      refine mr_iload (pc' := 127) dX11_waiting_125 rfl rfl ?_
      refine mr_imul (pc' := 128) dX11_waiting_127 rfl ?_
      refine mr_iload (pc' := 130) dX11_waiting_128 rfl rfl ?_
      refine mr_iadd (pc' := 131) dX11_waiting_130 rfl ?_
      refine mr_aload_n (pc' := 132) dX11_waiting_131 rfl rfl ?_
      refine mr_iload (pc' := 134) dX11_waiting_132 rfl rfl ?_
      refine mr_iload (pc' := 136) dX11_waiting_134 rfl rfl ?_
      refine mr_iload_n (pc' := 137) dX11_waiting_136 rfl rfl ?_
      refine mr_iload_n (pc' := 138) dX11_waiting_137 rfl rfl ?_
      obtain ⟨q32, g33, h34⟩ := Option.bind_eq_some_iff.mp h30
      refine mr_cv (pc' := 141) (a := 145) (d1 := 3) dX11_waiting_138 rfl rfl rfl rfl rfl rfl (by decide) rfl (by decide) (ok_X11_bestFrom hR  g33) ?_
      show mr X _ _ 141 _ [.long q32, .int (((10 : Int32) * p8) + p9), .ref 162] (MM RR S0) _
      obtain ⟨S35, g36, h37⟩ := Option.bind_eq_some_iff.mp h34
      refine mr_last (pc' := 142) dX11_waiting_141 rfl rfl rfl g36 ?_
      refine mr_iinc (pc' := 145) (x' := (p9 + (1 : Int32))) (lv' := [(9, .int (p9 + (1 : Int32))), (0, .ref 145), (1, .int p1), (2, .int p2), (3, .int p3), (4, .int p4), (5, .long p5), (7, .int p7), (8, .int p8)]) dX11_waiting_142 rfl (by decide) rfl rfl rfl ?_
      refine mr_goto (t := 108) dX11_waiting_145 (by decide) ?_
      exact mr_sub [(0, .ref 145), (1, .int p1), (2, .int p2), (3, .int p3), (4, .int p4), (5, .long p5), (7, .int p7), (8, .int p8), (9, .int (p9 + (1 : Int32)))] ⟨rfl, rfl, rfl, rfl, rfl, rfl, rfl, rfl, rfl, trivial⟩ rfl (ih _ _  h37)
def lp_X11_waiting_100 (p1 : Int32) (p2 : Int32) (p3 : Int32) (p4 : Int32) (p5 : Int64) (p7 : Int32) (K : fS → Option (Int32 × fS)) : Nat → Int32 → fS → Option (Int32 × fS)
  | 0, _, _ => none
  | n + 1, p8, S0 =>
    if p8 < (0 : Int32) then (K S0) else
    (lp_X11_waiting_108 p1 p2 p3 p4 p5 p7 p8 (fun S38 => lp_X11_waiting_100 p1 p2 p3 p4 p5 p7 K n (p8 + (-1 : Int32)) S38) FU (0 : Int32) S0)
set_option maxHeartbeats 4000000 in
set_option maxRecDepth 100000 in
theorem ok_lp_X11_waiting_100 {X : mm_C} {RR : Nat → Nat → Option Nat} (hR : RRok RR) {p1 : Int32} {p2 : Int32} {p3 : Int32} {p4 : Int32} {p5 : Int64} {p7 : Int32}  {K : fS → Option (Int32 × fS)} {r : Int32 × fS} (hK : ∀ (Sk : fS), K Sk = some r → mr X 4 mY_X11_waiting 154 [(0, .ref 145), (1, .int p1), (2, .int p2), (3, .int p3), (4, .int p4), (5, .long p5), (7, .int p7)] [] (MM RR Sk) (some (.int r.1), MM RR r.2)) : ∀ (n : Nat) (p8 : Int32) (S0 : fS), lp_X11_waiting_100 p1 p2 p3 p4 p5 p7 K n p8 S0 = some r → mr X 4 mY_X11_waiting 100 [(0, .ref 145), (1, .int p1), (2, .int p2), (3, .int p3), (4, .int p4), (5, .long p5), (7, .int p7), (8, .int p8)] [] (MM RR S0) (some (.int r.1), MM RR r.2) := by
  intro n
  induction n with
  | zero => intro p8 S0 h; exact mm_no h
  | succ n ih =>
    intro p8 S0 h
    unfold lp_X11_waiting_100 at h
    refine mr_iload (pc' := 102) dX11_waiting_100 rfl rfl ?_
    by_cases c27 : p8 < (0 : Int32)
    · rw [if_pos c27] at h
      refine mr_if_lt_t (t := 154) dX11_waiting_102 (by decide) c27 ?_
      exact mr_sub [(0, .ref 145), (1, .int p1), (2, .int p2), (3, .int p3), (4, .int p4), (5, .long p5), (7, .int p7)] ⟨rfl, rfl, rfl, rfl, rfl, rfl, rfl, trivial⟩ rfl (hK _  h)
    · rw [if_neg c27] at h
      refine mr_if_lt_f (t := 154) (pc' := 105) dX11_waiting_102 (by decide) rfl c27 ?_
      refine mr_iconst (pc' := 106) (v := (0 : Int32)) dX11_waiting_105 rfl (by decide) ?_
      refine mr_istore (pc' := 108) (lv' := [(9, .int (0 : Int32)), (0, .ref 145), (1, .int p1), (2, .int p2), (3, .int p3), (4, .int p4), (5, .long p5), (7, .int p7), (8, .int p8)]) dX11_waiting_106 rfl (by decide) rfl ?_
      refine mr_sub [(0, .ref 145), (1, .int p1), (2, .int p2), (3, .int p3), (4, .int p4), (5, .long p5), (7, .int p7), (8, .int p8), (9, .int (0 : Int32))] ⟨rfl, rfl, rfl, rfl, rfl, rfl, rfl, rfl, rfl, trivial⟩ rfl ?_
      refine ok_lp_X11_waiting_108 hR  (fun S38 h39 => ?_) FU _ _  h
      refine mr_iinc (pc' := 151) (x' := (p8 + (-1 : Int32))) (lv' := [(8, .int (p8 + (-1 : Int32))), (0, .ref 145), (1, .int p1), (2, .int p2), (3, .int p3), (4, .int p4), (5, .long p5), (7, .int p7)]) dX11_waiting_148 rfl (by decide) rfl rfl rfl ?_
      refine mr_goto (t := 100) dX11_waiting_151 (by decide) ?_
      exact mr_sub [(0, .ref 145), (1, .int p1), (2, .int p2), (3, .int p3), (4, .int p4), (5, .long p5), (7, .int p7), (8, .int (p8 + (-1 : Int32)))] ⟨rfl, rfl, rfl, rfl, rfl, rfl, rfl, rfl, trivial⟩ rfl (ih _ _  h39)
def lp_X11_waiting_42 (p1 : Int32) (p2 : Int32) (p3 : Int32) (K : Int32 → fS → Option (Int32 × fS)) : Nat → Int32 → Int64 → Int32 → fS → Option (Int32 × fS)
  | 0, _, _, _, _ => none
  | n + 1, p4, p5, p7, S0 =>
    (gI S0 157 158 (0 : Int32)).bind fun a13 =>
    if a13 ≤ p7 then (K p4 S0) else
    (lp_X11_waiting_56 p1 p2 p3 p4 p5 p7 (fun S25 => lp_X11_waiting_100 p1 p2 p3 p4 p5 p7 (fun S40 => (f_X11_thingOf p1 (0 : Int32) S40).bind fun q42 =>
    (gL S40 162 1210 q42).bind fun a45 =>
    if a45 < (0 : Int64) then (lp_X11_waiting_42 p1 p2 p3 K n p4 p5 (p7 + (1 : Int32)) S40) else
    ((f_X11_isBetter a45 p5 p3 S40).bind fun q49 =>
    if q49 = (0 : Int32) then (lp_X11_waiting_42 p1 p2 p3 K n p4 p5 (p7 + (1 : Int32)) S40) else
    (lp_X11_waiting_42 p1 p2 p3 K n p7 a45 (p7 + (1 : Int32)) S40))) FU (p2 - (1 : Int32)) S25) FU (0 : Int32) S0)
set_option maxHeartbeats 4000000 in
set_option maxRecDepth 100000 in
theorem ok_lp_X11_waiting_42 {X : mm_C} {RR : Nat → Nat → Option Nat} (hR : RRok RR) {p1 : Int32} {p2 : Int32} {p3 : Int32}  {K : Int32 → fS → Option (Int32 × fS)} {r : Int32 × fS} (hK : ∀ (k4 : Int32) (Sk : fS), K k4 Sk = some r → mr X 4 mY_X11_waiting 203 [(4, .int k4)] [] (MM RR Sk) (some (.int r.1), MM RR r.2)) : ∀ (n : Nat) (p4 : Int32) (p5 : Int64) (p7 : Int32) (S0 : fS), lp_X11_waiting_42 p1 p2 p3 K n p4 p5 p7 S0 = some r → mr X 4 mY_X11_waiting 42 [(0, .ref 145), (1, .int p1), (2, .int p2), (3, .int p3), (4, .int p4), (5, .long p5), (7, .int p7)] [] (MM RR S0) (some (.int r.1), MM RR r.2) := by
  intro n
  induction n with
  | zero => intro p4 p5 p7 S0 h; exact mm_no h
  | succ n ih =>
    intro p4 p5 p7 S0 h
    unfold lp_X11_waiting_42 at h
    refine mr_iload (pc' := 44) dX11_waiting_42 rfl rfl ?_
    refine mr_aload_n (pc' := 45) dX11_waiting_44 rfl rfl ?_
    refine mr_getR (pc' := 48) (ci := 11) (j := 25) (b := 157) hR dX11_waiting_45 rfl rfl rfl (by decide) (by decide) (by decide) rfl rfl ?_
    refine mr_iconst (pc' := 49) (v := (0 : Int32)) dX11_waiting_48 rfl (by decide) ?_
    obtain ⟨a13, g14, h15⟩ := Option.bind_eq_some_iff.mp h
    refine mr_iald (pc' := 50) dX11_waiting_49 rfl rfl rfl g14 ?_
    by_cases c16 : a13 ≤ p7
    · rw [if_pos c16] at h15
      refine mr_icmp_ge_t (t := 203) dX11_waiting_50 (by decide) c16 ?_
      exact mr_sub [(4, .int p4)] ⟨rfl, trivial⟩ rfl (hK _ _  h15)
    · rw [if_neg c16] at h15
      refine mr_icmp_ge_f (t := 203) (pc' := 53) dX11_waiting_50 (by decide) rfl c16 ?_
      refine mr_iconst (pc' := 54) (v := (0 : Int32)) dX11_waiting_53 rfl (by decide) ?_
      refine mr_istore (pc' := 56) (lv' := [(8, .int (0 : Int32)), (0, .ref 145), (1, .int p1), (2, .int p2), (3, .int p3), (4, .int p4), (5, .long p5), (7, .int p7)]) dX11_waiting_54 rfl (by decide) rfl ?_
      refine mr_sub [(0, .ref 145), (1, .int p1), (2, .int p2), (3, .int p3), (4, .int p4), (5, .long p5), (7, .int p7), (8, .int (0 : Int32))] ⟨rfl, rfl, rfl, rfl, rfl, rfl, rfl, rfl, trivial⟩ rfl ?_
      refine ok_lp_X11_waiting_56 hR  (fun S25 h26 => ?_) FU _ _  h15
      refine mr_iload_n (pc' := 96) dX11_waiting_95 rfl rfl ?_
      refine mr_iconst (pc' := 97) (v := (1 : Int32)) dX11_waiting_96 rfl (by decide) ?_
      refine mr_isub (pc' := 98) dX11_waiting_97 rfl ?_
      refine mr_istore (pc' := 100) (lv' := [(8, .int (p2 - (1 : Int32))), (0, .ref 145), (1, .int p1), (2, .int p2), (3, .int p3), (4, .int p4), (5, .long p5), (7, .int p7)]) dX11_waiting_98 rfl (by decide) rfl ?_
      refine mr_sub [(0, .ref 145), (1, .int p1), (2, .int p2), (3, .int p3), (4, .int p4), (5, .long p5), (7, .int p7), (8, .int (p2 - (1 : Int32)))] ⟨rfl, rfl, rfl, rfl, rfl, rfl, rfl, rfl, trivial⟩ rfl ?_
      refine ok_lp_X11_waiting_100 hR  (fun S40 h41 => ?_) FU _ _  h26
      refine mr_aload_n (pc' := 155) dX11_waiting_154 rfl rfl ?_
      refine mr_getR (pc' := 158) (ci := 11) (j := 30) (b := 162) hR dX11_waiting_155 rfl rfl rfl (by decide) (by decide) (by decide) rfl rfl ?_
      refine mr_aload_n (pc' := 159) dX11_waiting_158 rfl rfl ?_
      refine mr_iload_n (pc' := 160) dX11_waiting_159 rfl rfl ?_
      refine mr_iconst (pc' := 161) (v := (0 : Int32)) dX11_waiting_160 rfl (by decide) ?_
      obtain ⟨q42, g43, h44⟩ := Option.bind_eq_some_iff.mp h41
      refine mr_cv (pc' := 164) (a := 145) (d1 := 0) dX11_waiting_161 rfl rfl rfl rfl rfl rfl (by decide) rfl (by decide) (ok_X11_thingOf hR  g43) ?_
      show mr X _ _ 164 _ [.int q42, .ref 162] (MM RR S40) _
      obtain ⟨a45, g46, h47⟩ := Option.bind_eq_some_iff.mp h44
      refine mr_lald (pc' := 165) dX11_waiting_164 rfl rfl rfl g46 ?_
      refine mr_lstore (pc' := 167) (lv' := [(8, .long a45), (0, .ref 145), (1, .int p1), (2, .int p2), (3, .int p3), (4, .int p4), (5, .long p5), (7, .int p7)]) dX11_waiting_165 rfl (by decide) rfl ?_
      refine mr_lload (pc' := 169) dX11_waiting_167 rfl rfl ?_
      refine mr_lconst (pc' := 170) (v := (0 : Int64)) dX11_waiting_169 rfl (by decide) ?_
      by_cases c48 : a45 < (0 : Int64)
      · rw [if_pos c48] at h47
        refine mr_lcmp_lt_t (t := 197) dX11_waiting_170 rfl dX11_waiting_171 (by decide) c48 ?_
        refine mr_iinc (pc' := 200) (x' := (p7 + (1 : Int32))) (lv' := [(7, .int (p7 + (1 : Int32))), (8, .long a45), (0, .ref 145), (1, .int p1), (2, .int p2), (3, .int p3), (4, .int p4), (5, .long p5)]) dX11_waiting_197 rfl (by decide) rfl rfl rfl ?_
        refine mr_goto (t := 42) dX11_waiting_200 (by decide) ?_
        exact mr_sub [(0, .ref 145), (1, .int p1), (2, .int p2), (3, .int p3), (4, .int p4), (5, .long p5), (7, .int (p7 + (1 : Int32)))] ⟨rfl, rfl, rfl, rfl, rfl, rfl, rfl, trivial⟩ rfl (ih _ _ _ _  h47)
      · rw [if_neg c48] at h47
        refine mr_lcmp_lt_f (t := 197) (pc' := 174) dX11_waiting_170 rfl dX11_waiting_171 (by decide) rfl c48 ?_
        refine mr_aload_n (pc' := 175) dX11_waiting_174 rfl rfl ?_
        refine mr_lload (pc' := 177) dX11_waiting_175 rfl rfl ?_
        refine mr_lload (pc' := 179) dX11_waiting_177 rfl rfl ?_
        refine mr_iload_n (pc' := 180) dX11_waiting_179 rfl rfl ?_
        obtain ⟨q49, g50, h51⟩ := Option.bind_eq_some_iff.mp h47
        refine mr_cv (pc' := 183) (a := 145) (d1 := 0) dX11_waiting_180 rfl rfl rfl rfl rfl rfl (by decide) rfl (by decide) (ok_X11_isBetter hR  g50) ?_
        show mr X _ _ 183 _ [.int q49] (MM RR S40) _
        by_cases c52 : q49 = (0 : Int32)
        · rw [if_pos c52] at h51
          refine mr_if_ne_f (t := 189) (pc' := 186) dX11_waiting_183 (by decide) rfl (not_not_intro c52) ?_
          refine mr_goto (t := 197) dX11_waiting_186 (by decide) ?_
          refine mr_iinc (pc' := 200) (x' := (p7 + (1 : Int32))) (lv' := [(7, .int (p7 + (1 : Int32))), (8, .long a45), (0, .ref 145), (1, .int p1), (2, .int p2), (3, .int p3), (4, .int p4), (5, .long p5)]) dX11_waiting_197 rfl (by decide) rfl rfl rfl ?_
          refine mr_goto (t := 42) dX11_waiting_200 (by decide) ?_
          exact mr_sub [(0, .ref 145), (1, .int p1), (2, .int p2), (3, .int p3), (4, .int p4), (5, .long p5), (7, .int (p7 + (1 : Int32)))] ⟨rfl, rfl, rfl, rfl, rfl, rfl, rfl, trivial⟩ rfl (ih _ _ _ _  h51)
        · rw [if_neg c52] at h51
          refine mr_if_ne_t (t := 189) dX11_waiting_183 (by decide) c52 ?_
          refine mr_iload (pc' := 191) dX11_waiting_189 rfl rfl ?_
          refine mr_istore (pc' := 193) (lv' := [(4, .int p7), (8, .long a45), (0, .ref 145), (1, .int p1), (2, .int p2), (3, .int p3), (5, .long p5), (7, .int p7)]) dX11_waiting_191 rfl (by decide) rfl ?_
          refine mr_lload (pc' := 195) dX11_waiting_193 rfl rfl ?_
          refine mr_lstore (pc' := 197) (lv' := [(5, .long a45), (4, .int p7), (8, .long a45), (0, .ref 145), (1, .int p1), (2, .int p2), (3, .int p3), (7, .int p7)]) dX11_waiting_195 rfl (by decide) rfl ?_
          refine mr_iinc (pc' := 200) (x' := (p7 + (1 : Int32))) (lv' := [(7, .int (p7 + (1 : Int32))), (5, .long a45), (4, .int p7), (8, .long a45), (0, .ref 145), (1, .int p1), (2, .int p2), (3, .int p3)]) dX11_waiting_197 rfl (by decide) rfl rfl rfl ?_
          refine mr_goto (t := 42) dX11_waiting_200 (by decide) ?_
          exact mr_sub [(0, .ref 145), (1, .int p1), (2, .int p2), (3, .int p3), (4, .int p7), (5, .long a45), (7, .int (p7 + (1 : Int32)))] ⟨rfl, rfl, rfl, rfl, rfl, rfl, rfl, trivial⟩ rfl (ih _ _ _ _  h51)
def f_X11_waiting (v1 : Int32) (v2 : Int32) (v3 : Int32) (S : fS) : Option (Int32 × fS) :=
  (f_X11_isThing v1 S).bind fun q1 =>
  if q1 = (0 : Int32) then (some ((-1 : Int32), S)) else
  ((f_X11_thingOf v1 (0 : Int32) S).bind fun q5 =>
  if q5 < (0 : Int32) then (some ((-1 : Int32), S)) else
  ((f_X11_in (Int32.toInt64 v2) (0 : Int64) (120 : Int64) S).bind fun q9 =>
  if q9 = (0 : Int32) then (some ((-1 : Int32), S)) else
  (lp_X11_waiting_42 v1 v2 v3 (fun u53 S54 => some (u53, S54)) FU (-1 : Int32) (-1 : Int64) (0 : Int32) S)))
set_option maxHeartbeats 4000000 in
set_option maxRecDepth 100000 in
theorem ok_X11_waiting {X : mm_C} {RR : Nat → Nat → Option Nat} (hR : RRok RR) {v1 : Int32} {v2 : Int32} {v3 : Int32}  {S : fS} {r : Int32 × fS} (h : f_X11_waiting v1 v2 v3 S = some r) : mr X 4 mY_X11_waiting 0 (lv_args 0 [.ref 145, .int v1, .int v2, .int v3]) [] (MM RR S) (some (.int r.1), MM RR r.2) := by
  unfold f_X11_waiting at h
  show mr X _ _ 0 [(0, .ref 145), (1, .int v1), (2, .int v2), (3, .int v3)] [] (MM RR S) _
  refine mr_aload_n (pc' := 1) dX11_waiting_0 rfl rfl ?_
  refine mr_iload_n (pc' := 2) dX11_waiting_1 rfl rfl ?_
  obtain ⟨q1, g2, h3⟩ := Option.bind_eq_some_iff.mp h
  refine mr_cv (pc' := 5) (a := 145) (d1 := 0) dX11_waiting_2 rfl rfl rfl rfl rfl rfl (by decide) rfl (by decide) (ok_X11_isThing hR  g2) ?_
  show mr X _ _ 5 _ [.int q1] (MM RR S) _
  by_cases c4 : q1 = (0 : Int32)
  · rw [if_pos c4] at h3
    refine mr_if_eq_t (t := 29) dX11_waiting_5 (by decide) c4 ?_
    refine mr_iconst (pc' := 30) (v := (-1 : Int32)) dX11_waiting_29 rfl (by decide) ?_
    obtain rfl := Option.some.inj h3
    exact mr_ireturn dX11_waiting_30 rfl
  · rw [if_neg c4] at h3
    refine mr_if_eq_f (t := 29) (pc' := 8) dX11_waiting_5 (by decide) rfl c4 ?_
    refine mr_aload_n (pc' := 9) dX11_waiting_8 rfl rfl ?_
    refine mr_iload_n (pc' := 10) dX11_waiting_9 rfl rfl ?_
    refine mr_iconst (pc' := 11) (v := (0 : Int32)) dX11_waiting_10 rfl (by decide) ?_
    obtain ⟨q5, g6, h7⟩ := Option.bind_eq_some_iff.mp h3
    refine mr_cv (pc' := 14) (a := 145) (d1 := 0) dX11_waiting_11 rfl rfl rfl rfl rfl rfl (by decide) rfl (by decide) (ok_X11_thingOf hR  g6) ?_
    show mr X _ _ 14 _ [.int q5] (MM RR S) _
    by_cases c8 : q5 < (0 : Int32)
    · rw [if_pos c8] at h7
      refine mr_if_lt_t (t := 29) dX11_waiting_14 (by decide) c8 ?_
      refine mr_iconst (pc' := 30) (v := (-1 : Int32)) dX11_waiting_29 rfl (by decide) ?_
      obtain rfl := Option.some.inj h7
      exact mr_ireturn dX11_waiting_30 rfl
    · rw [if_neg c8] at h7
      refine mr_if_lt_f (t := 29) (pc' := 17) dX11_waiting_14 (by decide) rfl c8 ?_
      refine mr_iload_n (pc' := 18) dX11_waiting_17 rfl rfl ?_
      refine mr_i2l (pc' := 19) dX11_waiting_18 rfl ?_
      refine mr_lconst (pc' := 20) (v := (0 : Int64)) dX11_waiting_19 rfl (by decide) ?_
      refine mr_ldc2 (pc' := 23) (v := (120 : Int64)) dX11_waiting_20 rfl rfl ?_
      obtain ⟨q9, g10, h11⟩ := Option.bind_eq_some_iff.mp h7
      refine mr_cs (pc' := 26) (d1 := 0) dX11_waiting_23 rfl rfl rfl rfl (by decide) (Nat.le_of_ble_eq_true rfl) rfl rfl rfl (by decide) (ok_X11_in hR  g10) ?_
      show mr X _ _ 26 _ [.int q9] (MM RR S) _
      by_cases c12 : q9 = (0 : Int32)
      · rw [if_pos c12] at h11
        refine mr_if_ne_f (t := 31) (pc' := 29) dX11_waiting_26 (by decide) rfl (not_not_intro c12) ?_
        refine mr_iconst (pc' := 30) (v := (-1 : Int32)) dX11_waiting_29 rfl (by decide) ?_
        obtain rfl := Option.some.inj h11
        exact mr_ireturn dX11_waiting_30 rfl
      · rw [if_neg c12] at h11
        refine mr_if_ne_t (t := 31) dX11_waiting_26 (by decide) c12 ?_
        refine mr_iconst (pc' := 32) (v := (-1 : Int32)) dX11_waiting_31 rfl (by decide) ?_
        refine mr_istore (pc' := 34) (lv' := [(4, .int (-1 : Int32)), (0, .ref 145), (1, .int v1), (2, .int v2), (3, .int v3)]) dX11_waiting_32 rfl (by decide) rfl ?_
        refine mr_ldc2 (pc' := 37) (v := (-1 : Int64)) dX11_waiting_34 rfl rfl ?_
        refine mr_lstore (pc' := 39) (lv' := [(5, .long (-1 : Int64)), (4, .int (-1 : Int32)), (0, .ref 145), (1, .int v1), (2, .int v2), (3, .int v3)]) dX11_waiting_37 rfl (by decide) rfl ?_
        refine mr_iconst (pc' := 40) (v := (0 : Int32)) dX11_waiting_39 rfl (by decide) ?_
        refine mr_istore (pc' := 42) (lv' := [(7, .int (0 : Int32)), (5, .long (-1 : Int64)), (4, .int (-1 : Int32)), (0, .ref 145), (1, .int v1), (2, .int v2), (3, .int v3)]) dX11_waiting_40 rfl (by decide) rfl ?_
        refine mr_sub [(0, .ref 145), (1, .int v1), (2, .int v2), (3, .int v3), (4, .int (-1 : Int32)), (5, .long (-1 : Int64)), (7, .int (0 : Int32))] ⟨rfl, rfl, rfl, rfl, rfl, rfl, rfl, trivial⟩ rfl ?_
        refine ok_lp_X11_waiting_42 hR  (fun u53 S54 h55 => ?_) FU _ _ _ _  h11
        refine mr_iload (pc' := 205) dX11_waiting_203 rfl rfl ?_
        obtain rfl := Option.some.inj h55
        exact mr_ireturn dX11_waiting_205 rfl
def f_X11_when (v1 : Int32) (v2 : Int32) (v3 : Int32) (v4 : Int32) (S : fS) : Option (Int64) :=
  (f_X11_isThing v1 S).bind fun q1 =>
  if q1 = (0 : Int32) then (some (-1 : Int64)) else
  ((f_X11_isFloor v2 S).bind fun q5 =>
  if q5 = (0 : Int32) then (some (-1 : Int64)) else
  ((f_X11_in (Int32.toInt64 v3) (0 : Int64) (9999 : Int64) S).bind fun q9 =>
  if q9 = (0 : Int32) then (some (-1 : Int64)) else
  ((f_X11_in (Int32.toInt64 v4) (0 : Int64) (1 : Int64) S).bind fun q13 =>
  if q13 = (0 : Int32) then (some (-1 : Int64)) else
  ((gL S 158 8 v1).bind fun a17 =>
  if (0 : Int64) ≤ (((Int32.toInt64 v3) * (232792560 : Int64)) - a17) then (if (((Int32.toInt64 v3) * (232792560 : Int64)) - a17) = (0 : Int64) then (some (Int32.toInt64 v4)) else
  ((f_X11_floorParts v2 S).bind fun q22 =>
  (f_X11_lowest (((Int32.toInt64 v3) * (232792560 : Int64)) - a17) q22 v4 S).bind fun q25 =>
  some q25)) else
  (some (-2 : Int64))))))
set_option maxHeartbeats 4000000 in
set_option maxRecDepth 100000 in
theorem ok_X11_when {X : mm_C} {RR : Nat → Nat → Option Nat} (hR : RRok RR) {v1 : Int32} {v2 : Int32} {v3 : Int32} {v4 : Int32}  {S : fS} {r : Int64} (h : f_X11_when v1 v2 v3 v4 S = some r) : mr X 2 mY_X11_when 0 (lv_args 0 [.ref 145, .int v1, .int v2, .int v3, .int v4]) [] (MM RR S) (some (.long r), MM RR S) := by
  unfold f_X11_when at h
  show mr X _ _ 0 [(0, .ref 145), (1, .int v1), (2, .int v2), (3, .int v3), (4, .int v4)] [] (MM RR S) _
  refine mr_aload_n (pc' := 1) dX11_when_0 rfl rfl ?_
  refine mr_iload_n (pc' := 2) dX11_when_1 rfl rfl ?_
  obtain ⟨q1, g2, h3⟩ := Option.bind_eq_some_iff.mp h
  refine mr_cv (pc' := 5) (a := 145) (d1 := 0) dX11_when_2 rfl rfl rfl rfl rfl rfl (by decide) rfl (by decide) (ok_X11_isThing hR  g2) ?_
  show mr X _ _ 5 _ [.int q1] (MM RR S) _
  by_cases c4 : q1 = (0 : Int32)
  · rw [if_pos c4] at h3
    refine mr_if_eq_t (t := 39) dX11_when_5 (by decide) c4 ?_
    refine mr_ldc2 (pc' := 42) (v := (-1 : Int64)) dX11_when_39 rfl rfl ?_
    obtain rfl := Option.some.inj h3
    exact mr_lreturn dX11_when_42 rfl
  · rw [if_neg c4] at h3
    refine mr_if_eq_f (t := 39) (pc' := 8) dX11_when_5 (by decide) rfl c4 ?_
    refine mr_aload_n (pc' := 9) dX11_when_8 rfl rfl ?_
    refine mr_iload_n (pc' := 10) dX11_when_9 rfl rfl ?_
    obtain ⟨q5, g6, h7⟩ := Option.bind_eq_some_iff.mp h3
    refine mr_cv (pc' := 13) (a := 145) (d1 := 0) dX11_when_10 rfl rfl rfl rfl rfl rfl (by decide) rfl (by decide) (ok_X11_isFloor hR  g6) ?_
    show mr X _ _ 13 _ [.int q5] (MM RR S) _
    by_cases c8 : q5 = (0 : Int32)
    · rw [if_pos c8] at h7
      refine mr_if_eq_t (t := 39) dX11_when_13 (by decide) c8 ?_
      refine mr_ldc2 (pc' := 42) (v := (-1 : Int64)) dX11_when_39 rfl rfl ?_
      obtain rfl := Option.some.inj h7
      exact mr_lreturn dX11_when_42 rfl
    · rw [if_neg c8] at h7
      refine mr_if_eq_f (t := 39) (pc' := 16) dX11_when_13 (by decide) rfl c8 ?_
      refine mr_iload_n (pc' := 17) dX11_when_16 rfl rfl ?_
      refine mr_i2l (pc' := 18) dX11_when_17 rfl ?_
      refine mr_lconst (pc' := 19) (v := (0 : Int64)) dX11_when_18 rfl (by decide) ?_
      refine mr_ldc2 (pc' := 22) (v := (9999 : Int64)) dX11_when_19 rfl rfl ?_
      obtain ⟨q9, g10, h11⟩ := Option.bind_eq_some_iff.mp h7
      refine mr_cs (pc' := 25) (d1 := 0) dX11_when_22 rfl rfl rfl rfl (by decide) (Nat.le_of_ble_eq_true rfl) rfl rfl rfl (by decide) (ok_X11_in hR  g10) ?_
      show mr X _ _ 25 _ [.int q9] (MM RR S) _
      by_cases c12 : q9 = (0 : Int32)
      · rw [if_pos c12] at h11
        refine mr_if_eq_t (t := 39) dX11_when_25 (by decide) c12 ?_
        refine mr_ldc2 (pc' := 42) (v := (-1 : Int64)) dX11_when_39 rfl rfl ?_
        obtain rfl := Option.some.inj h11
        exact mr_lreturn dX11_when_42 rfl
      · rw [if_neg c12] at h11
        refine mr_if_eq_f (t := 39) (pc' := 28) dX11_when_25 (by decide) rfl c12 ?_
        refine mr_iload (pc' := 30) dX11_when_28 rfl rfl ?_
        refine mr_i2l (pc' := 31) dX11_when_30 rfl ?_
        refine mr_lconst (pc' := 32) (v := (0 : Int64)) dX11_when_31 rfl (by decide) ?_
        refine mr_lconst (pc' := 33) (v := (1 : Int64)) dX11_when_32 rfl (by decide) ?_
        obtain ⟨q13, g14, h15⟩ := Option.bind_eq_some_iff.mp h11
        refine mr_cs (pc' := 36) (d1 := 0) dX11_when_33 rfl rfl rfl rfl (by decide) (Nat.le_of_ble_eq_true rfl) rfl rfl rfl (by decide) (ok_X11_in hR  g14) ?_
        show mr X _ _ 36 _ [.int q13] (MM RR S) _
        by_cases c16 : q13 = (0 : Int32)
        · rw [if_pos c16] at h15
          refine mr_if_ne_f (t := 43) (pc' := 39) dX11_when_36 (by decide) rfl (not_not_intro c16) ?_
          refine mr_ldc2 (pc' := 42) (v := (-1 : Int64)) dX11_when_39 rfl rfl ?_
          obtain rfl := Option.some.inj h15
          exact mr_lreturn dX11_when_42 rfl
        · rw [if_neg c16] at h15
          refine mr_if_ne_t (t := 43) dX11_when_36 (by decide) c16 ?_
          refine mr_iload_n (pc' := 44) dX11_when_43 rfl rfl ?_
          refine mr_i2l (pc' := 45) dX11_when_44 rfl ?_
          refine mr_ldc2 (pc' := 48) (v := (232792560 : Int64)) dX11_when_45 rfl rfl ?_
          refine mr_lmul (pc' := 49) dX11_when_48 rfl ?_
          refine mr_aload_n (pc' := 50) dX11_when_49 rfl rfl ?_
          refine mr_getR (pc' := 53) (ci := 11) (j := 26) (b := 158) hR dX11_when_50 rfl rfl rfl (by decide) (by decide) (by decide) rfl rfl ?_
          refine mr_iload_n (pc' := 54) dX11_when_53 rfl rfl ?_
          obtain ⟨a17, g18, h19⟩ := Option.bind_eq_some_iff.mp h15
          refine mr_lald (pc' := 55) dX11_when_54 rfl rfl rfl g18 ?_
          refine mr_lsub (pc' := 56) dX11_when_55 rfl ?_
          refine mr_lstore (pc' := 58) (lv' := [(5, .long (((Int32.toInt64 v3) * (232792560 : Int64)) - a17)), (0, .ref 145), (1, .int v1), (2, .int v2), (3, .int v3), (4, .int v4)]) dX11_when_56 rfl (by decide) rfl ?_
          refine mr_lload (pc' := 60) dX11_when_58 rfl rfl ?_
          refine mr_lconst (pc' := 61) (v := (0 : Int64)) dX11_when_60 rfl (by decide) ?_
          by_cases c20 : (0 : Int64) ≤ (((Int32.toInt64 v3) * (232792560 : Int64)) - a17)
          · rw [if_pos c20] at h19
            refine mr_lcmp_ge_t (t := 69) dX11_when_61 rfl dX11_when_62 (by decide) c20 ?_
            refine mr_lload (pc' := 71) dX11_when_69 rfl rfl ?_
            refine mr_lconst (pc' := 72) (v := (0 : Int64)) dX11_when_71 rfl (by decide) ?_
            by_cases c21 : (((Int32.toInt64 v3) * (232792560 : Int64)) - a17) = (0 : Int64)
            · rw [if_pos c21] at h19
              refine mr_lcmp_ne_f (t := 82) (pc' := 76) dX11_when_72 rfl dX11_when_73 (by decide) rfl (not_not_intro c21) ?_
              refine mr_iload (pc' := 78) dX11_when_76 rfl rfl ?_
              refine mr_i2l (pc' := 79) dX11_when_78 rfl ?_
              refine mr_goto (t := 94) dX11_when_79 (by decide) ?_
              obtain rfl := Option.some.inj h19
              exact mr_lreturn dX11_when_94 rfl
            · rw [if_neg c21] at h19
              refine mr_lcmp_ne_t (t := 82) dX11_when_72 rfl dX11_when_73 (by decide) c21 ?_
              refine mr_lload (pc' := 84) dX11_when_82 rfl rfl ?_
              refine mr_aload_n (pc' := 85) dX11_when_84 rfl rfl ?_
              refine mr_iload_n (pc' := 86) dX11_when_85 rfl rfl ?_
              obtain ⟨q22, g23, h24⟩ := Option.bind_eq_some_iff.mp h19
              refine mr_cv (pc' := 89) (a := 145) (d1 := 0) dX11_when_86 rfl rfl rfl rfl rfl rfl (by decide) rfl (by decide) (ok_X11_floorParts hR  g23) ?_
              show mr X _ _ 89 _ [.long q22, .long (((Int32.toInt64 v3) * (232792560 : Int64)) - a17)] (MM RR S) _
              refine mr_iload (pc' := 91) dX11_when_89 rfl rfl ?_
              obtain ⟨q25, g26, h27⟩ := Option.bind_eq_some_iff.mp h24
              refine mr_cs (pc' := 94) (d1 := 1) dX11_when_91 rfl rfl rfl rfl (by decide) (Nat.le_of_ble_eq_true rfl) rfl rfl rfl (by decide) (ok_X11_lowest hR  g26) ?_
              show mr X _ _ 94 _ [.long q25] (MM RR S) _
              obtain rfl := Option.some.inj h27
              exact mr_lreturn dX11_when_94 rfl
          · rw [if_neg c20] at h19
            refine mr_lcmp_ge_f (t := 69) (pc' := 65) dX11_when_61 rfl dX11_when_62 (by decide) rfl c20 ?_
            refine mr_ldc2 (pc' := 68) (v := (-2 : Int64)) dX11_when_65 rfl rfl ?_
            obtain rfl := Option.some.inj h19
            exact mr_lreturn dX11_when_68 rfl
def f_X11_shown (v1 : Int32) (v2 : Int32) (v3 : Int32) (S : fS) : Option (Int32) :=
  (f_X11_isFloor v1 S).bind fun q1 =>
  if q1 = (0 : Int32) then (some (-1 : Int32)) else
  ((f_X11_in (Int32.toInt64 v2) (0 : Int64) (9999 : Int64) S).bind fun q5 =>
  if q5 = (0 : Int32) then (some (-1 : Int32)) else
  ((f_X11_in (Int32.toInt64 v3) (0 : Int64) (1 : Int64) S).bind fun q9 =>
  if q9 = (0 : Int32) then (some (-1 : Int32)) else
  ((gI S 157 158 ((10 : Int32) + ((2 : Int32) * v1))).bind fun a13 =>
  (gI S 157 158 (((10 : Int32) + ((2 : Int32) * v1)) + (1 : Int32))).bind fun a16 =>
  (dI (v2 * a13) a16).bind fun a19 =>
  if v3 = (0 : Int32) then ((dI a19 (24 : Int32)).bind fun a26 =>
  some a26) else
  ((rI a19 (24 : Int32)).bind fun a23 =>
  some a23))))
set_option maxHeartbeats 4000000 in
set_option maxRecDepth 100000 in
theorem ok_X11_shown {X : mm_C} {RR : Nat → Nat → Option Nat} (hR : RRok RR) {v1 : Int32} {v2 : Int32} {v3 : Int32}  {S : fS} {r : Int32} (h : f_X11_shown v1 v2 v3 S = some r) : mr X 1 mY_X11_shown 0 (lv_args 0 [.ref 145, .int v1, .int v2, .int v3]) [] (MM RR S) (some (.int r), MM RR S) := by
  unfold f_X11_shown at h
  show mr X _ _ 0 [(0, .ref 145), (1, .int v1), (2, .int v2), (3, .int v3)] [] (MM RR S) _
  refine mr_aload_n (pc' := 1) dX11_shown_0 rfl rfl ?_
  refine mr_iload_n (pc' := 2) dX11_shown_1 rfl rfl ?_
  obtain ⟨q1, g2, h3⟩ := Option.bind_eq_some_iff.mp h
  refine mr_cv (pc' := 5) (a := 145) (d1 := 0) dX11_shown_2 rfl rfl rfl rfl rfl rfl (by decide) rfl (by decide) (ok_X11_isFloor hR  g2) ?_
  show mr X _ _ 5 _ [.int q1] (MM RR S) _
  by_cases c4 : q1 = (0 : Int32)
  · rw [if_pos c4] at h3
    refine mr_if_eq_t (t := 30) dX11_shown_5 (by decide) c4 ?_
    refine mr_iconst (pc' := 31) (v := (-1 : Int32)) dX11_shown_30 rfl (by decide) ?_
    obtain rfl := Option.some.inj h3
    exact mr_ireturn dX11_shown_31 rfl
  · rw [if_neg c4] at h3
    refine mr_if_eq_f (t := 30) (pc' := 8) dX11_shown_5 (by decide) rfl c4 ?_
    refine mr_iload_n (pc' := 9) dX11_shown_8 rfl rfl ?_
    refine mr_i2l (pc' := 10) dX11_shown_9 rfl ?_
    refine mr_lconst (pc' := 11) (v := (0 : Int64)) dX11_shown_10 rfl (by decide) ?_
    refine mr_ldc2 (pc' := 14) (v := (9999 : Int64)) dX11_shown_11 rfl rfl ?_
    obtain ⟨q5, g6, h7⟩ := Option.bind_eq_some_iff.mp h3
    refine mr_cs (pc' := 17) (d1 := 0) dX11_shown_14 rfl rfl rfl rfl (by decide) (Nat.le_of_ble_eq_true rfl) rfl rfl rfl (by decide) (ok_X11_in hR  g6) ?_
    show mr X _ _ 17 _ [.int q5] (MM RR S) _
    by_cases c8 : q5 = (0 : Int32)
    · rw [if_pos c8] at h7
      refine mr_if_eq_t (t := 30) dX11_shown_17 (by decide) c8 ?_
      refine mr_iconst (pc' := 31) (v := (-1 : Int32)) dX11_shown_30 rfl (by decide) ?_
      obtain rfl := Option.some.inj h7
      exact mr_ireturn dX11_shown_31 rfl
    · rw [if_neg c8] at h7
      refine mr_if_eq_f (t := 30) (pc' := 20) dX11_shown_17 (by decide) rfl c8 ?_
      refine mr_iload_n (pc' := 21) dX11_shown_20 rfl rfl ?_
      refine mr_i2l (pc' := 22) dX11_shown_21 rfl ?_
      refine mr_lconst (pc' := 23) (v := (0 : Int64)) dX11_shown_22 rfl (by decide) ?_
      refine mr_lconst (pc' := 24) (v := (1 : Int64)) dX11_shown_23 rfl (by decide) ?_
      obtain ⟨q9, g10, h11⟩ := Option.bind_eq_some_iff.mp h7
      refine mr_cs (pc' := 27) (d1 := 0) dX11_shown_24 rfl rfl rfl rfl (by decide) (Nat.le_of_ble_eq_true rfl) rfl rfl rfl (by decide) (ok_X11_in hR  g10) ?_
      show mr X _ _ 27 _ [.int q9] (MM RR S) _
      by_cases c12 : q9 = (0 : Int32)
      · rw [if_pos c12] at h11
        refine mr_if_ne_f (t := 32) (pc' := 30) dX11_shown_27 (by decide) rfl (not_not_intro c12) ?_
        refine mr_iconst (pc' := 31) (v := (-1 : Int32)) dX11_shown_30 rfl (by decide) ?_
        obtain rfl := Option.some.inj h11
        exact mr_ireturn dX11_shown_31 rfl
      · rw [if_neg c12] at h11
        refine mr_if_ne_t (t := 32) dX11_shown_27 (by decide) c12 ?_
        refine mr_iload_n (pc' := 33) dX11_shown_32 rfl rfl ?_
        refine mr_aload_n (pc' := 34) dX11_shown_33 rfl rfl ?_
        refine mr_getR (pc' := 37) (ci := 11) (j := 25) (b := 157) hR dX11_shown_34 rfl rfl rfl (by decide) (by decide) (by decide) rfl rfl ?_
        refine mr_bipush (pc' := 39) (v := (10 : Int32)) dX11_shown_37 rfl (by decide) ?_
        refine mr_iconst (pc' := 40) (v := (2 : Int32)) dX11_shown_39 rfl (by decide) ?_
        refine mr_iload_n (pc' := 41) dX11_shown_40 rfl rfl ?_
        refine mr_imul (pc' := 42) dX11_shown_41 rfl ?_
        refine mr_iadd (pc' := 43) dX11_shown_42 rfl ?_
        obtain ⟨a13, g14, h15⟩ := Option.bind_eq_some_iff.mp h11
        refine mr_iald (pc' := 44) dX11_shown_43 rfl rfl rfl g14 ?_
        refine mr_imul (pc' := 45) dX11_shown_44 rfl ?_
        refine mr_aload_n (pc' := 46) dX11_shown_45 rfl rfl ?_
        refine mr_getR (pc' := 49) (ci := 11) (j := 25) (b := 157) hR dX11_shown_46 rfl rfl rfl (by decide) (by decide) (by decide) rfl rfl ?_
        refine mr_bipush (pc' := 51) (v := (10 : Int32)) dX11_shown_49 rfl (by decide) ?_
        refine mr_iconst (pc' := 52) (v := (2 : Int32)) dX11_shown_51 rfl (by decide) ?_
        refine mr_iload_n (pc' := 53) dX11_shown_52 rfl rfl ?_
        refine mr_imul (pc' := 54) dX11_shown_53 rfl ?_
        refine mr_iadd (pc' := 55) dX11_shown_54 rfl ?_
        refine mr_iconst (pc' := 56) (v := (1 : Int32)) dX11_shown_55 rfl (by decide) ?_
        refine mr_iadd (pc' := 57) dX11_shown_56 rfl ?_
        obtain ⟨a16, g17, h18⟩ := Option.bind_eq_some_iff.mp h15
        refine mr_iald (pc' := 58) dX11_shown_57 rfl rfl rfl g17 ?_
        obtain ⟨a19, g20, h21⟩ := Option.bind_eq_some_iff.mp h18
        refine mr_idiv (pc' := 59) dX11_shown_58 rfl g20 ?_
        refine mr_istore (pc' := 61) (lv' := [(4, .int a19), (0, .ref 145), (1, .int v1), (2, .int v2), (3, .int v3)]) dX11_shown_59 rfl (by decide) rfl ?_
        refine mr_iload_n (pc' := 62) dX11_shown_61 rfl rfl ?_
        by_cases c22 : v3 = (0 : Int32)
        · rw [if_pos c22] at h21
          refine mr_if_ne_f (t := 73) (pc' := 65) dX11_shown_62 (by decide) rfl (not_not_intro c22) ?_
          refine mr_iload (pc' := 67) dX11_shown_65 rfl rfl ?_
          refine mr_bipush (pc' := 69) (v := (24 : Int32)) dX11_shown_67 rfl (by decide) ?_
          obtain ⟨a26, g27, h28⟩ := Option.bind_eq_some_iff.mp h21
          refine mr_idiv (pc' := 70) dX11_shown_69 rfl g27 ?_
          refine mr_goto (t := 78) dX11_shown_70 (by decide) ?_
          obtain rfl := Option.some.inj h28
          exact mr_ireturn dX11_shown_78 rfl
        · rw [if_neg c22] at h21
          refine mr_if_ne_t (t := 73) dX11_shown_62 (by decide) c22 ?_
          refine mr_iload (pc' := 75) dX11_shown_73 rfl rfl ?_
          refine mr_bipush (pc' := 77) (v := (24 : Int32)) dX11_shown_75 rfl (by decide) ?_
          obtain ⟨a23, g24, h25⟩ := Option.bind_eq_some_iff.mp h21
          refine mr_irem (pc' := 78) dX11_shown_77 rfl g24 ?_
          obtain rfl := Option.some.inj h25
          exact mr_ireturn dX11_shown_78 rfl
def f_X11_noonsTill (v0 : Int32) (v1 : Int32) (S : fS) : Option (Int32) :=
  if ((12 : Int32) * v1) ≤ v0 then ((dI (v0 - ((12 : Int32) * v1)) ((24 : Int32) * v1)).bind fun a2 =>
  some (a2 + (1 : Int32))) else
  (some (0 : Int32))
set_option maxHeartbeats 4000000 in
set_option maxRecDepth 100000 in
theorem ok_X11_noonsTill {X : mm_C} {RR : Nat → Nat → Option Nat} (hR : RRok RR) {v0 : Int32} {v1 : Int32}  {S : fS} {r : Int32} (h : f_X11_noonsTill v0 v1 S = some r) : mr X 0 mY_X11_noonsTill 0 (lv_args 0 [.int v0, .int v1]) [] (MM RR S) (some (.int r), MM RR S) := by
  unfold f_X11_noonsTill at h
  show mr X _ _ 0 [(0, .int v0), (1, .int v1)] [] (MM RR S) _
  refine mr_iload_n (pc' := 1) dX11_noonsTill_0 rfl rfl ?_
  refine mr_bipush (pc' := 3) (v := (12 : Int32)) dX11_noonsTill_1 rfl (by decide) ?_
  refine mr_iload_n (pc' := 4) dX11_noonsTill_3 rfl rfl ?_
  refine mr_imul (pc' := 5) dX11_noonsTill_4 rfl ?_
  by_cases c1 : ((12 : Int32) * v1) ≤ v0
  · rw [if_pos c1] at h
    refine mr_icmp_ge_t (t := 12) dX11_noonsTill_5 (by decide) c1 ?_
    refine mr_iload_n (pc' := 13) dX11_noonsTill_12 rfl rfl ?_
    refine mr_bipush (pc' := 15) (v := (12 : Int32)) dX11_noonsTill_13 rfl (by decide) ?_
    refine mr_iload_n (pc' := 16) dX11_noonsTill_15 rfl rfl ?_
    refine mr_imul (pc' := 17) dX11_noonsTill_16 rfl ?_
    refine mr_isub (pc' := 18) dX11_noonsTill_17 rfl ?_
    refine mr_bipush (pc' := 20) (v := (24 : Int32)) dX11_noonsTill_18 rfl (by decide) ?_
    refine mr_iload_n (pc' := 21) dX11_noonsTill_20 rfl rfl ?_
    refine mr_imul (pc' := 22) dX11_noonsTill_21 rfl ?_
    obtain ⟨a2, g3, h4⟩ := Option.bind_eq_some_iff.mp h
    refine mr_idiv (pc' := 23) dX11_noonsTill_22 rfl g3 ?_
    refine mr_iconst (pc' := 24) (v := (1 : Int32)) dX11_noonsTill_23 rfl (by decide) ?_
    refine mr_iadd (pc' := 25) dX11_noonsTill_24 rfl ?_
    obtain rfl := Option.some.inj h4
    exact mr_ireturn dX11_noonsTill_25 rfl
  · rw [if_neg c1] at h
    refine mr_icmp_ge_f (t := 12) (pc' := 8) dX11_noonsTill_5 (by decide) rfl c1 ?_
    refine mr_iconst (pc' := 9) (v := (0 : Int32)) dX11_noonsTill_8 rfl (by decide) ?_
    refine mr_goto (t := 25) dX11_noonsTill_9 (by decide) ?_
    obtain rfl := Option.some.inj h
    exact mr_ireturn dX11_noonsTill_25 rfl
def f_X11_noonsIn (v1 : Int32) (v2 : Int32) (v3 : Int32) (S : fS) : Option (Int32) :=
  (f_X11_isFloor v1 S).bind fun q1 =>
  if q1 = (0 : Int32) then (some (-1 : Int32)) else
  ((f_X11_in (Int32.toInt64 v2) (0 : Int64) (9999 : Int64) S).bind fun q5 =>
  if q5 = (0 : Int32) then (some (-1 : Int32)) else
  ((f_X11_in (Int32.toInt64 v3) (Int32.toInt64 v2) (9999 : Int64) S).bind fun q9 =>
  if q9 = (0 : Int32) then (some (-1 : Int32)) else
  ((gI S 157 158 ((10 : Int32) + ((2 : Int32) * v1))).bind fun a13 =>
  (gI S 157 158 (((10 : Int32) + ((2 : Int32) * v1)) + (1 : Int32))).bind fun a16 =>
  (f_X11_noonsTill (v3 * a13) a16 S).bind fun q19 =>
  (f_X11_noonsTill ((v2 * a13) - (1 : Int32)) a16 S).bind fun q22 =>
  some (q19 - q22))))
set_option maxHeartbeats 4000000 in
set_option maxRecDepth 100000 in
theorem ok_X11_noonsIn {X : mm_C} {RR : Nat → Nat → Option Nat} (hR : RRok RR) {v1 : Int32} {v2 : Int32} {v3 : Int32}  {S : fS} {r : Int32} (h : f_X11_noonsIn v1 v2 v3 S = some r) : mr X 1 mY_X11_noonsIn 0 (lv_args 0 [.ref 145, .int v1, .int v2, .int v3]) [] (MM RR S) (some (.int r), MM RR S) := by
  unfold f_X11_noonsIn at h
  show mr X _ _ 0 [(0, .ref 145), (1, .int v1), (2, .int v2), (3, .int v3)] [] (MM RR S) _
  refine mr_aload_n (pc' := 1) dX11_noonsIn_0 rfl rfl ?_
  refine mr_iload_n (pc' := 2) dX11_noonsIn_1 rfl rfl ?_
  obtain ⟨q1, g2, h3⟩ := Option.bind_eq_some_iff.mp h
  refine mr_cv (pc' := 5) (a := 145) (d1 := 0) dX11_noonsIn_2 rfl rfl rfl rfl rfl rfl (by decide) rfl (by decide) (ok_X11_isFloor hR  g2) ?_
  show mr X _ _ 5 _ [.int q1] (MM RR S) _
  by_cases c4 : q1 = (0 : Int32)
  · rw [if_pos c4] at h3
    refine mr_if_eq_t (t := 33) dX11_noonsIn_5 (by decide) c4 ?_
    refine mr_iconst (pc' := 34) (v := (-1 : Int32)) dX11_noonsIn_33 rfl (by decide) ?_
    obtain rfl := Option.some.inj h3
    exact mr_ireturn dX11_noonsIn_34 rfl
  · rw [if_neg c4] at h3
    refine mr_if_eq_f (t := 33) (pc' := 8) dX11_noonsIn_5 (by decide) rfl c4 ?_
    refine mr_iload_n (pc' := 9) dX11_noonsIn_8 rfl rfl ?_
    refine mr_i2l (pc' := 10) dX11_noonsIn_9 rfl ?_
    refine mr_lconst (pc' := 11) (v := (0 : Int64)) dX11_noonsIn_10 rfl (by decide) ?_
    refine mr_ldc2 (pc' := 14) (v := (9999 : Int64)) dX11_noonsIn_11 rfl rfl ?_
    obtain ⟨q5, g6, h7⟩ := Option.bind_eq_some_iff.mp h3
    refine mr_cs (pc' := 17) (d1 := 0) dX11_noonsIn_14 rfl rfl rfl rfl (by decide) (Nat.le_of_ble_eq_true rfl) rfl rfl rfl (by decide) (ok_X11_in hR  g6) ?_
    show mr X _ _ 17 _ [.int q5] (MM RR S) _
    by_cases c8 : q5 = (0 : Int32)
    · rw [if_pos c8] at h7
      refine mr_if_eq_t (t := 33) dX11_noonsIn_17 (by decide) c8 ?_
      refine mr_iconst (pc' := 34) (v := (-1 : Int32)) dX11_noonsIn_33 rfl (by decide) ?_
      obtain rfl := Option.some.inj h7
      exact mr_ireturn dX11_noonsIn_34 rfl
    · rw [if_neg c8] at h7
      refine mr_if_eq_f (t := 33) (pc' := 20) dX11_noonsIn_17 (by decide) rfl c8 ?_
      refine mr_iload_n (pc' := 21) dX11_noonsIn_20 rfl rfl ?_
      refine mr_i2l (pc' := 22) dX11_noonsIn_21 rfl ?_
      refine mr_iload_n (pc' := 23) dX11_noonsIn_22 rfl rfl ?_
      refine mr_i2l (pc' := 24) dX11_noonsIn_23 rfl ?_
      refine mr_ldc2 (pc' := 27) (v := (9999 : Int64)) dX11_noonsIn_24 rfl rfl ?_
      obtain ⟨q9, g10, h11⟩ := Option.bind_eq_some_iff.mp h7
      refine mr_cs (pc' := 30) (d1 := 0) dX11_noonsIn_27 rfl rfl rfl rfl (by decide) (Nat.le_of_ble_eq_true rfl) rfl rfl rfl (by decide) (ok_X11_in hR  g10) ?_
      show mr X _ _ 30 _ [.int q9] (MM RR S) _
      by_cases c12 : q9 = (0 : Int32)
      · rw [if_pos c12] at h11
        refine mr_if_ne_f (t := 35) (pc' := 33) dX11_noonsIn_30 (by decide) rfl (not_not_intro c12) ?_
        refine mr_iconst (pc' := 34) (v := (-1 : Int32)) dX11_noonsIn_33 rfl (by decide) ?_
        obtain rfl := Option.some.inj h11
        exact mr_ireturn dX11_noonsIn_34 rfl
      · rw [if_neg c12] at h11
        refine mr_if_ne_t (t := 35) dX11_noonsIn_30 (by decide) c12 ?_
        refine mr_aload_n (pc' := 36) dX11_noonsIn_35 rfl rfl ?_
        refine mr_getR (pc' := 39) (ci := 11) (j := 25) (b := 157) hR dX11_noonsIn_36 rfl rfl rfl (by decide) (by decide) (by decide) rfl rfl ?_
        refine mr_bipush (pc' := 41) (v := (10 : Int32)) dX11_noonsIn_39 rfl (by decide) ?_
        refine mr_iconst (pc' := 42) (v := (2 : Int32)) dX11_noonsIn_41 rfl (by decide) ?_
        refine mr_iload_n (pc' := 43) dX11_noonsIn_42 rfl rfl ?_
        refine mr_imul (pc' := 44) dX11_noonsIn_43 rfl ?_
        refine mr_iadd (pc' := 45) dX11_noonsIn_44 rfl ?_
        obtain ⟨a13, g14, h15⟩ := Option.bind_eq_some_iff.mp h11
        refine mr_iald (pc' := 46) dX11_noonsIn_45 rfl rfl rfl g14 ?_
        refine mr_istore (pc' := 48) (lv' := [(4, .int a13), (0, .ref 145), (1, .int v1), (2, .int v2), (3, .int v3)]) dX11_noonsIn_46 rfl (by decide) rfl ?_
        refine mr_aload_n (pc' := 49) dX11_noonsIn_48 rfl rfl ?_
        refine mr_getR (pc' := 52) (ci := 11) (j := 25) (b := 157) hR dX11_noonsIn_49 rfl rfl rfl (by decide) (by decide) (by decide) rfl rfl ?_
        refine mr_bipush (pc' := 54) (v := (10 : Int32)) dX11_noonsIn_52 rfl (by decide) ?_
        refine mr_iconst (pc' := 55) (v := (2 : Int32)) dX11_noonsIn_54 rfl (by decide) ?_
        refine mr_iload_n (pc' := 56) dX11_noonsIn_55 rfl rfl ?_
        refine mr_imul (pc' := 57) dX11_noonsIn_56 rfl ?_
        refine mr_iadd (pc' := 58) dX11_noonsIn_57 rfl ?_
        refine mr_iconst (pc' := 59) (v := (1 : Int32)) dX11_noonsIn_58 rfl (by decide) ?_
        refine mr_iadd (pc' := 60) dX11_noonsIn_59 rfl ?_
        obtain ⟨a16, g17, h18⟩ := Option.bind_eq_some_iff.mp h15
        refine mr_iald (pc' := 61) dX11_noonsIn_60 rfl rfl rfl g17 ?_
        refine mr_istore (pc' := 63) (lv' := [(5, .int a16), (4, .int a13), (0, .ref 145), (1, .int v1), (2, .int v2), (3, .int v3)]) dX11_noonsIn_61 rfl (by decide) rfl ?_
        refine mr_iload_n (pc' := 64) dX11_noonsIn_63 rfl rfl ?_
        refine mr_iload (pc' := 66) dX11_noonsIn_64 rfl rfl ?_
        refine mr_imul (pc' := 67) dX11_noonsIn_66 rfl ?_
        refine mr_iload (pc' := 69) dX11_noonsIn_67 rfl rfl ?_
        obtain ⟨q19, g20, h21⟩ := Option.bind_eq_some_iff.mp h18
        refine mr_cs (pc' := 72) (d1 := 0) dX11_noonsIn_69 rfl rfl rfl rfl (by decide) (Nat.le_of_ble_eq_true rfl) rfl rfl rfl (by decide) (ok_X11_noonsTill hR  g20) ?_
        show mr X _ _ 72 _ [.int q19] (MM RR S) _
        refine mr_iload_n (pc' := 73) dX11_noonsIn_72 rfl rfl ?_
        refine mr_iload (pc' := 75) dX11_noonsIn_73 rfl rfl ?_
        refine mr_imul (pc' := 76) dX11_noonsIn_75 rfl ?_
        refine mr_iconst (pc' := 77) (v := (1 : Int32)) dX11_noonsIn_76 rfl (by decide) ?_
        refine mr_isub (pc' := 78) dX11_noonsIn_77 rfl ?_
        refine mr_iload (pc' := 80) dX11_noonsIn_78 rfl rfl ?_
        obtain ⟨q22, g23, h24⟩ := Option.bind_eq_some_iff.mp h21
        refine mr_cs (pc' := 83) (d1 := 0) dX11_noonsIn_80 rfl rfl rfl rfl (by decide) (Nat.le_of_ble_eq_true rfl) rfl rfl rfl (by decide) (ok_X11_noonsTill hR  g23) ?_
        show mr X _ _ 83 _ [.int q22, .int q19] (MM RR S) _
        refine mr_isub (pc' := 84) dX11_noonsIn_83 rfl ?_
        obtain rfl := Option.some.inj h24
        exact mr_ireturn dX11_noonsIn_84 rfl
def f_X11_due (v1 : Int32) (v2 : Int32) (S : fS) : Option (Int32) :=
  (f_X11_isFloor v1 S).bind fun q1 =>
  if q1 = (0 : Int32) then (some (-1 : Int32)) else
  ((f_X11_in (Int32.toInt64 v2) (0 : Int64) (9999 : Int64) S).bind fun q5 =>
  if q5 = (0 : Int32) then (some (-1 : Int32)) else
  ((gI S 157 158 ((10 : Int32) + ((2 : Int32) * v1))).bind fun a9 =>
  (gI S 157 158 (((10 : Int32) + ((2 : Int32) * v1)) + (1 : Int32))).bind fun a12 =>
  (dI (((((24 : Int32) * v2) * a12) + a9) - (1 : Int32)) a9).bind fun a15 =>
  some a15))
set_option maxHeartbeats 4000000 in
set_option maxRecDepth 100000 in
theorem ok_X11_due {X : mm_C} {RR : Nat → Nat → Option Nat} (hR : RRok RR) {v1 : Int32} {v2 : Int32}  {S : fS} {r : Int32} (h : f_X11_due v1 v2 S = some r) : mr X 1 mY_X11_due 0 (lv_args 0 [.ref 145, .int v1, .int v2]) [] (MM RR S) (some (.int r), MM RR S) := by
  unfold f_X11_due at h
  show mr X _ _ 0 [(0, .ref 145), (1, .int v1), (2, .int v2)] [] (MM RR S) _
  refine mr_aload_n (pc' := 1) dX11_due_0 rfl rfl ?_
  refine mr_iload_n (pc' := 2) dX11_due_1 rfl rfl ?_
  obtain ⟨q1, g2, h3⟩ := Option.bind_eq_some_iff.mp h
  refine mr_cv (pc' := 5) (a := 145) (d1 := 0) dX11_due_2 rfl rfl rfl rfl rfl rfl (by decide) rfl (by decide) (ok_X11_isFloor hR  g2) ?_
  show mr X _ _ 5 _ [.int q1] (MM RR S) _
  by_cases c4 : q1 = (0 : Int32)
  · rw [if_pos c4] at h3
    refine mr_if_eq_t (t := 20) dX11_due_5 (by decide) c4 ?_
    refine mr_iconst (pc' := 21) (v := (-1 : Int32)) dX11_due_20 rfl (by decide) ?_
    obtain rfl := Option.some.inj h3
    exact mr_ireturn dX11_due_21 rfl
  · rw [if_neg c4] at h3
    refine mr_if_eq_f (t := 20) (pc' := 8) dX11_due_5 (by decide) rfl c4 ?_
    refine mr_iload_n (pc' := 9) dX11_due_8 rfl rfl ?_
    refine mr_i2l (pc' := 10) dX11_due_9 rfl ?_
    refine mr_lconst (pc' := 11) (v := (0 : Int64)) dX11_due_10 rfl (by decide) ?_
    refine mr_ldc2 (pc' := 14) (v := (9999 : Int64)) dX11_due_11 rfl rfl ?_
    obtain ⟨q5, g6, h7⟩ := Option.bind_eq_some_iff.mp h3
    refine mr_cs (pc' := 17) (d1 := 0) dX11_due_14 rfl rfl rfl rfl (by decide) (Nat.le_of_ble_eq_true rfl) rfl rfl rfl (by decide) (ok_X11_in hR  g6) ?_
    show mr X _ _ 17 _ [.int q5] (MM RR S) _
    by_cases c8 : q5 = (0 : Int32)
    · rw [if_pos c8] at h7
      refine mr_if_ne_f (t := 22) (pc' := 20) dX11_due_17 (by decide) rfl (not_not_intro c8) ?_
      refine mr_iconst (pc' := 21) (v := (-1 : Int32)) dX11_due_20 rfl (by decide) ?_
      obtain rfl := Option.some.inj h7
      exact mr_ireturn dX11_due_21 rfl
    · rw [if_neg c8] at h7
      refine mr_if_ne_t (t := 22) dX11_due_17 (by decide) c8 ?_
      refine mr_aload_n (pc' := 23) dX11_due_22 rfl rfl ?_
      refine mr_getR (pc' := 26) (ci := 11) (j := 25) (b := 157) hR dX11_due_23 rfl rfl rfl (by decide) (by decide) (by decide) rfl rfl ?_
      refine mr_bipush (pc' := 28) (v := (10 : Int32)) dX11_due_26 rfl (by decide) ?_
      refine mr_iconst (pc' := 29) (v := (2 : Int32)) dX11_due_28 rfl (by decide) ?_
      refine mr_iload_n (pc' := 30) dX11_due_29 rfl rfl ?_
      refine mr_imul (pc' := 31) dX11_due_30 rfl ?_
      refine mr_iadd (pc' := 32) dX11_due_31 rfl ?_
      obtain ⟨a9, g10, h11⟩ := Option.bind_eq_some_iff.mp h7
      refine mr_iald (pc' := 33) dX11_due_32 rfl rfl rfl g10 ?_
      refine mr_istore_n (pc' := 34) (lv' := [(3, .int a9), (0, .ref 145), (1, .int v1), (2, .int v2)]) dX11_due_33 rfl (by decide) rfl ?_
      refine mr_bipush (pc' := 36) (v := (24 : Int32)) dX11_due_34 rfl (by decide) ?_
      refine mr_iload_n (pc' := 37) dX11_due_36 rfl rfl ?_
      refine mr_imul (pc' := 38) dX11_due_37 rfl ?_
      refine mr_aload_n (pc' := 39) dX11_due_38 rfl rfl ?_
      refine mr_getR (pc' := 42) (ci := 11) (j := 25) (b := 157) hR dX11_due_39 rfl rfl rfl (by decide) (by decide) (by decide) rfl rfl ?_
      refine mr_bipush (pc' := 44) (v := (10 : Int32)) dX11_due_42 rfl (by decide) ?_
      refine mr_iconst (pc' := 45) (v := (2 : Int32)) dX11_due_44 rfl (by decide) ?_
      refine mr_iload_n (pc' := 46) dX11_due_45 rfl rfl ?_
      refine mr_imul (pc' := 47) dX11_due_46 rfl ?_
      refine mr_iadd (pc' := 48) dX11_due_47 rfl ?_
      refine mr_iconst (pc' := 49) (v := (1 : Int32)) dX11_due_48 rfl (by decide) ?_
      refine mr_iadd (pc' := 50) dX11_due_49 rfl ?_
      obtain ⟨a12, g13, h14⟩ := Option.bind_eq_some_iff.mp h11
      refine mr_iald (pc' := 51) dX11_due_50 rfl rfl rfl g13 ?_
      refine mr_imul (pc' := 52) dX11_due_51 rfl ?_
      refine mr_iload_n (pc' := 53) dX11_due_52 rfl rfl ?_
      refine mr_iadd (pc' := 54) dX11_due_53 rfl ?_
      refine mr_iconst (pc' := 55) (v := (1 : Int32)) dX11_due_54 rfl (by decide) ?_
      refine mr_isub (pc' := 56) dX11_due_55 rfl ?_
      refine mr_iload_n (pc' := 57) dX11_due_56 rfl rfl ?_
      obtain ⟨a15, g16, h17⟩ := Option.bind_eq_some_iff.mp h14
      refine mr_idiv (pc' := 58) dX11_due_57 rfl g16 ?_
      obtain rfl := Option.some.inj h17
      exact mr_ireturn dX11_due_58 rfl
def lp_X11_isSpare_2 (p1 : Int32) (K : fS → Option (Int32 × fS)) : Nat → Int32 → fS → Option (Int32 × fS)
  | 0, _, _ => none
  | n + 1, p2, S0 =>
    if (10 : Int32) ≤ p2 then (K S0) else
    ((f_X11_stairOf p1 (0 : Int32) S0).bind fun q2 =>
    if p2 = q2 then ((sI S0 163 10 p2 (vp_nar .boolean (1 : Int32))).bind fun S9 =>
    lp_X11_isSpare_2 p1 K n (p2 + (1 : Int32)) S9) else
    ((sI S0 163 10 p2 (vp_nar .boolean (0 : Int32))).bind fun S6 =>
    lp_X11_isSpare_2 p1 K n (p2 + (1 : Int32)) S6))
set_option maxHeartbeats 4000000 in
set_option maxRecDepth 100000 in
theorem ok_lp_X11_isSpare_2 {X : mm_C} {RR : Nat → Nat → Option Nat} (hR : RRok RR) {p1 : Int32}  {K : fS → Option (Int32 × fS)} {r : Int32 × fS} (hK : ∀ (Sk : fS), K Sk = some r → mr X 1 mY_X11_isSpare 35 [(0, .ref 145), (1, .int p1)] [] (MM RR Sk) (some (.int r.1), MM RR r.2)) : ∀ (n : Nat) (p2 : Int32) (S0 : fS), lp_X11_isSpare_2 p1 K n p2 S0 = some r → mr X 1 mY_X11_isSpare 2 [(0, .ref 145), (1, .int p1), (2, .int p2)] [] (MM RR S0) (some (.int r.1), MM RR r.2) := by
  intro n
  induction n with
  | zero => intro p2 S0 h; exact mm_no h
  | succ n ih =>
    intro p2 S0 h
    unfold lp_X11_isSpare_2 at h
    refine mr_iload_n (pc' := 3) dX11_isSpare_2 rfl rfl ?_
    refine mr_bipush (pc' := 5) (v := (10 : Int32)) dX11_isSpare_3 rfl (by decide) ?_
    by_cases c1 : (10 : Int32) ≤ p2
    · rw [if_pos c1] at h
      refine mr_icmp_ge_t (t := 35) dX11_isSpare_5 (by decide) c1 ?_
      exact mr_sub [(0, .ref 145), (1, .int p1)] ⟨rfl, rfl, trivial⟩ rfl (hK _  h)
    · rw [if_neg c1] at h
      refine mr_icmp_ge_f (t := 35) (pc' := 8) dX11_isSpare_5 (by decide) rfl c1 ?_
      refine mr_aload_n (pc' := 9) dX11_isSpare_8 rfl rfl ?_
      refine mr_getR (pc' := 12) (ci := 11) (j := 31) (b := 163) hR dX11_isSpare_9 rfl rfl rfl (by decide) (by decide) (by decide) rfl rfl ?_
      refine mr_iload_n (pc' := 13) dX11_isSpare_12 rfl rfl ?_
      refine mr_iload_n (pc' := 14) dX11_isSpare_13 rfl rfl ?_
      refine mr_aload_n (pc' := 15) dX11_isSpare_14 rfl rfl ?_
      refine mr_iload_n (pc' := 16) dX11_isSpare_15 rfl rfl ?_
      refine mr_iconst (pc' := 17) (v := (0 : Int32)) dX11_isSpare_16 rfl (by decide) ?_
      obtain ⟨q2, g3, h4⟩ := Option.bind_eq_some_iff.mp h
      refine mr_cv (pc' := 20) (a := 145) (d1 := 0) dX11_isSpare_17 rfl rfl rfl rfl rfl rfl (by decide) rfl (by decide) (ok_X11_stairOf hR  g3) ?_
      show mr X _ _ 20 _ [.int q2, .int p2, .int p2, .ref 163] (MM RR S0) _
      by_cases c5 : p2 = q2
      · rw [if_pos c5] at h4
        refine mr_icmp_ne_f (t := 27) (pc' := 23) dX11_isSpare_20 (by decide) rfl (not_not_intro c5) ?_
        refine mr_iconst (pc' := 24) (v := (1 : Int32)) dX11_isSpare_23 rfl (by decide) ?_
        refine mr_goto (t := 28) dX11_isSpare_24 (by decide) ?_
        obtain ⟨S9, g10, h11⟩ := Option.bind_eq_some_iff.mp h4
        refine mr_zast (pc' := 29) dX11_isSpare_28 rfl rfl rfl g10 ?_
        refine mr_iinc (pc' := 32) (x' := (p2 + (1 : Int32))) (lv' := [(2, .int (p2 + (1 : Int32))), (0, .ref 145), (1, .int p1)]) dX11_isSpare_29 rfl (by decide) rfl rfl rfl ?_
        refine mr_goto (t := 2) dX11_isSpare_32 (by decide) ?_
        exact mr_sub [(0, .ref 145), (1, .int p1), (2, .int (p2 + (1 : Int32)))] ⟨rfl, rfl, rfl, trivial⟩ rfl (ih _ _  h11)
      · rw [if_neg c5] at h4
        refine mr_icmp_ne_t (t := 27) dX11_isSpare_20 (by decide) c5 ?_
        refine mr_iconst (pc' := 28) (v := (0 : Int32)) dX11_isSpare_27 rfl (by decide) ?_
        obtain ⟨S6, g7, h8⟩ := Option.bind_eq_some_iff.mp h4
        refine mr_zast (pc' := 29) dX11_isSpare_28 rfl rfl rfl g7 ?_
        refine mr_iinc (pc' := 32) (x' := (p2 + (1 : Int32))) (lv' := [(2, .int (p2 + (1 : Int32))), (0, .ref 145), (1, .int p1)]) dX11_isSpare_29 rfl (by decide) rfl rfl rfl ?_
        refine mr_goto (t := 2) dX11_isSpare_32 (by decide) ?_
        exact mr_sub [(0, .ref 145), (1, .int p1), (2, .int (p2 + (1 : Int32)))] ⟨rfl, rfl, rfl, trivial⟩ rfl (ih _ _  h8)
def lp_X11_isSpare_45 (p1 : Int32) (p2 : Int32) (K : fS → Option (Int32 × fS)) : Nat → Int32 → fS → Option (Int32 × fS)
  | 0, _, _ => none
  | n + 1, p3, S0 =>
    (gI S0 157 158 (1 : Int32)).bind fun a15 =>
    if a15 ≤ p3 then (K S0) else
    (if p3 = p1 then (lp_X11_isSpare_45 p1 p2 K n (p3 + (1 : Int32)) S0) else
    ((f_X11_stairOf p3 (0 : Int32) S0).bind fun q20 =>
    (gI S0 163 10 q20).bind fun a23 =>
    if a23 = (0 : Int32) then ((f_X11_stairOf p3 (1 : Int32) S0).bind fun q39 =>
    (gI S0 163 10 q39).bind fun a42 =>
    if a42 = (0 : Int32) then (lp_X11_isSpare_45 p1 p2 K n (p3 + (1 : Int32)) S0) else
    ((f_X11_stairOf p3 (0 : Int32) S0).bind fun q46 =>
    (sI S0 163 10 q46 (vp_nar .boolean (1 : Int32))).bind fun S49 =>
    (f_X11_stairOf p3 (1 : Int32) S49).bind fun q52 =>
    (sI S49 163 10 q52 (vp_nar .boolean (1 : Int32))).bind fun S55 =>
    lp_X11_isSpare_45 p1 p2 K n (p3 + (1 : Int32)) S55)) else
    ((f_X11_stairOf p3 (0 : Int32) S0).bind fun q27 =>
    (sI S0 163 10 q27 (vp_nar .boolean (1 : Int32))).bind fun S30 =>
    (f_X11_stairOf p3 (1 : Int32) S30).bind fun q33 =>
    (sI S30 163 10 q33 (vp_nar .boolean (1 : Int32))).bind fun S36 =>
    lp_X11_isSpare_45 p1 p2 K n (p3 + (1 : Int32)) S36)))
set_option maxHeartbeats 4000000 in
set_option maxRecDepth 100000 in
theorem ok_lp_X11_isSpare_45 {X : mm_C} {RR : Nat → Nat → Option Nat} (hR : RRok RR) {p1 : Int32} {p2 : Int32}  {K : fS → Option (Int32 × fS)} {r : Int32 × fS} (hK : ∀ (Sk : fS), K Sk = some r → mr X 1 mY_X11_isSpare 121 [(0, .ref 145), (1, .int p1), (2, .int p2)] [] (MM RR Sk) (some (.int r.1), MM RR r.2)) : ∀ (n : Nat) (p3 : Int32) (S0 : fS), lp_X11_isSpare_45 p1 p2 K n p3 S0 = some r → mr X 1 mY_X11_isSpare 45 [(0, .ref 145), (1, .int p1), (2, .int p2), (3, .int p3)] [] (MM RR S0) (some (.int r.1), MM RR r.2) := by
  intro n
  induction n with
  | zero => intro p3 S0 h; exact mm_no h
  | succ n ih =>
    intro p3 S0 h
    unfold lp_X11_isSpare_45 at h
    refine mr_iload_n (pc' := 46) dX11_isSpare_45 rfl rfl ?_
    refine mr_aload_n (pc' := 47) dX11_isSpare_46 rfl rfl ?_
    refine mr_getR (pc' := 50) (ci := 11) (j := 25) (b := 157) hR dX11_isSpare_47 rfl rfl rfl (by decide) (by decide) (by decide) rfl rfl ?_
    refine mr_iconst (pc' := 51) (v := (1 : Int32)) dX11_isSpare_50 rfl (by decide) ?_
    obtain ⟨a15, g16, h17⟩ := Option.bind_eq_some_iff.mp h
    refine mr_iald (pc' := 52) dX11_isSpare_51 rfl rfl rfl g16 ?_
    by_cases c18 : a15 ≤ p3
    · rw [if_pos c18] at h17
      refine mr_icmp_ge_t (t := 121) dX11_isSpare_52 (by decide) c18 ?_
      exact mr_sub [(0, .ref 145), (1, .int p1), (2, .int p2)] ⟨rfl, rfl, rfl, trivial⟩ rfl (hK _  h17)
    · rw [if_neg c18] at h17
      refine mr_icmp_ge_f (t := 121) (pc' := 55) dX11_isSpare_52 (by decide) rfl c18 ?_
      refine mr_iload_n (pc' := 56) dX11_isSpare_55 rfl rfl ?_
      refine mr_iload_n (pc' := 57) dX11_isSpare_56 rfl rfl ?_
      by_cases c19 : p3 = p1
      · rw [if_pos c19] at h17
        refine mr_icmp_eq_t (t := 115) dX11_isSpare_57 (by decide) c19 ?_
        refine mr_iinc (pc' := 118) (x' := (p3 + (1 : Int32))) (lv' := [(3, .int (p3 + (1 : Int32))), (0, .ref 145), (1, .int p1), (2, .int p2)]) dX11_isSpare_115 rfl (by decide) rfl rfl rfl ?_
        refine mr_goto (t := 45) dX11_isSpare_118 (by decide) ?_
        exact mr_sub [(0, .ref 145), (1, .int p1), (2, .int p2), (3, .int (p3 + (1 : Int32)))] ⟨rfl, rfl, rfl, rfl, trivial⟩ rfl (ih _ _  h17)
      · rw [if_neg c19] at h17
        refine mr_icmp_eq_f (t := 115) (pc' := 60) dX11_isSpare_57 (by decide) rfl c19 ?_
        refine mr_aload_n (pc' := 61) dX11_isSpare_60 rfl rfl ?_
        refine mr_getR (pc' := 64) (ci := 11) (j := 31) (b := 163) hR dX11_isSpare_61 rfl rfl rfl (by decide) (by decide) (by decide) rfl rfl ?_
        refine mr_aload_n (pc' := 65) dX11_isSpare_64 rfl rfl ?_
        refine mr_iload_n (pc' := 66) dX11_isSpare_65 rfl rfl ?_
        refine mr_iconst (pc' := 67) (v := (0 : Int32)) dX11_isSpare_66 rfl (by decide) ?_
        obtain ⟨q20, g21, h22⟩ := Option.bind_eq_some_iff.mp h17
        refine mr_cv (pc' := 70) (a := 145) (d1 := 0) dX11_isSpare_67 rfl rfl rfl rfl rfl rfl (by decide) rfl (by decide) (ok_X11_stairOf hR  g21) ?_
        show mr X _ _ 70 _ [.int q20, .ref 163] (MM RR S0) _
        obtain ⟨a23, g24, h25⟩ := Option.bind_eq_some_iff.mp h22
        refine mr_bald (pc' := 71) dX11_isSpare_70 rfl (Or.inr rfl) rfl g24 ?_
        by_cases c26 : a23 = (0 : Int32)
        · rw [if_pos c26] at h25
          refine mr_if_ne_f (t := 91) (pc' := 74) dX11_isSpare_71 (by decide) rfl (not_not_intro c26) ?_
          refine mr_aload_n (pc' := 75) dX11_isSpare_74 rfl rfl ?_
          refine mr_getR (pc' := 78) (ci := 11) (j := 31) (b := 163) hR dX11_isSpare_75 rfl rfl rfl (by decide) (by decide) (by decide) rfl rfl ?_
          refine mr_aload_n (pc' := 79) dX11_isSpare_78 rfl rfl ?_
          refine mr_iload_n (pc' := 80) dX11_isSpare_79 rfl rfl ?_
          refine mr_iconst (pc' := 81) (v := (1 : Int32)) dX11_isSpare_80 rfl (by decide) ?_
          obtain ⟨q39, g40, h41⟩ := Option.bind_eq_some_iff.mp h25
          refine mr_cv (pc' := 84) (a := 145) (d1 := 0) dX11_isSpare_81 rfl rfl rfl rfl rfl rfl (by decide) rfl (by decide) (ok_X11_stairOf hR  g40) ?_
          show mr X _ _ 84 _ [.int q39, .ref 163] (MM RR S0) _
          obtain ⟨a42, g43, h44⟩ := Option.bind_eq_some_iff.mp h41
          refine mr_bald (pc' := 85) dX11_isSpare_84 rfl (Or.inr rfl) rfl g43 ?_
          by_cases c45 : a42 = (0 : Int32)
          · rw [if_pos c45] at h44
            refine mr_if_ne_f (t := 91) (pc' := 88) dX11_isSpare_85 (by decide) rfl (not_not_intro c45) ?_
            refine mr_goto (t := 115) dX11_isSpare_88 (by decide) ?_
            refine mr_iinc (pc' := 118) (x' := (p3 + (1 : Int32))) (lv' := [(3, .int (p3 + (1 : Int32))), (0, .ref 145), (1, .int p1), (2, .int p2)]) dX11_isSpare_115 rfl (by decide) rfl rfl rfl ?_
            refine mr_goto (t := 45) dX11_isSpare_118 (by decide) ?_
            exact mr_sub [(0, .ref 145), (1, .int p1), (2, .int p2), (3, .int (p3 + (1 : Int32)))] ⟨rfl, rfl, rfl, rfl, trivial⟩ rfl (ih _ _  h44)
          · rw [if_neg c45] at h44
            refine mr_if_ne_t (t := 91) dX11_isSpare_85 (by decide) c45 ?_
            refine mr_aload_n (pc' := 92) dX11_isSpare_91 rfl rfl ?_
            refine mr_getR (pc' := 95) (ci := 11) (j := 31) (b := 163) hR dX11_isSpare_92 rfl rfl rfl (by decide) (by decide) (by decide) rfl rfl ?_
            refine mr_aload_n (pc' := 96) dX11_isSpare_95 rfl rfl ?_
            refine mr_iload_n (pc' := 97) dX11_isSpare_96 rfl rfl ?_
            refine mr_iconst (pc' := 98) (v := (0 : Int32)) dX11_isSpare_97 rfl (by decide) ?_
            obtain ⟨q46, g47, h48⟩ := Option.bind_eq_some_iff.mp h44
            refine mr_cv (pc' := 101) (a := 145) (d1 := 0) dX11_isSpare_98 rfl rfl rfl rfl rfl rfl (by decide) rfl (by decide) (ok_X11_stairOf hR  g47) ?_
            show mr X _ _ 101 _ [.int q46, .ref 163] (MM RR S0) _
            refine mr_iconst (pc' := 102) (v := (1 : Int32)) dX11_isSpare_101 rfl (by decide) ?_
            obtain ⟨S49, g50, h51⟩ := Option.bind_eq_some_iff.mp h48
            refine mr_zast (pc' := 103) dX11_isSpare_102 rfl rfl rfl g50 ?_
            refine mr_aload_n (pc' := 104) dX11_isSpare_103 rfl rfl ?_
            refine mr_getR (pc' := 107) (ci := 11) (j := 31) (b := 163) hR dX11_isSpare_104 rfl rfl rfl (by decide) (by decide) (by decide) rfl rfl ?_
            refine mr_aload_n (pc' := 108) dX11_isSpare_107 rfl rfl ?_
            refine mr_iload_n (pc' := 109) dX11_isSpare_108 rfl rfl ?_
            refine mr_iconst (pc' := 110) (v := (1 : Int32)) dX11_isSpare_109 rfl (by decide) ?_
            obtain ⟨q52, g53, h54⟩ := Option.bind_eq_some_iff.mp h51
            refine mr_cv (pc' := 113) (a := 145) (d1 := 0) dX11_isSpare_110 rfl rfl rfl rfl rfl rfl (by decide) rfl (by decide) (ok_X11_stairOf hR  g53) ?_
            show mr X _ _ 113 _ [.int q52, .ref 163] (MM RR S49) _
            refine mr_iconst (pc' := 114) (v := (1 : Int32)) dX11_isSpare_113 rfl (by decide) ?_
            obtain ⟨S55, g56, h57⟩ := Option.bind_eq_some_iff.mp h54
            refine mr_zast (pc' := 115) dX11_isSpare_114 rfl rfl rfl g56 ?_
            refine mr_iinc (pc' := 118) (x' := (p3 + (1 : Int32))) (lv' := [(3, .int (p3 + (1 : Int32))), (0, .ref 145), (1, .int p1), (2, .int p2)]) dX11_isSpare_115 rfl (by decide) rfl rfl rfl ?_
            refine mr_goto (t := 45) dX11_isSpare_118 (by decide) ?_
            exact mr_sub [(0, .ref 145), (1, .int p1), (2, .int p2), (3, .int (p3 + (1 : Int32)))] ⟨rfl, rfl, rfl, rfl, trivial⟩ rfl (ih _ _  h57)
        · rw [if_neg c26] at h25
          refine mr_if_ne_t (t := 91) dX11_isSpare_71 (by decide) c26 ?_
          refine mr_aload_n (pc' := 92) dX11_isSpare_91 rfl rfl ?_
          refine mr_getR (pc' := 95) (ci := 11) (j := 31) (b := 163) hR dX11_isSpare_92 rfl rfl rfl (by decide) (by decide) (by decide) rfl rfl ?_
          refine mr_aload_n (pc' := 96) dX11_isSpare_95 rfl rfl ?_
          refine mr_iload_n (pc' := 97) dX11_isSpare_96 rfl rfl ?_
          refine mr_iconst (pc' := 98) (v := (0 : Int32)) dX11_isSpare_97 rfl (by decide) ?_
          obtain ⟨q27, g28, h29⟩ := Option.bind_eq_some_iff.mp h25
          refine mr_cv (pc' := 101) (a := 145) (d1 := 0) dX11_isSpare_98 rfl rfl rfl rfl rfl rfl (by decide) rfl (by decide) (ok_X11_stairOf hR  g28) ?_
          show mr X _ _ 101 _ [.int q27, .ref 163] (MM RR S0) _
          refine mr_iconst (pc' := 102) (v := (1 : Int32)) dX11_isSpare_101 rfl (by decide) ?_
          obtain ⟨S30, g31, h32⟩ := Option.bind_eq_some_iff.mp h29
          refine mr_zast (pc' := 103) dX11_isSpare_102 rfl rfl rfl g31 ?_
          refine mr_aload_n (pc' := 104) dX11_isSpare_103 rfl rfl ?_
          refine mr_getR (pc' := 107) (ci := 11) (j := 31) (b := 163) hR dX11_isSpare_104 rfl rfl rfl (by decide) (by decide) (by decide) rfl rfl ?_
          refine mr_aload_n (pc' := 108) dX11_isSpare_107 rfl rfl ?_
          refine mr_iload_n (pc' := 109) dX11_isSpare_108 rfl rfl ?_
          refine mr_iconst (pc' := 110) (v := (1 : Int32)) dX11_isSpare_109 rfl (by decide) ?_
          obtain ⟨q33, g34, h35⟩ := Option.bind_eq_some_iff.mp h32
          refine mr_cv (pc' := 113) (a := 145) (d1 := 0) dX11_isSpare_110 rfl rfl rfl rfl rfl rfl (by decide) rfl (by decide) (ok_X11_stairOf hR  g34) ?_
          show mr X _ _ 113 _ [.int q33, .ref 163] (MM RR S30) _
          refine mr_iconst (pc' := 114) (v := (1 : Int32)) dX11_isSpare_113 rfl (by decide) ?_
          obtain ⟨S36, g37, h38⟩ := Option.bind_eq_some_iff.mp h35
          refine mr_zast (pc' := 115) dX11_isSpare_114 rfl rfl rfl g37 ?_
          refine mr_iinc (pc' := 118) (x' := (p3 + (1 : Int32))) (lv' := [(3, .int (p3 + (1 : Int32))), (0, .ref 145), (1, .int p1), (2, .int p2)]) dX11_isSpare_115 rfl (by decide) rfl rfl rfl ?_
          refine mr_goto (t := 45) dX11_isSpare_118 (by decide) ?_
          exact mr_sub [(0, .ref 145), (1, .int p1), (2, .int p2), (3, .int (p3 + (1 : Int32)))] ⟨rfl, rfl, rfl, rfl, trivial⟩ rfl (ih _ _  h38)
def lp_X11_isSpare_37 (p1 : Int32) (K : fS → Option (Int32 × fS)) : Nat → Int32 → fS → Option (Int32 × fS)
  | 0, _, _ => none
  | n + 1, p2, S0 =>
    if (10 : Int32) ≤ p2 then (K S0) else
    (lp_X11_isSpare_45 p1 p2 (fun S58 => lp_X11_isSpare_37 p1 K n (p2 + (1 : Int32)) S58) FU (0 : Int32) S0)
set_option maxHeartbeats 4000000 in
set_option maxRecDepth 100000 in
theorem ok_lp_X11_isSpare_37 {X : mm_C} {RR : Nat → Nat → Option Nat} (hR : RRok RR) {p1 : Int32}  {K : fS → Option (Int32 × fS)} {r : Int32 × fS} (hK : ∀ (Sk : fS), K Sk = some r → mr X 1 mY_X11_isSpare 127 [(0, .ref 145), (1, .int p1)] [] (MM RR Sk) (some (.int r.1), MM RR r.2)) : ∀ (n : Nat) (p2 : Int32) (S0 : fS), lp_X11_isSpare_37 p1 K n p2 S0 = some r → mr X 1 mY_X11_isSpare 37 [(0, .ref 145), (1, .int p1), (2, .int p2)] [] (MM RR S0) (some (.int r.1), MM RR r.2) := by
  intro n
  induction n with
  | zero => intro p2 S0 h; exact mm_no h
  | succ n ih =>
    intro p2 S0 h
    unfold lp_X11_isSpare_37 at h
    refine mr_iload_n (pc' := 38) dX11_isSpare_37 rfl rfl ?_
    refine mr_bipush (pc' := 40) (v := (10 : Int32)) dX11_isSpare_38 rfl (by decide) ?_
    by_cases c14 : (10 : Int32) ≤ p2
    · rw [if_pos c14] at h
      refine mr_icmp_ge_t (t := 127) dX11_isSpare_40 (by decide) c14 ?_
      exact mr_sub [(0, .ref 145), (1, .int p1)] ⟨rfl, rfl, trivial⟩ rfl (hK _  h)
    · rw [if_neg c14] at h
      refine mr_icmp_ge_f (t := 127) (pc' := 43) dX11_isSpare_40 (by decide) rfl c14 ?_
      refine mr_iconst (pc' := 44) (v := (0 : Int32)) dX11_isSpare_43 rfl (by decide) ?_
      refine mr_istore_n (pc' := 45) (lv' := [(3, .int (0 : Int32)), (0, .ref 145), (1, .int p1), (2, .int p2)]) dX11_isSpare_44 rfl (by decide) rfl ?_
      refine mr_sub [(0, .ref 145), (1, .int p1), (2, .int p2), (3, .int (0 : Int32))] ⟨rfl, rfl, rfl, rfl, trivial⟩ rfl ?_
      refine ok_lp_X11_isSpare_45 hR  (fun S58 h59 => ?_) FU _ _  h
      refine mr_iinc (pc' := 124) (x' := (p2 + (1 : Int32))) (lv' := [(2, .int (p2 + (1 : Int32))), (0, .ref 145), (1, .int p1)]) dX11_isSpare_121 rfl (by decide) rfl rfl rfl ?_
      refine mr_goto (t := 37) dX11_isSpare_124 (by decide) ?_
      exact mr_sub [(0, .ref 145), (1, .int p1), (2, .int (p2 + (1 : Int32)))] ⟨rfl, rfl, rfl, trivial⟩ rfl (ih _ _  h59)
def f_X11_isSpare (v1 : Int32) (S : fS) : Option (Int32 × fS) :=
  lp_X11_isSpare_2 v1 (fun S12 => lp_X11_isSpare_37 v1 (fun S60 => (f_X11_stairOf v1 (1 : Int32) S60).bind fun q62 =>
  (gI S60 163 10 q62).bind fun a65 =>
  (bZ a65).bind fun z68 => some (z68, S60)) FU (0 : Int32) S12) FU (0 : Int32) S
set_option maxHeartbeats 4000000 in
set_option maxRecDepth 100000 in
theorem ok_X11_isSpare {X : mm_C} {RR : Nat → Nat → Option Nat} (hR : RRok RR) {v1 : Int32}  {S : fS} {r : Int32 × fS} (h : f_X11_isSpare v1 S = some r) : mr X 1 mY_X11_isSpare 0 (lv_args 0 [.ref 145, .int v1]) [] (MM RR S) (some (.int r.1), MM RR r.2) := by
  unfold f_X11_isSpare at h
  show mr X _ _ 0 [(0, .ref 145), (1, .int v1)] [] (MM RR S) _
  refine mr_iconst (pc' := 1) (v := (0 : Int32)) dX11_isSpare_0 rfl (by decide) ?_
  refine mr_istore_n (pc' := 2) (lv' := [(2, .int (0 : Int32)), (0, .ref 145), (1, .int v1)]) dX11_isSpare_1 rfl (by decide) rfl ?_
  refine mr_sub [(0, .ref 145), (1, .int v1), (2, .int (0 : Int32))] ⟨rfl, rfl, rfl, trivial⟩ rfl ?_
  refine ok_lp_X11_isSpare_2 hR  (fun S12 h13 => ?_) FU _ _  h
  refine mr_iconst (pc' := 36) (v := (0 : Int32)) dX11_isSpare_35 rfl (by decide) ?_
  refine mr_istore_n (pc' := 37) (lv' := [(2, .int (0 : Int32)), (0, .ref 145), (1, .int v1)]) dX11_isSpare_36 rfl (by decide) rfl ?_
  refine mr_sub [(0, .ref 145), (1, .int v1), (2, .int (0 : Int32))] ⟨rfl, rfl, rfl, trivial⟩ rfl ?_
  refine ok_lp_X11_isSpare_37 hR  (fun S60 h61 => ?_) FU _ _  h13
  refine mr_aload_n (pc' := 128) dX11_isSpare_127 rfl rfl ?_
  refine mr_getR (pc' := 131) (ci := 11) (j := 31) (b := 163) hR dX11_isSpare_128 rfl rfl rfl (by decide) (by decide) (by decide) rfl rfl ?_
  refine mr_aload_n (pc' := 132) dX11_isSpare_131 rfl rfl ?_
  refine mr_iload_n (pc' := 133) dX11_isSpare_132 rfl rfl ?_
  refine mr_iconst (pc' := 134) (v := (1 : Int32)) dX11_isSpare_133 rfl (by decide) ?_
  obtain ⟨q62, g63, h64⟩ := Option.bind_eq_some_iff.mp h61
  refine mr_cv (pc' := 137) (a := 145) (d1 := 0) dX11_isSpare_134 rfl rfl rfl rfl rfl rfl (by decide) rfl (by decide) (ok_X11_stairOf hR  g63) ?_
  show mr X _ _ 137 _ [.int q62, .ref 163] (MM RR S60) _
  obtain ⟨a65, g66, h67⟩ := Option.bind_eq_some_iff.mp h64
  refine mr_bald (pc' := 138) dX11_isSpare_137 rfl (Or.inr rfl) rfl g66 ?_
  obtain ⟨z68, g69, h70⟩ := Option.bind_eq_some_iff.mp h67
  obtain ⟨g71, e72⟩ := mm_ifs g69
  cases e72
  cases h70
  exact mr_zreturn dX11_isSpare_138 rfl g71
def lp_X11_needed_4  (K : Int32 → fS → Option (Int32 × fS)) : Nat → Int32 → Int32 → fS → Option (Int32 × fS)
  | 0, _, _, _ => none
  | n + 1, p1, p2, S0 =>
    (gI S0 157 158 (1 : Int32)).bind fun a1 =>
    if a1 ≤ p2 then (K p1 S0) else
    ((f_X11_isSpare p2 S0).bind fun q5 =>
    if q5.1 = (0 : Int32) then (lp_X11_needed_4  K n (p1 ||| ((1 : Int32) <<< (p2 &&& 31))) (p2 + (1 : Int32)) q5.2) else
    (lp_X11_needed_4  K n (p1 ||| (0 : Int32)) (p2 + (1 : Int32)) q5.2))
set_option maxHeartbeats 4000000 in
set_option maxRecDepth 100000 in
theorem ok_lp_X11_needed_4 {X : mm_C} {RR : Nat → Nat → Option Nat} (hR : RRok RR)   {K : Int32 → fS → Option (Int32 × fS)} {r : Int32 × fS} (hK : ∀ (k1 : Int32) (Sk : fS), K k1 Sk = some r → mr X 2 mY_X11_needed 38 [(1, .int k1)] [] (MM RR Sk) (some (.int r.1), MM RR r.2)) : ∀ (n : Nat) (p1 : Int32) (p2 : Int32) (S0 : fS), lp_X11_needed_4  K n p1 p2 S0 = some r → mr X 2 mY_X11_needed 4 [(0, .ref 145), (1, .int p1), (2, .int p2)] [] (MM RR S0) (some (.int r.1), MM RR r.2) := by
  intro n
  induction n with
  | zero => intro p1 p2 S0 h; exact mm_no h
  | succ n ih =>
    intro p1 p2 S0 h
    unfold lp_X11_needed_4 at h
    refine mr_iload_n (pc' := 5) dX11_needed_4 rfl rfl ?_
    refine mr_aload_n (pc' := 6) dX11_needed_5 rfl rfl ?_
    refine mr_getR (pc' := 9) (ci := 11) (j := 25) (b := 157) hR dX11_needed_6 rfl rfl rfl (by decide) (by decide) (by decide) rfl rfl ?_
    refine mr_iconst (pc' := 10) (v := (1 : Int32)) dX11_needed_9 rfl (by decide) ?_
    obtain ⟨a1, g2, h3⟩ := Option.bind_eq_some_iff.mp h
    refine mr_iald (pc' := 11) dX11_needed_10 rfl rfl rfl g2 ?_
    by_cases c4 : a1 ≤ p2
    · rw [if_pos c4] at h3
      refine mr_icmp_ge_t (t := 38) dX11_needed_11 (by decide) c4 ?_
      exact mr_sub [(1, .int p1)] ⟨rfl, trivial⟩ rfl (hK _ _  h3)
    · rw [if_neg c4] at h3
      refine mr_icmp_ge_f (t := 38) (pc' := 14) dX11_needed_11 (by decide) rfl c4 ?_
      refine mr_iload_n (pc' := 15) dX11_needed_14 rfl rfl ?_
      refine mr_aload_n (pc' := 16) dX11_needed_15 rfl rfl ?_
      refine mr_iload_n (pc' := 17) dX11_needed_16 rfl rfl ?_
      obtain ⟨q5, g6, h7⟩ := Option.bind_eq_some_iff.mp h3
      refine mr_cv (pc' := 20) (a := 145) (d1 := 1) dX11_needed_17 rfl rfl rfl rfl rfl rfl (by decide) rfl (by decide) (ok_X11_isSpare hR  g6) ?_
      show mr X _ _ 20 _ [.int q5.1, .int p1] (MM RR q5.2) _
      by_cases c8 : q5.1 = (0 : Int32)
      · rw [if_pos c8] at h7
        refine mr_if_eq_t (t := 27) dX11_needed_20 (by decide) c8 ?_
        refine mr_iconst (pc' := 28) (v := (1 : Int32)) dX11_needed_27 rfl (by decide) ?_
        refine mr_iload_n (pc' := 29) dX11_needed_28 rfl rfl ?_
        refine mr_ishl (pc' := 30) dX11_needed_29 rfl ?_
        refine mr_ior (pc' := 31) dX11_needed_30 rfl ?_
        refine mr_istore_n (pc' := 32) (lv' := [(1, .int (p1 ||| ((1 : Int32) <<< (p2 &&& 31)))), (0, .ref 145), (2, .int p2)]) dX11_needed_31 rfl (by decide) rfl ?_
        refine mr_iinc (pc' := 35) (x' := (p2 + (1 : Int32))) (lv' := [(2, .int (p2 + (1 : Int32))), (1, .int (p1 ||| ((1 : Int32) <<< (p2 &&& 31)))), (0, .ref 145)]) dX11_needed_32 rfl (by decide) rfl rfl rfl ?_
        refine mr_goto (t := 4) dX11_needed_35 (by decide) ?_
        exact mr_sub [(0, .ref 145), (1, .int (p1 ||| ((1 : Int32) <<< (p2 &&& 31)))), (2, .int (p2 + (1 : Int32)))] ⟨rfl, rfl, rfl, trivial⟩ rfl (ih _ _ _  h7)
      · rw [if_neg c8] at h7
        refine mr_if_eq_f (t := 27) (pc' := 23) dX11_needed_20 (by decide) rfl c8 ?_
        refine mr_iconst (pc' := 24) (v := (0 : Int32)) dX11_needed_23 rfl (by decide) ?_
        refine mr_goto (t := 30) dX11_needed_24 (by decide) ?_
        refine mr_ior (pc' := 31) dX11_needed_30 rfl ?_
        refine mr_istore_n (pc' := 32) (lv' := [(1, .int (p1 ||| (0 : Int32))), (0, .ref 145), (2, .int p2)]) dX11_needed_31 rfl (by decide) rfl ?_
        refine mr_iinc (pc' := 35) (x' := (p2 + (1 : Int32))) (lv' := [(2, .int (p2 + (1 : Int32))), (1, .int (p1 ||| (0 : Int32))), (0, .ref 145)]) dX11_needed_32 rfl (by decide) rfl rfl rfl ?_
        refine mr_goto (t := 4) dX11_needed_35 (by decide) ?_
        exact mr_sub [(0, .ref 145), (1, .int (p1 ||| (0 : Int32))), (2, .int (p2 + (1 : Int32)))] ⟨rfl, rfl, rfl, trivial⟩ rfl (ih _ _ _  h7)
def f_X11_needed  (S : fS) : Option (Int32 × fS) :=
  lp_X11_needed_4  (fun u9 S10 => some (u9, S10)) FU (0 : Int32) (0 : Int32) S
set_option maxHeartbeats 4000000 in
set_option maxRecDepth 100000 in
theorem ok_X11_needed {X : mm_C} {RR : Nat → Nat → Option Nat} (hR : RRok RR)   {S : fS} {r : Int32 × fS} (h : f_X11_needed  S = some r) : mr X 2 mY_X11_needed 0 (lv_args 0 [.ref 145]) [] (MM RR S) (some (.int r.1), MM RR r.2) := by
  unfold f_X11_needed at h
  show mr X _ _ 0 [(0, .ref 145)] [] (MM RR S) _
  refine mr_iconst (pc' := 1) (v := (0 : Int32)) dX11_needed_0 rfl (by decide) ?_
  refine mr_istore_n (pc' := 2) (lv' := [(1, .int (0 : Int32)), (0, .ref 145)]) dX11_needed_1 rfl (by decide) rfl ?_
  refine mr_iconst (pc' := 3) (v := (0 : Int32)) dX11_needed_2 rfl (by decide) ?_
  refine mr_istore_n (pc' := 4) (lv' := [(2, .int (0 : Int32)), (1, .int (0 : Int32)), (0, .ref 145)]) dX11_needed_3 rfl (by decide) rfl ?_
  refine mr_sub [(0, .ref 145), (1, .int (0 : Int32)), (2, .int (0 : Int32))] ⟨rfl, rfl, rfl, trivial⟩ rfl ?_
  refine ok_lp_X11_needed_4 hR  (fun u9 S10 h11 => ?_) FU _ _ _  h
  refine mr_iload_n (pc' := 39) dX11_needed_38 rfl rfl ?_
  obtain rfl := Option.some.inj h11
  exact mr_ireturn dX11_needed_39 rfl
def lp_X11_elder_57 (p1 : Int32) (p2 : Int32) (p3 : Int32) (K : fS → Option (Int64 × fS)) : Nat → Int32 → fS → Option (Int64 × fS)
  | 0, _, _ => none
  | n + 1, p4, S0 =>
    if p2 ≤ p4 then (K S0) else
    ((f_X11_hour p1 S0).bind fun q18 =>
    lp_X11_elder_57 p1 p2 p3 K n (p4 + (1 : Int32)) q18)
set_option maxHeartbeats 4000000 in
set_option maxRecDepth 100000 in
theorem ok_lp_X11_elder_57 {X : mm_C} {RR : Nat → Nat → Option Nat} (hR : RRok RR) {p1 : Int32} {p2 : Int32} {p3 : Int32}  {K : fS → Option (Int64 × fS)} {r : Int64 × fS} (hK : ∀ (Sk : fS), K Sk = some r → mr X 5 mY_X11_elder 74 [(0, .ref 145), (3, .int p3)] [] (MM RR Sk) (some (.long r.1), MM RR r.2)) : ∀ (n : Nat) (p4 : Int32) (S0 : fS), lp_X11_elder_57 p1 p2 p3 K n p4 S0 = some r → mr X 5 mY_X11_elder 57 [(0, .ref 145), (1, .int p1), (2, .int p2), (3, .int p3), (4, .int p4)] [] (MM RR S0) (some (.long r.1), MM RR r.2) := by
  intro n
  induction n with
  | zero => intro p4 S0 h; exact mm_no h
  | succ n ih =>
    intro p4 S0 h
    unfold lp_X11_elder_57 at h
    refine mr_iload (pc' := 59) dX11_elder_57 rfl rfl ?_
    refine mr_iload_n (pc' := 60) dX11_elder_59 rfl rfl ?_
    by_cases c17 : p2 ≤ p4
    · rw [if_pos c17] at h
      refine mr_icmp_ge_t (t := 74) dX11_elder_60 (by decide) c17 ?_
      exact mr_sub [(0, .ref 145), (3, .int p3)] ⟨rfl, rfl, trivial⟩ rfl (hK _  h)
    · rw [if_neg c17] at h
      refine mr_icmp_ge_f (t := 74) (pc' := 63) dX11_elder_60 (by decide) rfl c17 ?_
      refine mr_aload_n (pc' := 64) dX11_elder_63 rfl rfl ?_
      refine mr_iload_n (pc' := 65) dX11_elder_64 rfl rfl ?_
      obtain ⟨q18, g19, h20⟩ := Option.bind_eq_some_iff.mp h
      refine mr_cv (pc' := 68) (a := 145) (d1 := 4) dX11_elder_65 rfl rfl rfl rfl rfl rfl (by decide) rfl (by decide) (ok_X11_hour hR  g19) ?_
      show mr X _ _ 68 _ [] (MM RR q18) _
      refine mr_iinc (pc' := 71) (x' := (p4 + (1 : Int32))) (lv' := [(4, .int (p4 + (1 : Int32))), (0, .ref 145), (1, .int p1), (2, .int p2), (3, .int p3)]) dX11_elder_68 rfl (by decide) rfl rfl rfl ?_
      refine mr_goto (t := 57) dX11_elder_71 (by decide) ?_
      exact mr_sub [(0, .ref 145), (1, .int p1), (2, .int p2), (3, .int p3), (4, .int (p4 + (1 : Int32)))] ⟨rfl, rfl, rfl, rfl, rfl, trivial⟩ rfl (ih _ _  h20)
def lp_X11_elder_83 (p3 : Int32) (K : Int32 → Int32 → fS → Option (Int64 × fS)) : Nat → Int32 → Int32 → Int32 → fS → Option (Int64 × fS)
  | 0, _, _, _, _ => none
  | n + 1, p4, p5, p6, S0 =>
    (gI S0 157 158 (2 : Int32)).bind fun a23 =>
    if a23 ≤ p6 then (K p4 p5 S0) else
    ((gL S0 158 8 p6).bind fun a27 =>
    (gL S0 158 8 p4).bind fun a30 =>
    if a27 ≤ a30 then ((gL S0 158 8 p6).bind fun a34 =>
    (gL S0 158 8 p5).bind fun a37 =>
    if a37 ≤ a34 then (lp_X11_elder_83 p3 K n p4 p5 (p6 + (1 : Int32)) S0) else
    (lp_X11_elder_83 p3 K n p4 p6 (p6 + (1 : Int32)) S0)) else
    ((gL S0 158 8 p6).bind fun a41 =>
    (gL S0 158 8 p5).bind fun a44 =>
    if a44 ≤ a41 then (lp_X11_elder_83 p3 K n p6 p5 (p6 + (1 : Int32)) S0) else
    (lp_X11_elder_83 p3 K n p6 p6 (p6 + (1 : Int32)) S0)))
set_option maxHeartbeats 4000000 in
set_option maxRecDepth 100000 in
theorem ok_lp_X11_elder_83 {X : mm_C} {RR : Nat → Nat → Option Nat} (hR : RRok RR) {p3 : Int32}  {K : Int32 → Int32 → fS → Option (Int64 × fS)} {r : Int64 × fS} (hK : ∀ (k4 : Int32) (k5 : Int32) (Sk : fS), K k4 k5 Sk = some r → mr X 5 mY_X11_elder 154 [(0, .ref 145), (3, .int p3), (4, .int k4), (5, .int k5)] [] (MM RR Sk) (some (.long r.1), MM RR r.2)) : ∀ (n : Nat) (p4 : Int32) (p5 : Int32) (p6 : Int32) (S0 : fS), lp_X11_elder_83 p3 K n p4 p5 p6 S0 = some r → mr X 5 mY_X11_elder 83 [(0, .ref 145), (3, .int p3), (4, .int p4), (5, .int p5), (6, .int p6)] [] (MM RR S0) (some (.long r.1), MM RR r.2) := by
  intro n
  induction n with
  | zero => intro p4 p5 p6 S0 h; exact mm_no h
  | succ n ih =>
    intro p4 p5 p6 S0 h
    unfold lp_X11_elder_83 at h
    refine mr_iload (pc' := 85) dX11_elder_83 rfl rfl ?_
    refine mr_aload_n (pc' := 86) dX11_elder_85 rfl rfl ?_
    refine mr_getR (pc' := 89) (ci := 11) (j := 25) (b := 157) hR dX11_elder_86 rfl rfl rfl (by decide) (by decide) (by decide) rfl rfl ?_
    refine mr_iconst (pc' := 90) (v := (2 : Int32)) dX11_elder_89 rfl (by decide) ?_
    obtain ⟨a23, g24, h25⟩ := Option.bind_eq_some_iff.mp h
    refine mr_iald (pc' := 91) dX11_elder_90 rfl rfl rfl g24 ?_
    by_cases c26 : a23 ≤ p6
    · rw [if_pos c26] at h25
      refine mr_icmp_ge_t (t := 154) dX11_elder_91 (by decide) c26 ?_
      exact mr_sub [(0, .ref 145), (3, .int p3), (4, .int p4), (5, .int p5)] ⟨rfl, rfl, rfl, rfl, trivial⟩ rfl (hK _ _ _  h25)
    · rw [if_neg c26] at h25
      refine mr_icmp_ge_f (t := 154) (pc' := 94) dX11_elder_91 (by decide) rfl c26 ?_
      refine mr_aload_n (pc' := 95) dX11_elder_94 rfl rfl ?_
      refine mr_getR (pc' := 98) (ci := 11) (j := 26) (b := 158) hR dX11_elder_95 rfl rfl rfl (by decide) (by decide) (by decide) rfl rfl ?_
      refine mr_iload (pc' := 100) dX11_elder_98 rfl rfl ?_
      obtain ⟨a27, g28, h29⟩ := Option.bind_eq_some_iff.mp h25
      refine mr_lald (pc' := 101) dX11_elder_100 rfl rfl rfl g28 ?_
      refine mr_aload_n (pc' := 102) dX11_elder_101 rfl rfl ?_
      refine mr_getR (pc' := 105) (ci := 11) (j := 26) (b := 158) hR dX11_elder_102 rfl rfl rfl (by decide) (by decide) (by decide) rfl rfl ?_
      refine mr_iload (pc' := 107) dX11_elder_105 rfl rfl ?_
      obtain ⟨a30, g31, h32⟩ := Option.bind_eq_some_iff.mp h29
      refine mr_lald (pc' := 108) dX11_elder_107 rfl rfl rfl g31 ?_
      by_cases c33 : a27 ≤ a30
      · rw [if_pos c33] at h32
        refine mr_lcmp_le_t (t := 117) dX11_elder_108 rfl dX11_elder_109 (by decide) c33 ?_
        refine mr_iload (pc' := 119) dX11_elder_117 rfl rfl ?_
        refine mr_istore (pc' := 121) (lv' := [(4, .int p4), (0, .ref 145), (3, .int p3), (5, .int p5), (6, .int p6)]) dX11_elder_119 rfl (by decide) rfl ?_
        refine mr_aload_n (pc' := 122) dX11_elder_121 rfl rfl ?_
        refine mr_getR (pc' := 125) (ci := 11) (j := 26) (b := 158) hR dX11_elder_122 rfl rfl rfl (by decide) (by decide) (by decide) rfl rfl ?_
        refine mr_iload (pc' := 127) dX11_elder_125 rfl rfl ?_
        obtain ⟨a34, g35, h36⟩ := Option.bind_eq_some_iff.mp h32
        refine mr_lald (pc' := 128) dX11_elder_127 rfl rfl rfl g35 ?_
        refine mr_aload_n (pc' := 129) dX11_elder_128 rfl rfl ?_
        refine mr_getR (pc' := 132) (ci := 11) (j := 26) (b := 158) hR dX11_elder_129 rfl rfl rfl (by decide) (by decide) (by decide) rfl rfl ?_
        refine mr_iload (pc' := 134) dX11_elder_132 rfl rfl ?_
        obtain ⟨a37, g38, h39⟩ := Option.bind_eq_some_iff.mp h36
        refine mr_lald (pc' := 135) dX11_elder_134 rfl rfl rfl g38 ?_
        by_cases c40 : a37 ≤ a34
        · rw [if_pos c40] at h39
          refine mr_lcmp_ge_t (t := 144) dX11_elder_135 rfl dX11_elder_136 (by decide) c40 ?_
          refine mr_iload (pc' := 146) dX11_elder_144 rfl rfl ?_
          refine mr_istore (pc' := 148) (lv' := [(5, .int p5), (4, .int p4), (0, .ref 145), (3, .int p3), (6, .int p6)]) dX11_elder_146 rfl (by decide) rfl ?_
          refine mr_iinc (pc' := 151) (x' := (p6 + (1 : Int32))) (lv' := [(6, .int (p6 + (1 : Int32))), (5, .int p5), (4, .int p4), (0, .ref 145), (3, .int p3)]) dX11_elder_148 rfl (by decide) rfl rfl rfl ?_
          refine mr_goto (t := 83) dX11_elder_151 (by decide) ?_
          exact mr_sub [(0, .ref 145), (3, .int p3), (4, .int p4), (5, .int p5), (6, .int (p6 + (1 : Int32)))] ⟨rfl, rfl, rfl, rfl, rfl, trivial⟩ rfl (ih _ _ _ _  h39)
        · rw [if_neg c40] at h39
          refine mr_lcmp_ge_f (t := 144) (pc' := 139) dX11_elder_135 rfl dX11_elder_136 (by decide) rfl c40 ?_
          refine mr_iload (pc' := 141) dX11_elder_139 rfl rfl ?_
          refine mr_goto (t := 146) dX11_elder_141 (by decide) ?_
          refine mr_istore (pc' := 148) (lv' := [(5, .int p6), (4, .int p4), (0, .ref 145), (3, .int p3), (6, .int p6)]) dX11_elder_146 rfl (by decide) rfl ?_
          refine mr_iinc (pc' := 151) (x' := (p6 + (1 : Int32))) (lv' := [(6, .int (p6 + (1 : Int32))), (5, .int p6), (4, .int p4), (0, .ref 145), (3, .int p3)]) dX11_elder_148 rfl (by decide) rfl rfl rfl ?_
          refine mr_goto (t := 83) dX11_elder_151 (by decide) ?_
          exact mr_sub [(0, .ref 145), (3, .int p3), (4, .int p4), (5, .int p6), (6, .int (p6 + (1 : Int32)))] ⟨rfl, rfl, rfl, rfl, rfl, trivial⟩ rfl (ih _ _ _ _  h39)
      · rw [if_neg c33] at h32
        refine mr_lcmp_le_f (t := 117) (pc' := 112) dX11_elder_108 rfl dX11_elder_109 (by decide) rfl c33 ?_
        refine mr_iload (pc' := 114) dX11_elder_112 rfl rfl ?_
        refine mr_goto (t := 119) dX11_elder_114 (by decide) ?_
        refine mr_istore (pc' := 121) (lv' := [(4, .int p6), (0, .ref 145), (3, .int p3), (5, .int p5), (6, .int p6)]) dX11_elder_119 rfl (by decide) rfl ?_
        refine mr_aload_n (pc' := 122) dX11_elder_121 rfl rfl ?_
        refine mr_getR (pc' := 125) (ci := 11) (j := 26) (b := 158) hR dX11_elder_122 rfl rfl rfl (by decide) (by decide) (by decide) rfl rfl ?_
        refine mr_iload (pc' := 127) dX11_elder_125 rfl rfl ?_
        obtain ⟨a41, g42, h43⟩ := Option.bind_eq_some_iff.mp h32
        refine mr_lald (pc' := 128) dX11_elder_127 rfl rfl rfl g42 ?_
        refine mr_aload_n (pc' := 129) dX11_elder_128 rfl rfl ?_
        refine mr_getR (pc' := 132) (ci := 11) (j := 26) (b := 158) hR dX11_elder_129 rfl rfl rfl (by decide) (by decide) (by decide) rfl rfl ?_
        refine mr_iload (pc' := 134) dX11_elder_132 rfl rfl ?_
        obtain ⟨a44, g45, h46⟩ := Option.bind_eq_some_iff.mp h43
        refine mr_lald (pc' := 135) dX11_elder_134 rfl rfl rfl g45 ?_
        by_cases c47 : a44 ≤ a41
        · rw [if_pos c47] at h46
          refine mr_lcmp_ge_t (t := 144) dX11_elder_135 rfl dX11_elder_136 (by decide) c47 ?_
          refine mr_iload (pc' := 146) dX11_elder_144 rfl rfl ?_
          refine mr_istore (pc' := 148) (lv' := [(5, .int p5), (4, .int p6), (0, .ref 145), (3, .int p3), (6, .int p6)]) dX11_elder_146 rfl (by decide) rfl ?_
          refine mr_iinc (pc' := 151) (x' := (p6 + (1 : Int32))) (lv' := [(6, .int (p6 + (1 : Int32))), (5, .int p5), (4, .int p6), (0, .ref 145), (3, .int p3)]) dX11_elder_148 rfl (by decide) rfl rfl rfl ?_
          refine mr_goto (t := 83) dX11_elder_151 (by decide) ?_
          exact mr_sub [(0, .ref 145), (3, .int p3), (4, .int p6), (5, .int p5), (6, .int (p6 + (1 : Int32)))] ⟨rfl, rfl, rfl, rfl, rfl, trivial⟩ rfl (ih _ _ _ _  h46)
        · rw [if_neg c47] at h46
          refine mr_lcmp_ge_f (t := 144) (pc' := 139) dX11_elder_135 rfl dX11_elder_136 (by decide) rfl c47 ?_
          refine mr_iload (pc' := 141) dX11_elder_139 rfl rfl ?_
          refine mr_goto (t := 146) dX11_elder_141 (by decide) ?_
          refine mr_istore (pc' := 148) (lv' := [(5, .int p6), (4, .int p6), (0, .ref 145), (3, .int p3), (6, .int p6)]) dX11_elder_146 rfl (by decide) rfl ?_
          refine mr_iinc (pc' := 151) (x' := (p6 + (1 : Int32))) (lv' := [(6, .int (p6 + (1 : Int32))), (5, .int p6), (4, .int p6), (0, .ref 145), (3, .int p3)]) dX11_elder_148 rfl (by decide) rfl rfl rfl ?_
          refine mr_goto (t := 83) dX11_elder_151 (by decide) ?_
          exact mr_sub [(0, .ref 145), (3, .int p3), (4, .int p6), (5, .int p6), (6, .int (p6 + (1 : Int32)))] ⟨rfl, rfl, rfl, rfl, rfl, trivial⟩ rfl (ih _ _ _ _  h46)
def f_X11_elder (v1 : Int32) (v2 : Int32) (v3 : Int32) (S : fS) : Option (Int64 × fS) :=
  if v1 = (-1 : Int32) then ((f_X11_in (Int32.toInt64 v2) (0 : Int64) (200 : Int64) S).bind fun q2 =>
  if q2 = (0 : Int32) then (some ((-1 : Int64), S)) else
  ((f_X11_in (Int32.toInt64 v3) (0 : Int64) (3 : Int64) S).bind fun q6 =>
  if q6 = (0 : Int32) then (some ((-1 : Int64), S)) else
  ((gI S 157 158 (2 : Int32)).bind fun a10 =>
  if a10 = (0 : Int32) then (some ((-1 : Int64), S)) else
  ((f_X11_keeps  S).bind fun q14 =>
  lp_X11_elder_57 v1 v2 v3 (fun S21 => lp_X11_elder_83 v3 (fun u48 u49 S50 => if v3 = (0 : Int32) then ((f_X11_putsBack  S50).bind fun q69 =>
  some ((Int32.toInt64 u48), q69)) else
  (if v3 = (1 : Int32) then ((f_X11_putsBack  S50).bind fun q66 =>
  some ((Int32.toInt64 u49), q66)) else
  ((gL S50 158 8 u48).bind fun a54 =>
  (gL S50 158 8 u49).bind fun a57 =>
  (f_X11_lowest (a54 - a57) (232792560 : Int64) (v3 - (2 : Int32)) S50).bind fun q60 =>
  (f_X11_putsBack  S50).bind fun q63 =>
  some (q60, q63)))) FU (0 : Int32) (0 : Int32) (1 : Int32) S21) FU (0 : Int32) q14)))) else
  ((f_X11_isRule v1 S).bind fun q72 =>
  if q72 = (0 : Int32) then (some ((-1 : Int64), S)) else
  ((f_X11_in (Int32.toInt64 v2) (0 : Int64) (200 : Int64) S).bind fun q76 =>
  if q76 = (0 : Int32) then (some ((-1 : Int64), S)) else
  ((f_X11_in (Int32.toInt64 v3) (0 : Int64) (3 : Int64) S).bind fun q80 =>
  if q80 = (0 : Int32) then (some ((-1 : Int64), S)) else
  ((gI S 157 158 (2 : Int32)).bind fun a84 =>
  if a84 = (0 : Int32) then (some ((-1 : Int64), S)) else
  ((f_X11_keeps  S).bind fun q88 =>
  lp_X11_elder_57 v1 v2 v3 (fun S91 => lp_X11_elder_83 v3 (fun u93 u94 S95 => if v3 = (0 : Int32) then ((f_X11_putsBack  S95).bind fun q114 =>
  some ((Int32.toInt64 u93), q114)) else
  (if v3 = (1 : Int32) then ((f_X11_putsBack  S95).bind fun q111 =>
  some ((Int32.toInt64 u94), q111)) else
  ((gL S95 158 8 u93).bind fun a99 =>
  (gL S95 158 8 u94).bind fun a102 =>
  (f_X11_lowest (a99 - a102) (232792560 : Int64) (v3 - (2 : Int32)) S95).bind fun q105 =>
  (f_X11_putsBack  S95).bind fun q108 =>
  some (q105, q108)))) FU (0 : Int32) (0 : Int32) (1 : Int32) S91) FU (0 : Int32) q88)))))
set_option maxHeartbeats 4000000 in
set_option maxRecDepth 100000 in
theorem ok_X11_elder {X : mm_C} {RR : Nat → Nat → Option Nat} (hR : RRok RR) {v1 : Int32} {v2 : Int32} {v3 : Int32}  {S : fS} {r : Int64 × fS} (h : f_X11_elder v1 v2 v3 S = some r) : mr X 5 mY_X11_elder 0 (lv_args 0 [.ref 145, .int v1, .int v2, .int v3]) [] (MM RR S) (some (.long r.1), MM RR r.2) := by
  unfold f_X11_elder at h
  show mr X _ _ 0 [(0, .ref 145), (1, .int v1), (2, .int v2), (3, .int v3)] [] (MM RR S) _
  refine mr_iload_n (pc' := 1) dX11_elder_0 rfl rfl ?_
  refine mr_iconst (pc' := 2) (v := (-1 : Int32)) dX11_elder_1 rfl (by decide) ?_
  by_cases c1 : v1 = (-1 : Int32)
  · rw [if_pos c1] at h
    refine mr_icmp_eq_t (t := 13) dX11_elder_2 (by decide) c1 ?_
    refine mr_iload_n (pc' := 14) dX11_elder_13 rfl rfl ?_
    refine mr_i2l (pc' := 15) dX11_elder_14 rfl ?_
    refine mr_lconst (pc' := 16) (v := (0 : Int64)) dX11_elder_15 rfl (by decide) ?_
    refine mr_ldc2 (pc' := 19) (v := (200 : Int64)) dX11_elder_16 rfl rfl ?_
    obtain ⟨q2, g3, h4⟩ := Option.bind_eq_some_iff.mp h
    refine mr_cs (pc' := 22) (d1 := 0) dX11_elder_19 rfl rfl rfl rfl (by decide) (Nat.le_of_ble_eq_true rfl) rfl rfl rfl (by decide) (ok_X11_in hR  g3) ?_
    show mr X _ _ 22 _ [.int q2] (MM RR S) _
    by_cases c5 : q2 = (0 : Int32)
    · rw [if_pos c5] at h4
      refine mr_if_eq_t (t := 46) dX11_elder_22 (by decide) c5 ?_
      refine mr_ldc2 (pc' := 49) (v := (-1 : Int64)) dX11_elder_46 rfl rfl ?_
      obtain rfl := Option.some.inj h4
      exact mr_lreturn dX11_elder_49 rfl
    · rw [if_neg c5] at h4
      refine mr_if_eq_f (t := 46) (pc' := 25) dX11_elder_22 (by decide) rfl c5 ?_
      refine mr_iload_n (pc' := 26) dX11_elder_25 rfl rfl ?_
      refine mr_i2l (pc' := 27) dX11_elder_26 rfl ?_
      refine mr_lconst (pc' := 28) (v := (0 : Int64)) dX11_elder_27 rfl (by decide) ?_
      refine mr_ldc2 (pc' := 31) (v := (3 : Int64)) dX11_elder_28 rfl rfl ?_
      obtain ⟨q6, g7, h8⟩ := Option.bind_eq_some_iff.mp h4
      refine mr_cs (pc' := 34) (d1 := 0) dX11_elder_31 rfl rfl rfl rfl (by decide) (Nat.le_of_ble_eq_true rfl) rfl rfl rfl (by decide) (ok_X11_in hR  g7) ?_
      show mr X _ _ 34 _ [.int q6] (MM RR S) _
      by_cases c9 : q6 = (0 : Int32)
      · rw [if_pos c9] at h8
        refine mr_if_eq_t (t := 46) dX11_elder_34 (by decide) c9 ?_
        refine mr_ldc2 (pc' := 49) (v := (-1 : Int64)) dX11_elder_46 rfl rfl ?_
        obtain rfl := Option.some.inj h8
        exact mr_lreturn dX11_elder_49 rfl
      · rw [if_neg c9] at h8
        refine mr_if_eq_f (t := 46) (pc' := 37) dX11_elder_34 (by decide) rfl c9 ?_
        refine mr_aload_n (pc' := 38) dX11_elder_37 rfl rfl ?_
        refine mr_getR (pc' := 41) (ci := 11) (j := 25) (b := 157) hR dX11_elder_38 rfl rfl rfl (by decide) (by decide) (by decide) rfl rfl ?_
        refine mr_iconst (pc' := 42) (v := (2 : Int32)) dX11_elder_41 rfl (by decide) ?_
        obtain ⟨a10, g11, h12⟩ := Option.bind_eq_some_iff.mp h8
        refine mr_iald (pc' := 43) dX11_elder_42 rfl rfl rfl g11 ?_
        by_cases c13 : a10 = (0 : Int32)
        · rw [if_pos c13] at h12
          refine mr_if_ne_f (t := 50) (pc' := 46) dX11_elder_43 (by decide) rfl (not_not_intro c13) ?_
          refine mr_ldc2 (pc' := 49) (v := (-1 : Int64)) dX11_elder_46 rfl rfl ?_
          obtain rfl := Option.some.inj h12
          exact mr_lreturn dX11_elder_49 rfl
        · rw [if_neg c13] at h12
          refine mr_if_ne_t (t := 50) dX11_elder_43 (by decide) c13 ?_
          refine mr_aload_n (pc' := 51) dX11_elder_50 rfl rfl ?_
          obtain ⟨q14, g15, h16⟩ := Option.bind_eq_some_iff.mp h12
          refine mr_cv (pc' := 54) (a := 145) (d1 := 0) dX11_elder_51 rfl rfl rfl rfl rfl rfl (by decide) rfl (by decide) (ok_X11_keeps hR  g15) ?_
          show mr X _ _ 54 _ [] (MM RR q14) _
          refine mr_iconst (pc' := 55) (v := (0 : Int32)) dX11_elder_54 rfl (by decide) ?_
          refine mr_istore (pc' := 57) (lv' := [(4, .int (0 : Int32)), (0, .ref 145), (1, .int v1), (2, .int v2), (3, .int v3)]) dX11_elder_55 rfl (by decide) rfl ?_
          refine mr_sub [(0, .ref 145), (1, .int v1), (2, .int v2), (3, .int v3), (4, .int (0 : Int32))] ⟨rfl, rfl, rfl, rfl, rfl, trivial⟩ rfl ?_
          refine ok_lp_X11_elder_57 hR  (fun S21 h22 => ?_) FU _ _  h16
          refine mr_iconst (pc' := 75) (v := (0 : Int32)) dX11_elder_74 rfl (by decide) ?_
          refine mr_istore (pc' := 77) (lv' := [(4, .int (0 : Int32)), (0, .ref 145), (3, .int v3)]) dX11_elder_75 rfl (by decide) rfl ?_
          refine mr_iconst (pc' := 78) (v := (0 : Int32)) dX11_elder_77 rfl (by decide) ?_
          refine mr_istore (pc' := 80) (lv' := [(5, .int (0 : Int32)), (4, .int (0 : Int32)), (0, .ref 145), (3, .int v3)]) dX11_elder_78 rfl (by decide) rfl ?_
          refine mr_iconst (pc' := 81) (v := (1 : Int32)) dX11_elder_80 rfl (by decide) ?_
          refine mr_istore (pc' := 83) (lv' := [(6, .int (1 : Int32)), (5, .int (0 : Int32)), (4, .int (0 : Int32)), (0, .ref 145), (3, .int v3)]) dX11_elder_81 rfl (by decide) rfl ?_
          refine mr_sub [(0, .ref 145), (3, .int v3), (4, .int (0 : Int32)), (5, .int (0 : Int32)), (6, .int (1 : Int32))] ⟨rfl, rfl, rfl, rfl, rfl, trivial⟩ rfl ?_
          refine ok_lp_X11_elder_83 hR  (fun u48 u49 S50 h51 => ?_) FU _ _ _ _  h22
          refine mr_iload_n (pc' := 155) dX11_elder_154 rfl rfl ?_
          by_cases c52 : v3 = (0 : Int32)
          · rw [if_pos c52] at h51
            refine mr_if_ne_f (t := 164) (pc' := 158) dX11_elder_155 (by decide) rfl (not_not_intro c52) ?_
            refine mr_iload (pc' := 160) dX11_elder_158 rfl rfl ?_
            refine mr_i2l (pc' := 161) dX11_elder_160 rfl ?_
            refine mr_goto (t := 199) dX11_elder_161 (by decide) ?_
            refine mr_lstore (pc' := 201) (lv' := [(6, .long (Int32.toInt64 u48)), (0, .ref 145), (3, .int v3), (4, .int u48), (5, .int u49)]) dX11_elder_199 rfl (by decide) rfl ?_
            refine mr_aload_n (pc' := 202) dX11_elder_201 rfl rfl ?_
            obtain ⟨q69, g70, h71⟩ := Option.bind_eq_some_iff.mp h51
            refine mr_cv (pc' := 205) (a := 145) (d1 := 0) dX11_elder_202 rfl rfl rfl rfl rfl rfl (by decide) rfl (by decide) (ok_X11_putsBack hR  g70) ?_
            show mr X _ _ 205 _ [] (MM RR q69) _
            refine mr_lload (pc' := 207) dX11_elder_205 rfl rfl ?_
            obtain rfl := Option.some.inj h71
            exact mr_lreturn dX11_elder_207 rfl
          · rw [if_neg c52] at h51
            refine mr_if_ne_t (t := 164) dX11_elder_155 (by decide) c52 ?_
            refine mr_iload_n (pc' := 165) dX11_elder_164 rfl rfl ?_
            refine mr_iconst (pc' := 166) (v := (1 : Int32)) dX11_elder_165 rfl (by decide) ?_
            by_cases c53 : v3 = (1 : Int32)
            · rw [if_pos c53] at h51
              refine mr_icmp_ne_f (t := 175) (pc' := 169) dX11_elder_166 (by decide) rfl (not_not_intro c53) ?_
              refine mr_iload (pc' := 171) dX11_elder_169 rfl rfl ?_
              refine mr_i2l (pc' := 172) dX11_elder_171 rfl ?_
              refine mr_goto (t := 199) dX11_elder_172 (by decide) ?_
              refine mr_lstore (pc' := 201) (lv' := [(6, .long (Int32.toInt64 u49)), (0, .ref 145), (3, .int v3), (4, .int u48), (5, .int u49)]) dX11_elder_199 rfl (by decide) rfl ?_
              refine mr_aload_n (pc' := 202) dX11_elder_201 rfl rfl ?_
              obtain ⟨q66, g67, h68⟩ := Option.bind_eq_some_iff.mp h51
              refine mr_cv (pc' := 205) (a := 145) (d1 := 0) dX11_elder_202 rfl rfl rfl rfl rfl rfl (by decide) rfl (by decide) (ok_X11_putsBack hR  g67) ?_
              show mr X _ _ 205 _ [] (MM RR q66) _
              refine mr_lload (pc' := 207) dX11_elder_205 rfl rfl ?_
              obtain rfl := Option.some.inj h68
              exact mr_lreturn dX11_elder_207 rfl
            · rw [if_neg c53] at h51
              refine mr_icmp_ne_t (t := 175) dX11_elder_166 (by decide) c53 ?_
              refine mr_aload_n (pc' := 176) dX11_elder_175 rfl rfl ?_
              refine mr_getR (pc' := 179) (ci := 11) (j := 26) (b := 158) hR dX11_elder_176 rfl rfl rfl (by decide) (by decide) (by decide) rfl rfl ?_
              refine mr_iload (pc' := 181) dX11_elder_179 rfl rfl ?_
              obtain ⟨a54, g55, h56⟩ := Option.bind_eq_some_iff.mp h51
              refine mr_lald (pc' := 182) dX11_elder_181 rfl rfl rfl g55 ?_
              refine mr_aload_n (pc' := 183) dX11_elder_182 rfl rfl ?_
              refine mr_getR (pc' := 186) (ci := 11) (j := 26) (b := 158) hR dX11_elder_183 rfl rfl rfl (by decide) (by decide) (by decide) rfl rfl ?_
              refine mr_iload (pc' := 188) dX11_elder_186 rfl rfl ?_
              obtain ⟨a57, g58, h59⟩ := Option.bind_eq_some_iff.mp h56
              refine mr_lald (pc' := 189) dX11_elder_188 rfl rfl rfl g58 ?_
              refine mr_lsub (pc' := 190) dX11_elder_189 rfl ?_
              refine mr_ldc2 (pc' := 193) (v := (232792560 : Int64)) dX11_elder_190 rfl rfl ?_
              refine mr_iload_n (pc' := 194) dX11_elder_193 rfl rfl ?_
              refine mr_iconst (pc' := 195) (v := (2 : Int32)) dX11_elder_194 rfl (by decide) ?_
              refine mr_isub (pc' := 196) dX11_elder_195 rfl ?_
              obtain ⟨q60, g61, h62⟩ := Option.bind_eq_some_iff.mp h59
              refine mr_cs (pc' := 199) (d1 := 1) dX11_elder_196 rfl rfl rfl rfl (by decide) (Nat.le_of_ble_eq_true rfl) rfl rfl rfl (by decide) (ok_X11_lowest hR  g61) ?_
              show mr X _ _ 199 _ [.long q60] (MM RR S50) _
              refine mr_lstore (pc' := 201) (lv' := [(6, .long q60), (0, .ref 145), (3, .int v3), (4, .int u48), (5, .int u49)]) dX11_elder_199 rfl (by decide) rfl ?_
              refine mr_aload_n (pc' := 202) dX11_elder_201 rfl rfl ?_
              obtain ⟨q63, g64, h65⟩ := Option.bind_eq_some_iff.mp h62
              refine mr_cv (pc' := 205) (a := 145) (d1 := 0) dX11_elder_202 rfl rfl rfl rfl rfl rfl (by decide) rfl (by decide) (ok_X11_putsBack hR  g64) ?_
              show mr X _ _ 205 _ [] (MM RR q63) _
              refine mr_lload (pc' := 207) dX11_elder_205 rfl rfl ?_
              obtain rfl := Option.some.inj h65
              exact mr_lreturn dX11_elder_207 rfl
  · rw [if_neg c1] at h
    refine mr_icmp_eq_f (t := 13) (pc' := 5) dX11_elder_2 (by decide) rfl c1 ?_
    refine mr_aload_n (pc' := 6) dX11_elder_5 rfl rfl ?_
    refine mr_iload_n (pc' := 7) dX11_elder_6 rfl rfl ?_
    obtain ⟨q72, g73, h74⟩ := Option.bind_eq_some_iff.mp h
    refine mr_cv (pc' := 10) (a := 145) (d1 := 0) dX11_elder_7 rfl rfl rfl rfl rfl rfl (by decide) rfl (by decide) (ok_X11_isRule hR  g73) ?_
    show mr X _ _ 10 _ [.int q72] (MM RR S) _
    by_cases c75 : q72 = (0 : Int32)
    · rw [if_pos c75] at h74
      refine mr_if_eq_t (t := 46) dX11_elder_10 (by decide) c75 ?_
      refine mr_ldc2 (pc' := 49) (v := (-1 : Int64)) dX11_elder_46 rfl rfl ?_
      obtain rfl := Option.some.inj h74
      exact mr_lreturn dX11_elder_49 rfl
    · rw [if_neg c75] at h74
      refine mr_if_eq_f (t := 46) (pc' := 13) dX11_elder_10 (by decide) rfl c75 ?_
      refine mr_iload_n (pc' := 14) dX11_elder_13 rfl rfl ?_
      refine mr_i2l (pc' := 15) dX11_elder_14 rfl ?_
      refine mr_lconst (pc' := 16) (v := (0 : Int64)) dX11_elder_15 rfl (by decide) ?_
      refine mr_ldc2 (pc' := 19) (v := (200 : Int64)) dX11_elder_16 rfl rfl ?_
      obtain ⟨q76, g77, h78⟩ := Option.bind_eq_some_iff.mp h74
      refine mr_cs (pc' := 22) (d1 := 0) dX11_elder_19 rfl rfl rfl rfl (by decide) (Nat.le_of_ble_eq_true rfl) rfl rfl rfl (by decide) (ok_X11_in hR  g77) ?_
      show mr X _ _ 22 _ [.int q76] (MM RR S) _
      by_cases c79 : q76 = (0 : Int32)
      · rw [if_pos c79] at h78
        refine mr_if_eq_t (t := 46) dX11_elder_22 (by decide) c79 ?_
        refine mr_ldc2 (pc' := 49) (v := (-1 : Int64)) dX11_elder_46 rfl rfl ?_
        obtain rfl := Option.some.inj h78
        exact mr_lreturn dX11_elder_49 rfl
      · rw [if_neg c79] at h78
        refine mr_if_eq_f (t := 46) (pc' := 25) dX11_elder_22 (by decide) rfl c79 ?_
        refine mr_iload_n (pc' := 26) dX11_elder_25 rfl rfl ?_
        refine mr_i2l (pc' := 27) dX11_elder_26 rfl ?_
        refine mr_lconst (pc' := 28) (v := (0 : Int64)) dX11_elder_27 rfl (by decide) ?_
        refine mr_ldc2 (pc' := 31) (v := (3 : Int64)) dX11_elder_28 rfl rfl ?_
        obtain ⟨q80, g81, h82⟩ := Option.bind_eq_some_iff.mp h78
        refine mr_cs (pc' := 34) (d1 := 0) dX11_elder_31 rfl rfl rfl rfl (by decide) (Nat.le_of_ble_eq_true rfl) rfl rfl rfl (by decide) (ok_X11_in hR  g81) ?_
        show mr X _ _ 34 _ [.int q80] (MM RR S) _
        by_cases c83 : q80 = (0 : Int32)
        · rw [if_pos c83] at h82
          refine mr_if_eq_t (t := 46) dX11_elder_34 (by decide) c83 ?_
          refine mr_ldc2 (pc' := 49) (v := (-1 : Int64)) dX11_elder_46 rfl rfl ?_
          obtain rfl := Option.some.inj h82
          exact mr_lreturn dX11_elder_49 rfl
        · rw [if_neg c83] at h82
          refine mr_if_eq_f (t := 46) (pc' := 37) dX11_elder_34 (by decide) rfl c83 ?_
          refine mr_aload_n (pc' := 38) dX11_elder_37 rfl rfl ?_
          refine mr_getR (pc' := 41) (ci := 11) (j := 25) (b := 157) hR dX11_elder_38 rfl rfl rfl (by decide) (by decide) (by decide) rfl rfl ?_
          refine mr_iconst (pc' := 42) (v := (2 : Int32)) dX11_elder_41 rfl (by decide) ?_
          obtain ⟨a84, g85, h86⟩ := Option.bind_eq_some_iff.mp h82
          refine mr_iald (pc' := 43) dX11_elder_42 rfl rfl rfl g85 ?_
          by_cases c87 : a84 = (0 : Int32)
          · rw [if_pos c87] at h86
            refine mr_if_ne_f (t := 50) (pc' := 46) dX11_elder_43 (by decide) rfl (not_not_intro c87) ?_
            refine mr_ldc2 (pc' := 49) (v := (-1 : Int64)) dX11_elder_46 rfl rfl ?_
            obtain rfl := Option.some.inj h86
            exact mr_lreturn dX11_elder_49 rfl
          · rw [if_neg c87] at h86
            refine mr_if_ne_t (t := 50) dX11_elder_43 (by decide) c87 ?_
            refine mr_aload_n (pc' := 51) dX11_elder_50 rfl rfl ?_
            obtain ⟨q88, g89, h90⟩ := Option.bind_eq_some_iff.mp h86
            refine mr_cv (pc' := 54) (a := 145) (d1 := 0) dX11_elder_51 rfl rfl rfl rfl rfl rfl (by decide) rfl (by decide) (ok_X11_keeps hR  g89) ?_
            show mr X _ _ 54 _ [] (MM RR q88) _
            refine mr_iconst (pc' := 55) (v := (0 : Int32)) dX11_elder_54 rfl (by decide) ?_
            refine mr_istore (pc' := 57) (lv' := [(4, .int (0 : Int32)), (0, .ref 145), (1, .int v1), (2, .int v2), (3, .int v3)]) dX11_elder_55 rfl (by decide) rfl ?_
            refine mr_sub [(0, .ref 145), (1, .int v1), (2, .int v2), (3, .int v3), (4, .int (0 : Int32))] ⟨rfl, rfl, rfl, rfl, rfl, trivial⟩ rfl ?_
            refine ok_lp_X11_elder_57 hR  (fun S91 h92 => ?_) FU _ _  h90
            refine mr_iconst (pc' := 75) (v := (0 : Int32)) dX11_elder_74 rfl (by decide) ?_
            refine mr_istore (pc' := 77) (lv' := [(4, .int (0 : Int32)), (0, .ref 145), (3, .int v3)]) dX11_elder_75 rfl (by decide) rfl ?_
            refine mr_iconst (pc' := 78) (v := (0 : Int32)) dX11_elder_77 rfl (by decide) ?_
            refine mr_istore (pc' := 80) (lv' := [(5, .int (0 : Int32)), (4, .int (0 : Int32)), (0, .ref 145), (3, .int v3)]) dX11_elder_78 rfl (by decide) rfl ?_
            refine mr_iconst (pc' := 81) (v := (1 : Int32)) dX11_elder_80 rfl (by decide) ?_
            refine mr_istore (pc' := 83) (lv' := [(6, .int (1 : Int32)), (5, .int (0 : Int32)), (4, .int (0 : Int32)), (0, .ref 145), (3, .int v3)]) dX11_elder_81 rfl (by decide) rfl ?_
            refine mr_sub [(0, .ref 145), (3, .int v3), (4, .int (0 : Int32)), (5, .int (0 : Int32)), (6, .int (1 : Int32))] ⟨rfl, rfl, rfl, rfl, rfl, trivial⟩ rfl ?_
            refine ok_lp_X11_elder_83 hR  (fun u93 u94 S95 h96 => ?_) FU _ _ _ _  h92
            refine mr_iload_n (pc' := 155) dX11_elder_154 rfl rfl ?_
            by_cases c97 : v3 = (0 : Int32)
            · rw [if_pos c97] at h96
              refine mr_if_ne_f (t := 164) (pc' := 158) dX11_elder_155 (by decide) rfl (not_not_intro c97) ?_
              refine mr_iload (pc' := 160) dX11_elder_158 rfl rfl ?_
              refine mr_i2l (pc' := 161) dX11_elder_160 rfl ?_
              refine mr_goto (t := 199) dX11_elder_161 (by decide) ?_
              refine mr_lstore (pc' := 201) (lv' := [(6, .long (Int32.toInt64 u93)), (0, .ref 145), (3, .int v3), (4, .int u93), (5, .int u94)]) dX11_elder_199 rfl (by decide) rfl ?_
              refine mr_aload_n (pc' := 202) dX11_elder_201 rfl rfl ?_
              obtain ⟨q114, g115, h116⟩ := Option.bind_eq_some_iff.mp h96
              refine mr_cv (pc' := 205) (a := 145) (d1 := 0) dX11_elder_202 rfl rfl rfl rfl rfl rfl (by decide) rfl (by decide) (ok_X11_putsBack hR  g115) ?_
              show mr X _ _ 205 _ [] (MM RR q114) _
              refine mr_lload (pc' := 207) dX11_elder_205 rfl rfl ?_
              obtain rfl := Option.some.inj h116
              exact mr_lreturn dX11_elder_207 rfl
            · rw [if_neg c97] at h96
              refine mr_if_ne_t (t := 164) dX11_elder_155 (by decide) c97 ?_
              refine mr_iload_n (pc' := 165) dX11_elder_164 rfl rfl ?_
              refine mr_iconst (pc' := 166) (v := (1 : Int32)) dX11_elder_165 rfl (by decide) ?_
              by_cases c98 : v3 = (1 : Int32)
              · rw [if_pos c98] at h96
                refine mr_icmp_ne_f (t := 175) (pc' := 169) dX11_elder_166 (by decide) rfl (not_not_intro c98) ?_
                refine mr_iload (pc' := 171) dX11_elder_169 rfl rfl ?_
                refine mr_i2l (pc' := 172) dX11_elder_171 rfl ?_
                refine mr_goto (t := 199) dX11_elder_172 (by decide) ?_
                refine mr_lstore (pc' := 201) (lv' := [(6, .long (Int32.toInt64 u94)), (0, .ref 145), (3, .int v3), (4, .int u93), (5, .int u94)]) dX11_elder_199 rfl (by decide) rfl ?_
                refine mr_aload_n (pc' := 202) dX11_elder_201 rfl rfl ?_
                obtain ⟨q111, g112, h113⟩ := Option.bind_eq_some_iff.mp h96
                refine mr_cv (pc' := 205) (a := 145) (d1 := 0) dX11_elder_202 rfl rfl rfl rfl rfl rfl (by decide) rfl (by decide) (ok_X11_putsBack hR  g112) ?_
                show mr X _ _ 205 _ [] (MM RR q111) _
                refine mr_lload (pc' := 207) dX11_elder_205 rfl rfl ?_
                obtain rfl := Option.some.inj h113
                exact mr_lreturn dX11_elder_207 rfl
              · rw [if_neg c98] at h96
                refine mr_icmp_ne_t (t := 175) dX11_elder_166 (by decide) c98 ?_
                refine mr_aload_n (pc' := 176) dX11_elder_175 rfl rfl ?_
                refine mr_getR (pc' := 179) (ci := 11) (j := 26) (b := 158) hR dX11_elder_176 rfl rfl rfl (by decide) (by decide) (by decide) rfl rfl ?_
                refine mr_iload (pc' := 181) dX11_elder_179 rfl rfl ?_
                obtain ⟨a99, g100, h101⟩ := Option.bind_eq_some_iff.mp h96
                refine mr_lald (pc' := 182) dX11_elder_181 rfl rfl rfl g100 ?_
                refine mr_aload_n (pc' := 183) dX11_elder_182 rfl rfl ?_
                refine mr_getR (pc' := 186) (ci := 11) (j := 26) (b := 158) hR dX11_elder_183 rfl rfl rfl (by decide) (by decide) (by decide) rfl rfl ?_
                refine mr_iload (pc' := 188) dX11_elder_186 rfl rfl ?_
                obtain ⟨a102, g103, h104⟩ := Option.bind_eq_some_iff.mp h101
                refine mr_lald (pc' := 189) dX11_elder_188 rfl rfl rfl g103 ?_
                refine mr_lsub (pc' := 190) dX11_elder_189 rfl ?_
                refine mr_ldc2 (pc' := 193) (v := (232792560 : Int64)) dX11_elder_190 rfl rfl ?_
                refine mr_iload_n (pc' := 194) dX11_elder_193 rfl rfl ?_
                refine mr_iconst (pc' := 195) (v := (2 : Int32)) dX11_elder_194 rfl (by decide) ?_
                refine mr_isub (pc' := 196) dX11_elder_195 rfl ?_
                obtain ⟨q105, g106, h107⟩ := Option.bind_eq_some_iff.mp h104
                refine mr_cs (pc' := 199) (d1 := 1) dX11_elder_196 rfl rfl rfl rfl (by decide) (Nat.le_of_ble_eq_true rfl) rfl rfl rfl (by decide) (ok_X11_lowest hR  g106) ?_
                show mr X _ _ 199 _ [.long q105] (MM RR S95) _
                refine mr_lstore (pc' := 201) (lv' := [(6, .long q105), (0, .ref 145), (3, .int v3), (4, .int u93), (5, .int u94)]) dX11_elder_199 rfl (by decide) rfl ?_
                refine mr_aload_n (pc' := 202) dX11_elder_201 rfl rfl ?_
                obtain ⟨q108, g109, h110⟩ := Option.bind_eq_some_iff.mp h107
                refine mr_cv (pc' := 205) (a := 145) (d1 := 0) dX11_elder_202 rfl rfl rfl rfl rfl rfl (by decide) rfl (by decide) (ok_X11_putsBack hR  g109) ?_
                show mr X _ _ 205 _ [] (MM RR q108) _
                refine mr_lload (pc' := 207) dX11_elder_205 rfl rfl ?_
                obtain rfl := Option.some.inj h110
                exact mr_lreturn dX11_elder_207 rfl
def lp_X11_comes_3 (p1 : Int32) (p2 : Int32) (p3 : Int64) (p5 : Int32) (K : fS → Option (fS)) : Nat → Int32 → fS → Option (fS)
  | 0, _, _ => none
  | n + 1, p6, S0 =>
    if (S0.1 145 36) ≤ p6 then (K S0) else
    ((gI S0 164 4001 p6).bind fun a2 =>
    if a2 = p1 then ((gI S0 165 4001 p6).bind fun a6 =>
    if a6 = p2 then ((gL S0 166 4001 p6).bind fun a10 =>
    if a10 = p3 then ((gI S0 167 4001 p6).bind fun a14 =>
    if a14 ≤ p5 then ((gI S0 167 4001 p6).bind fun a18 =>
    (sI S0 167 4001 p6 a18).bind fun S21 =>
    some S21) else
    ((sI S0 167 4001 p6 p5).bind fun S24 =>
    some S24)) else
    (lp_X11_comes_3 p1 p2 p3 p5 K n (p6 + (1 : Int32)) S0)) else
    (lp_X11_comes_3 p1 p2 p3 p5 K n (p6 + (1 : Int32)) S0)) else
    (lp_X11_comes_3 p1 p2 p3 p5 K n (p6 + (1 : Int32)) S0))
set_option maxHeartbeats 4000000 in
set_option maxRecDepth 100000 in
theorem ok_lp_X11_comes_3 {X : mm_C} {RR : Nat → Nat → Option Nat} (hR : RRok RR) {p1 : Int32} {p2 : Int32} {p3 : Int64} {p5 : Int32}  {K : fS → Option (fS)} {r : fS} (hK : ∀ (Sk : fS), K Sk = some r → mr X 0 mY_X11_comes 87 [(0, .ref 145), (1, .int p1), (2, .int p2), (3, .long p3), (5, .int p5)] [] (MM RR Sk) (none, MM RR r)) : ∀ (n : Nat) (p6 : Int32) (S0 : fS), lp_X11_comes_3 p1 p2 p3 p5 K n p6 S0 = some r → mr X 0 mY_X11_comes 3 [(0, .ref 145), (1, .int p1), (2, .int p2), (3, .long p3), (5, .int p5), (6, .int p6)] [] (MM RR S0) (none, MM RR r) := by
  intro n
  induction n with
  | zero => intro p6 S0 h; exact mm_no h
  | succ n ih =>
    intro p6 S0 h
    unfold lp_X11_comes_3 at h
    refine mr_iload (pc' := 5) dX11_comes_3 rfl rfl ?_
    refine mr_aload_n (pc' := 6) dX11_comes_5 rfl rfl ?_
    refine mr_getI (pc' := 9) (ci := 11) (j := 36) dX11_comes_6 rfl rfl rfl (by decide) (by decide) rfl ?_
    by_cases c1 : (S0.1 145 36) ≤ p6
    · rw [if_pos c1] at h
      refine mr_icmp_ge_t (t := 87) dX11_comes_9 (by decide) c1 ?_
      exact mr_sub [(0, .ref 145), (1, .int p1), (2, .int p2), (3, .long p3), (5, .int p5)] ⟨rfl, rfl, rfl, rfl, rfl, trivial⟩ rfl (hK _  h)
    · rw [if_neg c1] at h
      refine mr_icmp_ge_f (t := 87) (pc' := 12) dX11_comes_9 (by decide) rfl c1 ?_
      refine mr_aload_n (pc' := 13) dX11_comes_12 rfl rfl ?_
      refine mr_getR (pc' := 16) (ci := 11) (j := 32) (b := 164) hR dX11_comes_13 rfl rfl rfl (by decide) (by decide) (by decide) rfl rfl ?_
      refine mr_iload (pc' := 18) dX11_comes_16 rfl rfl ?_
      obtain ⟨a2, g3, h4⟩ := Option.bind_eq_some_iff.mp h
      refine mr_iald (pc' := 19) dX11_comes_18 rfl rfl rfl g3 ?_
      refine mr_iload_n (pc' := 20) dX11_comes_19 rfl rfl ?_
      by_cases c5 : a2 = p1
      · rw [if_pos c5] at h4
        refine mr_icmp_ne_f (t := 81) (pc' := 23) dX11_comes_20 (by decide) rfl (not_not_intro c5) ?_
        refine mr_aload_n (pc' := 24) dX11_comes_23 rfl rfl ?_
        refine mr_getR (pc' := 27) (ci := 11) (j := 33) (b := 165) hR dX11_comes_24 rfl rfl rfl (by decide) (by decide) (by decide) rfl rfl ?_
        refine mr_iload (pc' := 29) dX11_comes_27 rfl rfl ?_
        obtain ⟨a6, g7, h8⟩ := Option.bind_eq_some_iff.mp h4
        refine mr_iald (pc' := 30) dX11_comes_29 rfl rfl rfl g7 ?_
        refine mr_iload_n (pc' := 31) dX11_comes_30 rfl rfl ?_
        by_cases c9 : a6 = p2
        · rw [if_pos c9] at h8
          refine mr_icmp_ne_f (t := 81) (pc' := 34) dX11_comes_31 (by decide) rfl (not_not_intro c9) ?_
          refine mr_aload_n (pc' := 35) dX11_comes_34 rfl rfl ?_
          refine mr_getR (pc' := 38) (ci := 11) (j := 34) (b := 166) hR dX11_comes_35 rfl rfl rfl (by decide) (by decide) (by decide) rfl rfl ?_
          refine mr_iload (pc' := 40) dX11_comes_38 rfl rfl ?_
          obtain ⟨a10, g11, h12⟩ := Option.bind_eq_some_iff.mp h8
          refine mr_lald (pc' := 41) dX11_comes_40 rfl rfl rfl g11 ?_
          refine mr_lload_n (pc' := 42) dX11_comes_41 rfl rfl ?_
          by_cases c13 : a10 = p3
          · rw [if_pos c13] at h12
            refine mr_lcmp_eq_t (t := 49) dX11_comes_42 rfl dX11_comes_43 (by decide) c13 ?_
            refine mr_aload_n (pc' := 50) dX11_comes_49 rfl rfl ?_
            refine mr_getR (pc' := 53) (ci := 11) (j := 35) (b := 167) hR dX11_comes_50 rfl rfl rfl (by decide) (by decide) (by decide) rfl rfl ?_
            refine mr_iload (pc' := 55) dX11_comes_53 rfl rfl ?_
            refine mr_iload (pc' := 57) dX11_comes_55 rfl rfl ?_
            refine mr_aload_n (pc' := 58) dX11_comes_57 rfl rfl ?_
            refine mr_getR (pc' := 61) (ci := 11) (j := 35) (b := 167) hR dX11_comes_58 rfl rfl rfl (by decide) (by decide) (by decide) rfl rfl ?_
            refine mr_iload (pc' := 63) dX11_comes_61 rfl rfl ?_
            obtain ⟨a14, g15, h16⟩ := Option.bind_eq_some_iff.mp h12
            refine mr_iald (pc' := 64) dX11_comes_63 rfl rfl rfl g15 ?_
            by_cases c17 : a14 ≤ p5
            · rw [if_pos c17] at h16
              refine mr_icmp_ge_t (t := 72) dX11_comes_64 (by decide) c17 ?_
              refine mr_aload_n (pc' := 73) dX11_comes_72 rfl rfl ?_
              refine mr_getR (pc' := 76) (ci := 11) (j := 35) (b := 167) hR dX11_comes_73 rfl rfl rfl (by decide) (by decide) (by decide) rfl rfl ?_
              refine mr_iload (pc' := 78) dX11_comes_76 rfl rfl ?_
              obtain ⟨a18, g19, h20⟩ := Option.bind_eq_some_iff.mp h16
              refine mr_iald (pc' := 79) dX11_comes_78 rfl rfl rfl g19 ?_
              obtain ⟨S21, g22, h23⟩ := Option.bind_eq_some_iff.mp h20
              refine mr_iast (pc' := 80) dX11_comes_79 rfl rfl rfl g22 ?_
              obtain rfl := Option.some.inj h23
              exact mr_return dX11_comes_80 rfl
            · rw [if_neg c17] at h16
              refine mr_icmp_ge_f (t := 72) (pc' := 67) dX11_comes_64 (by decide) rfl c17 ?_
              refine mr_iload (pc' := 69) dX11_comes_67 rfl rfl ?_
              refine mr_goto (t := 79) dX11_comes_69 (by decide) ?_
              obtain ⟨S24, g25, h26⟩ := Option.bind_eq_some_iff.mp h16
              refine mr_iast (pc' := 80) dX11_comes_79 rfl rfl rfl g25 ?_
              obtain rfl := Option.some.inj h26
              exact mr_return dX11_comes_80 rfl
          · rw [if_neg c13] at h12
            refine mr_lcmp_eq_f (t := 49) (pc' := 46) dX11_comes_42 rfl dX11_comes_43 (by decide) rfl c13 ?_
            refine mr_goto (t := 81) dX11_comes_46 (by decide) ?_
            refine mr_iinc (pc' := 84) (x' := (p6 + (1 : Int32))) (lv' := [(6, .int (p6 + (1 : Int32))), (0, .ref 145), (1, .int p1), (2, .int p2), (3, .long p3), (5, .int p5)]) dX11_comes_81 rfl (by decide) rfl rfl rfl ?_
            refine mr_goto (t := 3) dX11_comes_84 (by decide) ?_
            exact mr_sub [(0, .ref 145), (1, .int p1), (2, .int p2), (3, .long p3), (5, .int p5), (6, .int (p6 + (1 : Int32)))] ⟨rfl, rfl, rfl, rfl, rfl, rfl, trivial⟩ rfl (ih _ _  h12)
        · rw [if_neg c9] at h8
          refine mr_icmp_ne_t (t := 81) dX11_comes_31 (by decide) c9 ?_
          refine mr_iinc (pc' := 84) (x' := (p6 + (1 : Int32))) (lv' := [(6, .int (p6 + (1 : Int32))), (0, .ref 145), (1, .int p1), (2, .int p2), (3, .long p3), (5, .int p5)]) dX11_comes_81 rfl (by decide) rfl rfl rfl ?_
          refine mr_goto (t := 3) dX11_comes_84 (by decide) ?_
          exact mr_sub [(0, .ref 145), (1, .int p1), (2, .int p2), (3, .long p3), (5, .int p5), (6, .int (p6 + (1 : Int32)))] ⟨rfl, rfl, rfl, rfl, rfl, rfl, trivial⟩ rfl (ih _ _  h8)
      · rw [if_neg c5] at h4
        refine mr_icmp_ne_t (t := 81) dX11_comes_20 (by decide) c5 ?_
        refine mr_iinc (pc' := 84) (x' := (p6 + (1 : Int32))) (lv' := [(6, .int (p6 + (1 : Int32))), (0, .ref 145), (1, .int p1), (2, .int p2), (3, .long p3), (5, .int p5)]) dX11_comes_81 rfl (by decide) rfl rfl rfl ?_
        refine mr_goto (t := 3) dX11_comes_84 (by decide) ?_
        exact mr_sub [(0, .ref 145), (1, .int p1), (2, .int p2), (3, .long p3), (5, .int p5), (6, .int (p6 + (1 : Int32)))] ⟨rfl, rfl, rfl, rfl, rfl, rfl, trivial⟩ rfl (ih _ _  h4)
def f_X11_comes (v1 : Int32) (v2 : Int32) (v3 : Int64) (v5 : Int32) (S : fS) : Option (fS) :=
  lp_X11_comes_3 v1 v2 v3 v5 (fun S27 => if (S27.1 145 36) ≤ (4000 : Int32) then ((sI S27 164 4001 (S27.1 145 36) v1).bind fun S30 =>
  (sI S30 165 4001 (S30.1 145 36) v2).bind fun S33 =>
  (sL S33 166 4001 (S33.1 145 36) v3).bind fun S36 =>
  (sI S36 167 4001 (S36.1 145 36) v5).bind fun S39 =>
  (some (pI S39 145 36 ((S39.1 145 36) + (1 : Int32)))).bind fun S42 =>
  some S42) else
  (some S27)) FU (0 : Int32) S
set_option maxHeartbeats 4000000 in
set_option maxRecDepth 100000 in
theorem ok_X11_comes {X : mm_C} {RR : Nat → Nat → Option Nat} (hR : RRok RR) {v1 : Int32} {v2 : Int32} {v3 : Int64} {v5 : Int32}  {S : fS} {r : fS} (h : f_X11_comes v1 v2 v3 v5 S = some r) : mr X 0 mY_X11_comes 0 (lv_args 0 [.ref 145, .int v1, .int v2, .long v3, .int v5]) [] (MM RR S) (none, MM RR r) := by
  unfold f_X11_comes at h
  show mr X _ _ 0 [(0, .ref 145), (1, .int v1), (2, .int v2), (3, .long v3), (5, .int v5)] [] (MM RR S) _
  refine mr_iconst (pc' := 1) (v := (0 : Int32)) dX11_comes_0 rfl (by decide) ?_
  refine mr_istore (pc' := 3) (lv' := [(6, .int (0 : Int32)), (0, .ref 145), (1, .int v1), (2, .int v2), (3, .long v3), (5, .int v5)]) dX11_comes_1 rfl (by decide) rfl ?_
  refine mr_sub [(0, .ref 145), (1, .int v1), (2, .int v2), (3, .long v3), (5, .int v5), (6, .int (0 : Int32))] ⟨rfl, rfl, rfl, rfl, rfl, rfl, trivial⟩ rfl ?_
  refine ok_lp_X11_comes_3 hR  (fun S27 h28 => ?_) FU _ _  h
  refine mr_aload_n (pc' := 88) dX11_comes_87 rfl rfl ?_
  refine mr_getI (pc' := 91) (ci := 11) (j := 36) dX11_comes_88 rfl rfl rfl (by decide) (by decide) rfl ?_
  refine mr_sipush (pc' := 94) (v := (4000 : Int32)) dX11_comes_91 rfl (by decide) ?_
  by_cases c29 : (S27.1 145 36) ≤ (4000 : Int32)
  · rw [if_pos c29] at h28
    refine mr_icmp_le_t (t := 98) dX11_comes_94 (by decide) c29 ?_
    refine mr_aload_n (pc' := 99) dX11_comes_98 rfl rfl ?_
    refine mr_getR (pc' := 102) (ci := 11) (j := 32) (b := 164) hR dX11_comes_99 rfl rfl rfl (by decide) (by decide) (by decide) rfl rfl ?_
    refine mr_aload_n (pc' := 103) dX11_comes_102 rfl rfl ?_
    refine mr_getI (pc' := 106) (ci := 11) (j := 36) dX11_comes_103 rfl rfl rfl (by decide) (by decide) rfl ?_
    refine mr_iload_n (pc' := 107) dX11_comes_106 rfl rfl ?_
    obtain ⟨S30, g31, h32⟩ := Option.bind_eq_some_iff.mp h28
    refine mr_iast (pc' := 108) dX11_comes_107 rfl rfl rfl g31 ?_
    refine mr_aload_n (pc' := 109) dX11_comes_108 rfl rfl ?_
    refine mr_getR (pc' := 112) (ci := 11) (j := 33) (b := 165) hR dX11_comes_109 rfl rfl rfl (by decide) (by decide) (by decide) rfl rfl ?_
    refine mr_aload_n (pc' := 113) dX11_comes_112 rfl rfl ?_
    refine mr_getI (pc' := 116) (ci := 11) (j := 36) dX11_comes_113 rfl rfl rfl (by decide) (by decide) rfl ?_
    refine mr_iload_n (pc' := 117) dX11_comes_116 rfl rfl ?_
    obtain ⟨S33, g34, h35⟩ := Option.bind_eq_some_iff.mp h32
    refine mr_iast (pc' := 118) dX11_comes_117 rfl rfl rfl g34 ?_
    refine mr_aload_n (pc' := 119) dX11_comes_118 rfl rfl ?_
    refine mr_getR (pc' := 122) (ci := 11) (j := 34) (b := 166) hR dX11_comes_119 rfl rfl rfl (by decide) (by decide) (by decide) rfl rfl ?_
    refine mr_aload_n (pc' := 123) dX11_comes_122 rfl rfl ?_
    refine mr_getI (pc' := 126) (ci := 11) (j := 36) dX11_comes_123 rfl rfl rfl (by decide) (by decide) rfl ?_
    refine mr_lload_n (pc' := 127) dX11_comes_126 rfl rfl ?_
    obtain ⟨S36, g37, h38⟩ := Option.bind_eq_some_iff.mp h35
    refine mr_last (pc' := 128) dX11_comes_127 rfl rfl rfl g37 ?_
    refine mr_aload_n (pc' := 129) dX11_comes_128 rfl rfl ?_
    refine mr_getR (pc' := 132) (ci := 11) (j := 35) (b := 167) hR dX11_comes_129 rfl rfl rfl (by decide) (by decide) (by decide) rfl rfl ?_
    refine mr_aload_n (pc' := 133) dX11_comes_132 rfl rfl ?_
    refine mr_getI (pc' := 136) (ci := 11) (j := 36) dX11_comes_133 rfl rfl rfl (by decide) (by decide) rfl ?_
    refine mr_iload (pc' := 138) dX11_comes_136 rfl rfl ?_
    obtain ⟨S39, g40, h41⟩ := Option.bind_eq_some_iff.mp h38
    refine mr_iast (pc' := 139) dX11_comes_138 rfl rfl rfl g40 ?_
    refine mr_aload_n (pc' := 140) dX11_comes_139 rfl rfl ?_
    refine mr_dup_ref (pc' := 141) dX11_comes_140 rfl ?_
    refine mr_getI (pc' := 144) (ci := 11) (j := 36) dX11_comes_141 rfl rfl rfl (by decide) (by decide) rfl ?_
    refine mr_iconst (pc' := 145) (v := (1 : Int32)) dX11_comes_144 rfl (by decide) ?_
    refine mr_iadd (pc' := 146) dX11_comes_145 rfl ?_
    obtain ⟨S42, g43, h44⟩ := Option.bind_eq_some_iff.mp h41
    refine mr_putI (pc' := 149) (ci := 11) (j := 36) dX11_comes_146 rfl rfl rfl (by decide) (by decide) rfl rfl ?_
    rw [Option.some.inj g43]
    obtain rfl := Option.some.inj h44
    exact mr_return dX11_comes_149 rfl
  · rw [if_neg c29] at h28
    refine mr_icmp_le_f (t := 98) (pc' := 97) dX11_comes_94 (by decide) rfl c29 ?_
    obtain rfl := Option.some.inj h28
    exact mr_return dX11_comes_97 rfl
def lp_X11_goesOn_51 (p1 : Int32) (p2 : Int32) (p3 : Int32) (p4 : Int32) (K : fS → Option (fS)) : Nat → Int32 → fS → Option (fS)
  | 0, _, _ => none
  | n + 1, p5, S0 =>
    (gI S0 157 158 (1 : Int32)).bind fun a8 =>
    if a8 ≤ p5 then (K S0) else
    ((f_X11_stairOf p5 (2 : Int32) S0).bind fun q12 =>
    (f_X11_otherEnd p5 p4 S0).bind fun q15 =>
    if q15 < (0 : Int32) then (lp_X11_goesOn_51 p1 p2 p3 p4 K n (p5 + (1 : Int32)) S0) else
    (if p2 < (p3 + q12) then (lp_X11_goesOn_51 p1 p2 p3 p4 K n (p5 + (1 : Int32)) S0) else
    ((f_X11_otherEnd p5 p4 S0).bind fun q20 =>
    (gL S0 166 4001 p1).bind fun a23 =>
    (f_X11_stairParts p5 S0).bind fun q26 =>
    (gI S0 167 4001 p1).bind fun a29 =>
    (f_X11_comes (p3 + q12) q20 (a23 + ((Int32.toInt64 q12) * q26)) (a29 + q12) S0).bind fun q32 =>
    lp_X11_goesOn_51 p1 p2 p3 p4 K n (p5 + (1 : Int32)) q32)))
set_option maxHeartbeats 4000000 in
set_option maxRecDepth 100000 in
theorem ok_lp_X11_goesOn_51 {X : mm_C} {RR : Nat → Nat → Option Nat} (hR : RRok RR) {p1 : Int32} {p2 : Int32} {p3 : Int32} {p4 : Int32}  {K : fS → Option (fS)} {r : fS} (hK : ∀ (Sk : fS), K Sk = some r → mr X 2 mY_X11_goesOn 138 [] [] (MM RR Sk) (none, MM RR r)) : ∀ (n : Nat) (p5 : Int32) (S0 : fS), lp_X11_goesOn_51 p1 p2 p3 p4 K n p5 S0 = some r → mr X 2 mY_X11_goesOn 51 [(0, .ref 145), (1, .int p1), (2, .int p2), (3, .int p3), (4, .int p4), (5, .int p5)] [] (MM RR S0) (none, MM RR r) := by
  intro n
  induction n with
  | zero => intro p5 S0 h; exact mm_no h
  | succ n ih =>
    intro p5 S0 h
    unfold lp_X11_goesOn_51 at h
    refine mr_iload (pc' := 53) dX11_goesOn_51 rfl rfl ?_
    refine mr_aload_n (pc' := 54) dX11_goesOn_53 rfl rfl ?_
    refine mr_getR (pc' := 57) (ci := 11) (j := 25) (b := 157) hR dX11_goesOn_54 rfl rfl rfl (by decide) (by decide) (by decide) rfl rfl ?_
    refine mr_iconst (pc' := 58) (v := (1 : Int32)) dX11_goesOn_57 rfl (by decide) ?_
    obtain ⟨a8, g9, h10⟩ := Option.bind_eq_some_iff.mp h
    refine mr_iald (pc' := 59) dX11_goesOn_58 rfl rfl rfl g9 ?_
    by_cases c11 : a8 ≤ p5
    · rw [if_pos c11] at h10
      refine mr_icmp_ge_t (t := 138) dX11_goesOn_59 (by decide) c11 ?_
      exact mr_sub [] trivial rfl (hK _  h10)
    · rw [if_neg c11] at h10
      refine mr_icmp_ge_f (t := 138) (pc' := 62) dX11_goesOn_59 (by decide) rfl c11 ?_
      refine mr_aload_n (pc' := 63) dX11_goesOn_62 rfl rfl ?_
      refine mr_iload (pc' := 65) dX11_goesOn_63 rfl rfl ?_
      refine mr_iconst (pc' := 66) (v := (2 : Int32)) dX11_goesOn_65 rfl (by decide) ?_
      obtain ⟨q12, g13, h14⟩ := Option.bind_eq_some_iff.mp h10
      refine mr_cv (pc' := 69) (a := 145) (d1 := 0) dX11_goesOn_66 rfl rfl rfl rfl rfl rfl (by decide) rfl (by decide) (ok_X11_stairOf hR  g13) ?_
      show mr X _ _ 69 _ [.int q12] (MM RR S0) _
      refine mr_istore (pc' := 71) (lv' := [(6, .int q12), (0, .ref 145), (1, .int p1), (2, .int p2), (3, .int p3), (4, .int p4), (5, .int p5)]) dX11_goesOn_69 rfl (by decide) rfl ?_
      refine mr_aload_n (pc' := 72) dX11_goesOn_71 rfl rfl ?_
      refine mr_iload (pc' := 74) dX11_goesOn_72 rfl rfl ?_
      refine mr_iload (pc' := 76) dX11_goesOn_74 rfl rfl ?_
      obtain ⟨q15, g16, h17⟩ := Option.bind_eq_some_iff.mp h14
      refine mr_cv (pc' := 79) (a := 145) (d1 := 1) dX11_goesOn_76 rfl rfl rfl rfl rfl rfl (by decide) rfl (by decide) (ok_X11_otherEnd hR  g16) ?_
      show mr X _ _ 79 _ [.int q15] (MM RR S0) _
      by_cases c18 : q15 < (0 : Int32)
      · rw [if_pos c18] at h17
        refine mr_if_lt_t (t := 132) dX11_goesOn_79 (by decide) c18 ?_
        refine mr_iinc (pc' := 135) (x' := (p5 + (1 : Int32))) (lv' := [(5, .int (p5 + (1 : Int32))), (6, .int q12), (0, .ref 145), (1, .int p1), (2, .int p2), (3, .int p3), (4, .int p4)]) dX11_goesOn_132 rfl (by decide) rfl rfl rfl ?_
        refine mr_goto (t := 51) dX11_goesOn_135 (by decide) ?_
        exact mr_sub [(0, .ref 145), (1, .int p1), (2, .int p2), (3, .int p3), (4, .int p4), (5, .int (p5 + (1 : Int32)))] ⟨rfl, rfl, rfl, rfl, rfl, rfl, trivial⟩ rfl (ih _ _  h17)
      · rw [if_neg c18] at h17
        refine mr_if_lt_f (t := 132) (pc' := 82) dX11_goesOn_79 (by decide) rfl c18 ?_
        refine mr_iload_n (pc' := 83) dX11_goesOn_82 rfl rfl ?_
        refine mr_iload (pc' := 85) dX11_goesOn_83 rfl rfl ?_
        refine mr_iadd (pc' := 86) dX11_goesOn_85 rfl ?_
        refine mr_iload_n (pc' := 87) dX11_goesOn_86 rfl rfl ?_
        by_cases c19 : p2 < (p3 + q12)
        · rw [if_pos c19] at h17
          refine mr_icmp_gt_t (t := 132) dX11_goesOn_87 (by decide) c19 ?_
          refine mr_iinc (pc' := 135) (x' := (p5 + (1 : Int32))) (lv' := [(5, .int (p5 + (1 : Int32))), (6, .int q12), (0, .ref 145), (1, .int p1), (2, .int p2), (3, .int p3), (4, .int p4)]) dX11_goesOn_132 rfl (by decide) rfl rfl rfl ?_
          refine mr_goto (t := 51) dX11_goesOn_135 (by decide) ?_
          exact mr_sub [(0, .ref 145), (1, .int p1), (2, .int p2), (3, .int p3), (4, .int p4), (5, .int (p5 + (1 : Int32)))] ⟨rfl, rfl, rfl, rfl, rfl, rfl, trivial⟩ rfl (ih _ _  h17)
        · rw [if_neg c19] at h17
          refine mr_icmp_gt_f (t := 132) (pc' := 90) dX11_goesOn_87 (by decide) rfl c19 ?_
          refine mr_aload_n (pc' := 91) dX11_goesOn_90 rfl rfl ?_
          refine mr_iload_n (pc' := 92) dX11_goesOn_91 rfl rfl ?_
          refine mr_iload (pc' := 94) dX11_goesOn_92 rfl rfl ?_
          refine mr_iadd (pc' := 95) dX11_goesOn_94 rfl ?_
          refine mr_aload_n (pc' := 96) dX11_goesOn_95 rfl rfl ?_
          refine mr_iload (pc' := 98) dX11_goesOn_96 rfl rfl ?_
          refine mr_iload (pc' := 100) dX11_goesOn_98 rfl rfl ?_
          obtain ⟨q20, g21, h22⟩ := Option.bind_eq_some_iff.mp h17
          refine mr_cv (pc' := 103) (a := 145) (d1 := 1) dX11_goesOn_100 rfl rfl rfl rfl rfl rfl (by decide) rfl (by decide) (ok_X11_otherEnd hR  g21) ?_
          show mr X _ _ 103 _ [.int q20, .int (p3 + q12), .ref 145] (MM RR S0) _
          refine mr_aload_n (pc' := 104) dX11_goesOn_103 rfl rfl ?_
          refine mr_getR (pc' := 107) (ci := 11) (j := 34) (b := 166) hR dX11_goesOn_104 rfl rfl rfl (by decide) (by decide) (by decide) rfl rfl ?_
          refine mr_iload_n (pc' := 108) dX11_goesOn_107 rfl rfl ?_
          obtain ⟨a23, g24, h25⟩ := Option.bind_eq_some_iff.mp h22
          refine mr_lald (pc' := 109) dX11_goesOn_108 rfl rfl rfl g24 ?_
          refine mr_iload (pc' := 111) dX11_goesOn_109 rfl rfl ?_
          refine mr_i2l (pc' := 112) dX11_goesOn_111 rfl ?_
          refine mr_aload_n (pc' := 113) dX11_goesOn_112 rfl rfl ?_
          refine mr_iload (pc' := 115) dX11_goesOn_113 rfl rfl ?_
          obtain ⟨q26, g27, h28⟩ := Option.bind_eq_some_iff.mp h25
          refine mr_cv (pc' := 118) (a := 145) (d1 := 1) dX11_goesOn_115 rfl rfl rfl rfl rfl rfl (by decide) rfl (by decide) (ok_X11_stairParts hR  g27) ?_
          show mr X _ _ 118 _ [.long q26, .long (Int32.toInt64 q12), .long a23, .int q20, .int (p3 + q12), .ref 145] (MM RR S0) _
          refine mr_lmul (pc' := 119) dX11_goesOn_118 rfl ?_
          refine mr_ladd (pc' := 120) dX11_goesOn_119 rfl ?_
          refine mr_aload_n (pc' := 121) dX11_goesOn_120 rfl rfl ?_
          refine mr_getR (pc' := 124) (ci := 11) (j := 35) (b := 167) hR dX11_goesOn_121 rfl rfl rfl (by decide) (by decide) (by decide) rfl rfl ?_
          refine mr_iload_n (pc' := 125) dX11_goesOn_124 rfl rfl ?_
          obtain ⟨a29, g30, h31⟩ := Option.bind_eq_some_iff.mp h28
          refine mr_iald (pc' := 126) dX11_goesOn_125 rfl rfl rfl g30 ?_
          refine mr_iload (pc' := 128) dX11_goesOn_126 rfl rfl ?_
          refine mr_iadd (pc' := 129) dX11_goesOn_128 rfl ?_
          obtain ⟨q32, g33, h34⟩ := Option.bind_eq_some_iff.mp h31
          refine mr_cv (pc' := 132) (a := 145) (d1 := 0) dX11_goesOn_129 rfl rfl rfl rfl rfl rfl (by decide) rfl (by decide) (ok_X11_comes hR  g33) ?_
          show mr X _ _ 132 _ [] (MM RR q32) _
          refine mr_iinc (pc' := 135) (x' := (p5 + (1 : Int32))) (lv' := [(5, .int (p5 + (1 : Int32))), (6, .int q12), (0, .ref 145), (1, .int p1), (2, .int p2), (3, .int p3), (4, .int p4)]) dX11_goesOn_132 rfl (by decide) rfl rfl rfl ?_
          refine mr_goto (t := 51) dX11_goesOn_135 (by decide) ?_
          exact mr_sub [(0, .ref 145), (1, .int p1), (2, .int p2), (3, .int p3), (4, .int p4), (5, .int (p5 + (1 : Int32)))] ⟨rfl, rfl, rfl, rfl, rfl, rfl, trivial⟩ rfl (ih _ _  h34)
def f_X11_goesOn (v1 : Int32) (v2 : Int32) (S : fS) : Option (fS) :=
  (gI S 164 4001 v1).bind fun a1 =>
  (gI S 165 4001 v1).bind fun a4 =>
  if v2 ≤ a1 then (lp_X11_goesOn_51 v1 v2 a1 a4 (fun S35 => some S35) FU (0 : Int32) S) else
  ((gL S 166 4001 v1).bind fun a37 =>
  (f_X11_floorParts a4 S).bind fun q40 =>
  (gI S 167 4001 v1).bind fun a43 =>
  (f_X11_comes (a1 + (1 : Int32)) a4 (a37 + q40) a43 S).bind fun q46 =>
  lp_X11_goesOn_51 v1 v2 a1 a4 (fun S49 => some S49) FU (0 : Int32) q46)
set_option maxHeartbeats 4000000 in
set_option maxRecDepth 100000 in
theorem ok_X11_goesOn {X : mm_C} {RR : Nat → Nat → Option Nat} (hR : RRok RR) {v1 : Int32} {v2 : Int32}  {S : fS} {r : fS} (h : f_X11_goesOn v1 v2 S = some r) : mr X 2 mY_X11_goesOn 0 (lv_args 0 [.ref 145, .int v1, .int v2]) [] (MM RR S) (none, MM RR r) := by
  unfold f_X11_goesOn at h
  show mr X _ _ 0 [(0, .ref 145), (1, .int v1), (2, .int v2)] [] (MM RR S) _
  refine mr_aload_n (pc' := 1) dX11_goesOn_0 rfl rfl ?_
  refine mr_getR (pc' := 4) (ci := 11) (j := 32) (b := 164) hR dX11_goesOn_1 rfl rfl rfl (by decide) (by decide) (by decide) rfl rfl ?_
  refine mr_iload_n (pc' := 5) dX11_goesOn_4 rfl rfl ?_
  obtain ⟨a1, g2, h3⟩ := Option.bind_eq_some_iff.mp h
  refine mr_iald (pc' := 6) dX11_goesOn_5 rfl rfl rfl g2 ?_
  refine mr_istore_n (pc' := 7) (lv' := [(3, .int a1), (0, .ref 145), (1, .int v1), (2, .int v2)]) dX11_goesOn_6 rfl (by decide) rfl ?_
  refine mr_aload_n (pc' := 8) dX11_goesOn_7 rfl rfl ?_
  refine mr_getR (pc' := 11) (ci := 11) (j := 33) (b := 165) hR dX11_goesOn_8 rfl rfl rfl (by decide) (by decide) (by decide) rfl rfl ?_
  refine mr_iload_n (pc' := 12) dX11_goesOn_11 rfl rfl ?_
  obtain ⟨a4, g5, h6⟩ := Option.bind_eq_some_iff.mp h3
  refine mr_iald (pc' := 13) dX11_goesOn_12 rfl rfl rfl g5 ?_
  refine mr_istore (pc' := 15) (lv' := [(4, .int a4), (3, .int a1), (0, .ref 145), (1, .int v1), (2, .int v2)]) dX11_goesOn_13 rfl (by decide) rfl ?_
  refine mr_iload_n (pc' := 16) dX11_goesOn_15 rfl rfl ?_
  refine mr_iload_n (pc' := 17) dX11_goesOn_16 rfl rfl ?_
  by_cases c7 : v2 ≤ a1
  · rw [if_pos c7] at h6
    refine mr_icmp_ge_t (t := 48) dX11_goesOn_17 (by decide) c7 ?_
    refine mr_iconst (pc' := 49) (v := (0 : Int32)) dX11_goesOn_48 rfl (by decide) ?_
    refine mr_istore (pc' := 51) (lv' := [(5, .int (0 : Int32)), (4, .int a4), (3, .int a1), (0, .ref 145), (1, .int v1), (2, .int v2)]) dX11_goesOn_49 rfl (by decide) rfl ?_
    refine mr_sub [(0, .ref 145), (1, .int v1), (2, .int v2), (3, .int a1), (4, .int a4), (5, .int (0 : Int32))] ⟨rfl, rfl, rfl, rfl, rfl, rfl, trivial⟩ rfl ?_
    refine ok_lp_X11_goesOn_51 hR  (fun S35 h36 => ?_) FU _ _  h6
    obtain rfl := Option.some.inj h36
    exact mr_return dX11_goesOn_138 rfl
  · rw [if_neg c7] at h6
    refine mr_icmp_ge_f (t := 48) (pc' := 20) dX11_goesOn_17 (by decide) rfl c7 ?_
    refine mr_aload_n (pc' := 21) dX11_goesOn_20 rfl rfl ?_
    refine mr_iload_n (pc' := 22) dX11_goesOn_21 rfl rfl ?_
    refine mr_iconst (pc' := 23) (v := (1 : Int32)) dX11_goesOn_22 rfl (by decide) ?_
    refine mr_iadd (pc' := 24) dX11_goesOn_23 rfl ?_
    refine mr_iload (pc' := 26) dX11_goesOn_24 rfl rfl ?_
    refine mr_aload_n (pc' := 27) dX11_goesOn_26 rfl rfl ?_
    refine mr_getR (pc' := 30) (ci := 11) (j := 34) (b := 166) hR dX11_goesOn_27 rfl rfl rfl (by decide) (by decide) (by decide) rfl rfl ?_
    refine mr_iload_n (pc' := 31) dX11_goesOn_30 rfl rfl ?_
    obtain ⟨a37, g38, h39⟩ := Option.bind_eq_some_iff.mp h6
    refine mr_lald (pc' := 32) dX11_goesOn_31 rfl rfl rfl g38 ?_
    refine mr_aload_n (pc' := 33) dX11_goesOn_32 rfl rfl ?_
    refine mr_iload (pc' := 35) dX11_goesOn_33 rfl rfl ?_
    obtain ⟨q40, g41, h42⟩ := Option.bind_eq_some_iff.mp h39
    refine mr_cv (pc' := 38) (a := 145) (d1 := 0) dX11_goesOn_35 rfl rfl rfl rfl rfl rfl (by decide) rfl (by decide) (ok_X11_floorParts hR  g41) ?_
    show mr X _ _ 38 _ [.long q40, .long a37, .int a4, .int (a1 + (1 : Int32)), .ref 145] (MM RR S) _
    refine mr_ladd (pc' := 39) dX11_goesOn_38 rfl ?_
    refine mr_aload_n (pc' := 40) dX11_goesOn_39 rfl rfl ?_
    refine mr_getR (pc' := 43) (ci := 11) (j := 35) (b := 167) hR dX11_goesOn_40 rfl rfl rfl (by decide) (by decide) (by decide) rfl rfl ?_
    refine mr_iload_n (pc' := 44) dX11_goesOn_43 rfl rfl ?_
    obtain ⟨a43, g44, h45⟩ := Option.bind_eq_some_iff.mp h42
    refine mr_iald (pc' := 45) dX11_goesOn_44 rfl rfl rfl g44 ?_
    obtain ⟨q46, g47, h48⟩ := Option.bind_eq_some_iff.mp h45
    refine mr_cv (pc' := 48) (a := 145) (d1 := 0) dX11_goesOn_45 rfl rfl rfl rfl rfl rfl (by decide) rfl (by decide) (ok_X11_comes hR  g47) ?_
    show mr X _ _ 48 _ [] (MM RR q46) _
    refine mr_iconst (pc' := 49) (v := (0 : Int32)) dX11_goesOn_48 rfl (by decide) ?_
    refine mr_istore (pc' := 51) (lv' := [(5, .int (0 : Int32)), (4, .int a4), (3, .int a1), (0, .ref 145), (1, .int v1), (2, .int v2)]) dX11_goesOn_49 rfl (by decide) rfl ?_
    refine mr_sub [(0, .ref 145), (1, .int v1), (2, .int v2), (3, .int a1), (4, .int a4), (5, .int (0 : Int32))] ⟨rfl, rfl, rfl, rfl, rfl, rfl, trivial⟩ rfl ?_
    refine ok_lp_X11_goesOn_51 hR  (fun S49 h50 => ?_) FU _ _  h48
    obtain rfl := Option.some.inj h50
    exact mr_return dX11_goesOn_138 rfl
def lp_X11_ripe_93 (p2 : Int32) (p3 : Int32) (p4 : Int32) (p5 : Int32) (p6 : Int32) (K : fS → Option (Int32 × fS)) : Nat → Int32 → fS → Option (Int32 × fS)
  | 0, _, _ => none
  | n + 1, p7, S0 =>
    if (S0.1 145 36) ≤ p7 then (K S0) else
    (if (4000 : Int32) < (S0.1 145 36) then (K S0) else
    ((gI S0 164 4001 p7).bind fun a31 =>
    if a31 = p6 then ((f_X11_goesOn p7 p3 S0).bind fun q35 =>
    lp_X11_ripe_93 p2 p3 p4 p5 p6 K n (p7 + (1 : Int32)) q35) else
    (lp_X11_ripe_93 p2 p3 p4 p5 p6 K n (p7 + (1 : Int32)) S0)))
set_option maxHeartbeats 4000000 in
set_option maxRecDepth 100000 in
theorem ok_lp_X11_ripe_93 {X : mm_C} {RR : Nat → Nat → Option Nat} (hR : RRok RR) {p2 : Int32} {p3 : Int32} {p4 : Int32} {p5 : Int32} {p6 : Int32}  {K : fS → Option (Int32 × fS)} {r : Int32 × fS} (hK : ∀ (Sk : fS), K Sk = some r → mr X 3 mY_X11_ripe 137 [(0, .ref 145), (2, .int p2), (3, .int p3), (4, .int p4), (5, .int p5), (6, .int p6)] [] (MM RR Sk) (some (.int r.1), MM RR r.2)) : ∀ (n : Nat) (p7 : Int32) (S0 : fS), lp_X11_ripe_93 p2 p3 p4 p5 p6 K n p7 S0 = some r → mr X 3 mY_X11_ripe 93 [(0, .ref 145), (2, .int p2), (3, .int p3), (4, .int p4), (5, .int p5), (6, .int p6), (7, .int p7)] [] (MM RR S0) (some (.int r.1), MM RR r.2) := by
  intro n
  induction n with
  | zero => intro p7 S0 h; exact mm_no h
  | succ n ih =>
    intro p7 S0 h
    unfold lp_X11_ripe_93 at h
    refine mr_iload (pc' := 95) dX11_ripe_93 rfl rfl ?_
    refine mr_aload_n (pc' := 96) dX11_ripe_95 rfl rfl ?_
    refine mr_getI (pc' := 99) (ci := 11) (j := 36) dX11_ripe_96 rfl rfl rfl (by decide) (by decide) rfl ?_
    by_cases c29 : (S0.1 145 36) ≤ p7
    · rw [if_pos c29] at h
      refine mr_icmp_ge_t (t := 137) dX11_ripe_99 (by decide) c29 ?_
      exact mr_sub [(0, .ref 145), (2, .int p2), (3, .int p3), (4, .int p4), (5, .int p5), (6, .int p6)] ⟨rfl, rfl, rfl, rfl, rfl, rfl, trivial⟩ rfl (hK _  h)
    · rw [if_neg c29] at h
      refine mr_icmp_ge_f (t := 137) (pc' := 102) dX11_ripe_99 (by decide) rfl c29 ?_
      refine mr_aload_n (pc' := 103) dX11_ripe_102 rfl rfl ?_
      refine mr_getI (pc' := 106) (ci := 11) (j := 36) dX11_ripe_103 rfl rfl rfl (by decide) (by decide) rfl ?_
      refine mr_sipush (pc' := 109) (v := (4000 : Int32)) dX11_ripe_106 rfl (by decide) ?_
      by_cases c30 : (4000 : Int32) < (S0.1 145 36)
      · rw [if_pos c30] at h
        refine mr_icmp_gt_t (t := 137) dX11_ripe_109 (by decide) c30 ?_
        exact mr_sub [(0, .ref 145), (2, .int p2), (3, .int p3), (4, .int p4), (5, .int p5), (6, .int p6)] ⟨rfl, rfl, rfl, rfl, rfl, rfl, trivial⟩ rfl (hK _  h)
      · rw [if_neg c30] at h
        refine mr_icmp_gt_f (t := 137) (pc' := 112) dX11_ripe_109 (by decide) rfl c30 ?_
        refine mr_aload_n (pc' := 113) dX11_ripe_112 rfl rfl ?_
        refine mr_getR (pc' := 116) (ci := 11) (j := 32) (b := 164) hR dX11_ripe_113 rfl rfl rfl (by decide) (by decide) (by decide) rfl rfl ?_
        refine mr_iload (pc' := 118) dX11_ripe_116 rfl rfl ?_
        obtain ⟨a31, g32, h33⟩ := Option.bind_eq_some_iff.mp h
        refine mr_iald (pc' := 119) dX11_ripe_118 rfl rfl rfl g32 ?_
        refine mr_iload (pc' := 121) dX11_ripe_119 rfl rfl ?_
        by_cases c34 : a31 = p6
        · rw [if_pos c34] at h33
          refine mr_icmp_ne_f (t := 131) (pc' := 124) dX11_ripe_121 (by decide) rfl (not_not_intro c34) ?_
          refine mr_aload_n (pc' := 125) dX11_ripe_124 rfl rfl ?_
          refine mr_iload (pc' := 127) dX11_ripe_125 rfl rfl ?_
          refine mr_iload_n (pc' := 128) dX11_ripe_127 rfl rfl ?_
          obtain ⟨q35, g36, h37⟩ := Option.bind_eq_some_iff.mp h33
          refine mr_cv (pc' := 131) (a := 145) (d1 := 2) dX11_ripe_128 rfl rfl rfl rfl rfl rfl (by decide) rfl (by decide) (ok_X11_goesOn hR  g36) ?_
          show mr X _ _ 131 _ [] (MM RR q35) _
          refine mr_iinc (pc' := 134) (x' := (p7 + (1 : Int32))) (lv' := [(7, .int (p7 + (1 : Int32))), (0, .ref 145), (2, .int p2), (3, .int p3), (4, .int p4), (5, .int p5), (6, .int p6)]) dX11_ripe_131 rfl (by decide) rfl rfl rfl ?_
          refine mr_goto (t := 93) dX11_ripe_134 (by decide) ?_
          exact mr_sub [(0, .ref 145), (2, .int p2), (3, .int p3), (4, .int p4), (5, .int p5), (6, .int p6), (7, .int (p7 + (1 : Int32)))] ⟨rfl, rfl, rfl, rfl, rfl, rfl, rfl, trivial⟩ rfl (ih _ _  h37)
        · rw [if_neg c34] at h33
          refine mr_icmp_ne_t (t := 131) dX11_ripe_121 (by decide) c34 ?_
          refine mr_iinc (pc' := 134) (x' := (p7 + (1 : Int32))) (lv' := [(7, .int (p7 + (1 : Int32))), (0, .ref 145), (2, .int p2), (3, .int p3), (4, .int p4), (5, .int p5), (6, .int p6)]) dX11_ripe_131 rfl (by decide) rfl rfl rfl ?_
          refine mr_goto (t := 93) dX11_ripe_134 (by decide) ?_
          exact mr_sub [(0, .ref 145), (2, .int p2), (3, .int p3), (4, .int p4), (5, .int p5), (6, .int p6), (7, .int (p7 + (1 : Int32)))] ⟨rfl, rfl, rfl, rfl, rfl, rfl, rfl, trivial⟩ rfl (ih _ _  h33)
def lp_X11_ripe_74 (p2 : Int32) (p3 : Int32) (p4 : Int32) (p5 : Int32) (K : fS → Option (Int32 × fS)) : Nat → Int32 → fS → Option (Int32 × fS)
  | 0, _, _ => none
  | n + 1, p6, S0 =>
    if p3 < p6 then (K S0) else
    (if (4000 : Int32) < (S0.1 145 36) then (K S0) else
    (lp_X11_ripe_93 p2 p3 p4 p5 p6 (fun S38 => lp_X11_ripe_74 p2 p3 p4 p5 K n (p6 + (1 : Int32)) S38) FU (0 : Int32) S0))
set_option maxHeartbeats 4000000 in
set_option maxRecDepth 100000 in
theorem ok_lp_X11_ripe_74 {X : mm_C} {RR : Nat → Nat → Option Nat} (hR : RRok RR) {p2 : Int32} {p3 : Int32} {p4 : Int32} {p5 : Int32}  {K : fS → Option (Int32 × fS)} {r : Int32 × fS} (hK : ∀ (Sk : fS), K Sk = some r → mr X 3 mY_X11_ripe 143 [(0, .ref 145), (2, .int p2), (3, .int p3), (4, .int p4), (5, .int p5)] [] (MM RR Sk) (some (.int r.1), MM RR r.2)) : ∀ (n : Nat) (p6 : Int32) (S0 : fS), lp_X11_ripe_74 p2 p3 p4 p5 K n p6 S0 = some r → mr X 3 mY_X11_ripe 74 [(0, .ref 145), (2, .int p2), (3, .int p3), (4, .int p4), (5, .int p5), (6, .int p6)] [] (MM RR S0) (some (.int r.1), MM RR r.2) := by
  intro n
  induction n with
  | zero => intro p6 S0 h; exact mm_no h
  | succ n ih =>
    intro p6 S0 h
    unfold lp_X11_ripe_74 at h
    refine mr_iload (pc' := 76) dX11_ripe_74 rfl rfl ?_
    refine mr_iload_n (pc' := 77) dX11_ripe_76 rfl rfl ?_
    by_cases c27 : p3 < p6
    · rw [if_pos c27] at h
      refine mr_icmp_gt_t (t := 143) dX11_ripe_77 (by decide) c27 ?_
      exact mr_sub [(0, .ref 145), (2, .int p2), (3, .int p3), (4, .int p4), (5, .int p5)] ⟨rfl, rfl, rfl, rfl, rfl, trivial⟩ rfl (hK _  h)
    · rw [if_neg c27] at h
      refine mr_icmp_gt_f (t := 143) (pc' := 80) dX11_ripe_77 (by decide) rfl c27 ?_
      refine mr_aload_n (pc' := 81) dX11_ripe_80 rfl rfl ?_
      refine mr_getI (pc' := 84) (ci := 11) (j := 36) dX11_ripe_81 rfl rfl rfl (by decide) (by decide) rfl ?_
      refine mr_sipush (pc' := 87) (v := (4000 : Int32)) dX11_ripe_84 rfl (by decide) ?_
      by_cases c28 : (4000 : Int32) < (S0.1 145 36)
      · rw [if_pos c28] at h
        refine mr_icmp_gt_t (t := 143) dX11_ripe_87 (by decide) c28 ?_
        exact mr_sub [(0, .ref 145), (2, .int p2), (3, .int p3), (4, .int p4), (5, .int p5)] ⟨rfl, rfl, rfl, rfl, rfl, trivial⟩ rfl (hK _  h)
      · rw [if_neg c28] at h
        refine mr_icmp_gt_f (t := 143) (pc' := 90) dX11_ripe_87 (by decide) rfl c28 ?_
        refine mr_iconst (pc' := 91) (v := (0 : Int32)) dX11_ripe_90 rfl (by decide) ?_
        refine mr_istore (pc' := 93) (lv' := [(7, .int (0 : Int32)), (0, .ref 145), (2, .int p2), (3, .int p3), (4, .int p4), (5, .int p5), (6, .int p6)]) dX11_ripe_91 rfl (by decide) rfl ?_
        refine mr_sub [(0, .ref 145), (2, .int p2), (3, .int p3), (4, .int p4), (5, .int p5), (6, .int p6), (7, .int (0 : Int32))] ⟨rfl, rfl, rfl, rfl, rfl, rfl, rfl, trivial⟩ rfl ?_
        refine ok_lp_X11_ripe_93 hR  (fun S38 h39 => ?_) FU _ _  h
        refine mr_iinc (pc' := 140) (x' := (p6 + (1 : Int32))) (lv' := [(6, .int (p6 + (1 : Int32))), (0, .ref 145), (2, .int p2), (3, .int p3), (4, .int p4), (5, .int p5)]) dX11_ripe_137 rfl (by decide) rfl rfl rfl ?_
        refine mr_goto (t := 74) dX11_ripe_140 (by decide) ?_
        exact mr_sub [(0, .ref 145), (2, .int p2), (3, .int p3), (4, .int p4), (5, .int p5), (6, .int (p6 + (1 : Int32)))] ⟨rfl, rfl, rfl, rfl, rfl, rfl, trivial⟩ rfl (ih _ _  h39)
def lp_X11_ripe_163 (p2 : Int32) (p3 : Int32) (p4 : Int32) (p5 : Int32) (K : Int32 → fS → Option (Int32 × fS)) : Nat → Int32 → Int32 → fS → Option (Int32 × fS)
  | 0, _, _, _ => none
  | n + 1, p6, p7, S0 =>
    if (S0.1 145 36) ≤ p7 then (K p6 S0) else
    ((gI S0 164 4001 p7).bind fun a44 =>
    if a44 = p3 then ((gI S0 165 4001 p7).bind fun a60 =>
    if a60 = p2 then ((gL S0 166 4001 p7).bind fun a76 =>
    if a76 < ((Int32.toInt64 p4) * (232792560 : Int64)) then (if (0 : Int32) = (0 : Int32) then (lp_X11_ripe_163 p2 p3 p4 p5 K n p6 (p7 + (1 : Int32)) S0) else
    (if p6 < (0 : Int32) then ((gI S0 167 4001 p7).bind fun a82 =>
    lp_X11_ripe_163 p2 p3 p4 p5 K n a82 (p7 + (1 : Int32)) S0) else
    ((gI S0 167 4001 p7).bind fun a85 =>
    if p6 ≤ a85 then (lp_X11_ripe_163 p2 p3 p4 p5 K n p6 (p7 + (1 : Int32)) S0) else
    ((gI S0 167 4001 p7).bind fun a89 =>
    lp_X11_ripe_163 p2 p3 p4 p5 K n a89 (p7 + (1 : Int32)) S0)))) else
    ((gL S0 166 4001 p7).bind fun a92 =>
    if ((Int32.toInt64 p5) * (232792560 : Int64)) < a92 then (if (0 : Int32) = (0 : Int32) then (lp_X11_ripe_163 p2 p3 p4 p5 K n p6 (p7 + (1 : Int32)) S0) else
    (if p6 < (0 : Int32) then ((gI S0 167 4001 p7).bind fun a98 =>
    lp_X11_ripe_163 p2 p3 p4 p5 K n a98 (p7 + (1 : Int32)) S0) else
    ((gI S0 167 4001 p7).bind fun a101 =>
    if p6 ≤ a101 then (lp_X11_ripe_163 p2 p3 p4 p5 K n p6 (p7 + (1 : Int32)) S0) else
    ((gI S0 167 4001 p7).bind fun a105 =>
    lp_X11_ripe_163 p2 p3 p4 p5 K n a105 (p7 + (1 : Int32)) S0)))) else
    (if (1 : Int32) = (0 : Int32) then (lp_X11_ripe_163 p2 p3 p4 p5 K n p6 (p7 + (1 : Int32)) S0) else
    (if p6 < (0 : Int32) then ((gI S0 167 4001 p7).bind fun a110 =>
    lp_X11_ripe_163 p2 p3 p4 p5 K n a110 (p7 + (1 : Int32)) S0) else
    ((gI S0 167 4001 p7).bind fun a113 =>
    if p6 ≤ a113 then (lp_X11_ripe_163 p2 p3 p4 p5 K n p6 (p7 + (1 : Int32)) S0) else
    ((gI S0 167 4001 p7).bind fun a117 =>
    lp_X11_ripe_163 p2 p3 p4 p5 K n a117 (p7 + (1 : Int32)) S0)))))) else
    (if (0 : Int32) = (0 : Int32) then (lp_X11_ripe_163 p2 p3 p4 p5 K n p6 (p7 + (1 : Int32)) S0) else
    (if p6 < (0 : Int32) then ((gI S0 167 4001 p7).bind fun a66 =>
    lp_X11_ripe_163 p2 p3 p4 p5 K n a66 (p7 + (1 : Int32)) S0) else
    ((gI S0 167 4001 p7).bind fun a69 =>
    if p6 ≤ a69 then (lp_X11_ripe_163 p2 p3 p4 p5 K n p6 (p7 + (1 : Int32)) S0) else
    ((gI S0 167 4001 p7).bind fun a73 =>
    lp_X11_ripe_163 p2 p3 p4 p5 K n a73 (p7 + (1 : Int32)) S0))))) else
    (if (0 : Int32) = (0 : Int32) then (lp_X11_ripe_163 p2 p3 p4 p5 K n p6 (p7 + (1 : Int32)) S0) else
    (if p6 < (0 : Int32) then ((gI S0 167 4001 p7).bind fun a50 =>
    lp_X11_ripe_163 p2 p3 p4 p5 K n a50 (p7 + (1 : Int32)) S0) else
    ((gI S0 167 4001 p7).bind fun a53 =>
    if p6 ≤ a53 then (lp_X11_ripe_163 p2 p3 p4 p5 K n p6 (p7 + (1 : Int32)) S0) else
    ((gI S0 167 4001 p7).bind fun a57 =>
    lp_X11_ripe_163 p2 p3 p4 p5 K n a57 (p7 + (1 : Int32)) S0)))))
set_option maxHeartbeats 4000000 in
set_option maxRecDepth 100000 in
theorem ok_lp_X11_ripe_163 {X : mm_C} {RR : Nat → Nat → Option Nat} (hR : RRok RR) {p2 : Int32} {p3 : Int32} {p4 : Int32} {p5 : Int32}  {K : Int32 → fS → Option (Int32 × fS)} {r : Int32 × fS} (hK : ∀ (k6 : Int32) (Sk : fS), K k6 Sk = some r → mr X 3 mY_X11_ripe 274 [(6, .int k6)] [] (MM RR Sk) (some (.int r.1), MM RR r.2)) : ∀ (n : Nat) (p6 : Int32) (p7 : Int32) (S0 : fS), lp_X11_ripe_163 p2 p3 p4 p5 K n p6 p7 S0 = some r → mr X 3 mY_X11_ripe 163 [(0, .ref 145), (2, .int p2), (3, .int p3), (4, .int p4), (5, .int p5), (6, .int p6), (7, .int p7)] [] (MM RR S0) (some (.int r.1), MM RR r.2) := by
  intro n
  induction n with
  | zero => intro p6 p7 S0 h; exact mm_no h
  | succ n ih =>
    intro p6 p7 S0 h
    unfold lp_X11_ripe_163 at h
    refine mr_iload (pc' := 165) dX11_ripe_163 rfl rfl ?_
    refine mr_aload_n (pc' := 166) dX11_ripe_165 rfl rfl ?_
    refine mr_getI (pc' := 169) (ci := 11) (j := 36) dX11_ripe_166 rfl rfl rfl (by decide) (by decide) rfl ?_
    by_cases c43 : (S0.1 145 36) ≤ p7
    · rw [if_pos c43] at h
      refine mr_icmp_ge_t (t := 274) dX11_ripe_169 (by decide) c43 ?_
      exact mr_sub [(6, .int p6)] ⟨rfl, trivial⟩ rfl (hK _ _  h)
    · rw [if_neg c43] at h
      refine mr_icmp_ge_f (t := 274) (pc' := 172) dX11_ripe_169 (by decide) rfl c43 ?_
      refine mr_aload_n (pc' := 173) dX11_ripe_172 rfl rfl ?_
      refine mr_getR (pc' := 176) (ci := 11) (j := 32) (b := 164) hR dX11_ripe_173 rfl rfl rfl (by decide) (by decide) (by decide) rfl rfl ?_
      refine mr_iload (pc' := 178) dX11_ripe_176 rfl rfl ?_
      obtain ⟨a44, g45, h46⟩ := Option.bind_eq_some_iff.mp h
      refine mr_iald (pc' := 179) dX11_ripe_178 rfl rfl rfl g45 ?_
      refine mr_iload_n (pc' := 180) dX11_ripe_179 rfl rfl ?_
      by_cases c47 : a44 = p3
      · rw [if_pos c47] at h46
        refine mr_icmp_ne_f (t := 234) (pc' := 183) dX11_ripe_180 (by decide) rfl (not_not_intro c47) ?_
        refine mr_aload_n (pc' := 184) dX11_ripe_183 rfl rfl ?_
        refine mr_getR (pc' := 187) (ci := 11) (j := 33) (b := 165) hR dX11_ripe_184 rfl rfl rfl (by decide) (by decide) (by decide) rfl rfl ?_
        refine mr_iload (pc' := 189) dX11_ripe_187 rfl rfl ?_
        obtain ⟨a60, g61, h62⟩ := Option.bind_eq_some_iff.mp h46
        refine mr_iald (pc' := 190) dX11_ripe_189 rfl rfl rfl g61 ?_
        refine mr_iload_n (pc' := 191) dX11_ripe_190 rfl rfl ?_
        by_cases c63 : a60 = p2
        · rw [if_pos c63] at h62
          refine mr_icmp_ne_f (t := 234) (pc' := 194) dX11_ripe_191 (by decide) rfl (not_not_intro c63) ?_
          refine mr_aload_n (pc' := 195) dX11_ripe_194 rfl rfl ?_
          refine mr_getR (pc' := 198) (ci := 11) (j := 34) (b := 166) hR dX11_ripe_195 rfl rfl rfl (by decide) (by decide) (by decide) rfl rfl ?_
          refine mr_iload (pc' := 200) dX11_ripe_198 rfl rfl ?_
          obtain ⟨a76, g77, h78⟩ := Option.bind_eq_some_iff.mp h62
          refine mr_lald (pc' := 201) dX11_ripe_200 rfl rfl rfl g77 ?_
          refine mr_iload (pc' := 203) dX11_ripe_201 rfl rfl ?_
          refine mr_i2l (pc' := 204) dX11_ripe_203 rfl ?_
          refine mr_ldc2 (pc' := 207) (v := (232792560 : Int64)) dX11_ripe_204 rfl rfl ?_
          refine mr_lmul (pc' := 208) dX11_ripe_207 rfl ?_
          by_cases c79 : a76 < ((Int32.toInt64 p4) * (232792560 : Int64))
          · rw [if_pos c79] at h78
            refine mr_lcmp_lt_t (t := 234) dX11_ripe_208 rfl dX11_ripe_209 (by decide) c79 ?_
            refine mr_iconst (pc' := 235) (v := (0 : Int32)) dX11_ripe_234 rfl (by decide) ?_
            refine mr_istore (pc' := 237) (lv' := [(8, .int (0 : Int32)), (0, .ref 145), (2, .int p2), (3, .int p3), (4, .int p4), (5, .int p5), (6, .int p6), (7, .int p7)]) dX11_ripe_235 rfl (by decide) rfl ?_
            refine mr_iload (pc' := 239) dX11_ripe_237 rfl rfl ?_
            by_cases c80 : (0 : Int32) = (0 : Int32)
            · rw [if_pos c80] at h78
              refine mr_if_eq_t (t := 268) dX11_ripe_239 (by decide) c80 ?_
              refine mr_iinc (pc' := 271) (x' := (p7 + (1 : Int32))) (lv' := [(7, .int (p7 + (1 : Int32))), (8, .int (0 : Int32)), (0, .ref 145), (2, .int p2), (3, .int p3), (4, .int p4), (5, .int p5), (6, .int p6)]) dX11_ripe_268 rfl (by decide) rfl rfl rfl ?_
              refine mr_goto (t := 163) dX11_ripe_271 (by decide) ?_
              exact mr_sub [(0, .ref 145), (2, .int p2), (3, .int p3), (4, .int p4), (5, .int p5), (6, .int p6), (7, .int (p7 + (1 : Int32)))] ⟨rfl, rfl, rfl, rfl, rfl, rfl, rfl, trivial⟩ rfl (ih _ _ _  h78)
            · rw [if_neg c80] at h78
              refine mr_if_eq_f (t := 268) (pc' := 242) dX11_ripe_239 (by decide) rfl c80 ?_
              refine mr_iload (pc' := 244) dX11_ripe_242 rfl rfl ?_
              by_cases c81 : p6 < (0 : Int32)
              · rw [if_pos c81] at h78
                refine mr_if_lt_t (t := 259) dX11_ripe_244 (by decide) c81 ?_
                refine mr_aload_n (pc' := 260) dX11_ripe_259 rfl rfl ?_
                refine mr_getR (pc' := 263) (ci := 11) (j := 35) (b := 167) hR dX11_ripe_260 rfl rfl rfl (by decide) (by decide) (by decide) rfl rfl ?_
                refine mr_iload (pc' := 265) dX11_ripe_263 rfl rfl ?_
                obtain ⟨a82, g83, h84⟩ := Option.bind_eq_some_iff.mp h78
                refine mr_iald (pc' := 266) dX11_ripe_265 rfl rfl rfl g83 ?_
                refine mr_istore (pc' := 268) (lv' := [(6, .int a82), (8, .int (0 : Int32)), (0, .ref 145), (2, .int p2), (3, .int p3), (4, .int p4), (5, .int p5), (7, .int p7)]) dX11_ripe_266 rfl (by decide) rfl ?_
                refine mr_iinc (pc' := 271) (x' := (p7 + (1 : Int32))) (lv' := [(7, .int (p7 + (1 : Int32))), (6, .int a82), (8, .int (0 : Int32)), (0, .ref 145), (2, .int p2), (3, .int p3), (4, .int p4), (5, .int p5)]) dX11_ripe_268 rfl (by decide) rfl rfl rfl ?_
                refine mr_goto (t := 163) dX11_ripe_271 (by decide) ?_
                exact mr_sub [(0, .ref 145), (2, .int p2), (3, .int p3), (4, .int p4), (5, .int p5), (6, .int a82), (7, .int (p7 + (1 : Int32)))] ⟨rfl, rfl, rfl, rfl, rfl, rfl, rfl, trivial⟩ rfl (ih _ _ _  h84)
              · rw [if_neg c81] at h78
                refine mr_if_lt_f (t := 259) (pc' := 247) dX11_ripe_244 (by decide) rfl c81 ?_
                refine mr_aload_n (pc' := 248) dX11_ripe_247 rfl rfl ?_
                refine mr_getR (pc' := 251) (ci := 11) (j := 35) (b := 167) hR dX11_ripe_248 rfl rfl rfl (by decide) (by decide) (by decide) rfl rfl ?_
                refine mr_iload (pc' := 253) dX11_ripe_251 rfl rfl ?_
                obtain ⟨a85, g86, h87⟩ := Option.bind_eq_some_iff.mp h78
                refine mr_iald (pc' := 254) dX11_ripe_253 rfl rfl rfl g86 ?_
                refine mr_iload (pc' := 256) dX11_ripe_254 rfl rfl ?_
                by_cases c88 : p6 ≤ a85
                · rw [if_pos c88] at h87
                  refine mr_icmp_ge_t (t := 268) dX11_ripe_256 (by decide) c88 ?_
                  refine mr_iinc (pc' := 271) (x' := (p7 + (1 : Int32))) (lv' := [(7, .int (p7 + (1 : Int32))), (8, .int (0 : Int32)), (0, .ref 145), (2, .int p2), (3, .int p3), (4, .int p4), (5, .int p5), (6, .int p6)]) dX11_ripe_268 rfl (by decide) rfl rfl rfl ?_
                  refine mr_goto (t := 163) dX11_ripe_271 (by decide) ?_
                  exact mr_sub [(0, .ref 145), (2, .int p2), (3, .int p3), (4, .int p4), (5, .int p5), (6, .int p6), (7, .int (p7 + (1 : Int32)))] ⟨rfl, rfl, rfl, rfl, rfl, rfl, rfl, trivial⟩ rfl (ih _ _ _  h87)
                · rw [if_neg c88] at h87
                  refine mr_icmp_ge_f (t := 268) (pc' := 259) dX11_ripe_256 (by decide) rfl c88 ?_
                  refine mr_aload_n (pc' := 260) dX11_ripe_259 rfl rfl ?_
                  refine mr_getR (pc' := 263) (ci := 11) (j := 35) (b := 167) hR dX11_ripe_260 rfl rfl rfl (by decide) (by decide) (by decide) rfl rfl ?_
                  refine mr_iload (pc' := 265) dX11_ripe_263 rfl rfl ?_
                  obtain ⟨a89, g90, h91⟩ := Option.bind_eq_some_iff.mp h87
                  refine mr_iald (pc' := 266) dX11_ripe_265 rfl rfl rfl g90 ?_
                  refine mr_istore (pc' := 268) (lv' := [(6, .int a89), (8, .int (0 : Int32)), (0, .ref 145), (2, .int p2), (3, .int p3), (4, .int p4), (5, .int p5), (7, .int p7)]) dX11_ripe_266 rfl (by decide) rfl ?_
                  refine mr_iinc (pc' := 271) (x' := (p7 + (1 : Int32))) (lv' := [(7, .int (p7 + (1 : Int32))), (6, .int a89), (8, .int (0 : Int32)), (0, .ref 145), (2, .int p2), (3, .int p3), (4, .int p4), (5, .int p5)]) dX11_ripe_268 rfl (by decide) rfl rfl rfl ?_
                  refine mr_goto (t := 163) dX11_ripe_271 (by decide) ?_
                  exact mr_sub [(0, .ref 145), (2, .int p2), (3, .int p3), (4, .int p4), (5, .int p5), (6, .int a89), (7, .int (p7 + (1 : Int32)))] ⟨rfl, rfl, rfl, rfl, rfl, rfl, rfl, trivial⟩ rfl (ih _ _ _  h91)
          · rw [if_neg c79] at h78
            refine mr_lcmp_lt_f (t := 234) (pc' := 212) dX11_ripe_208 rfl dX11_ripe_209 (by decide) rfl c79 ?_
            refine mr_aload_n (pc' := 213) dX11_ripe_212 rfl rfl ?_
            refine mr_getR (pc' := 216) (ci := 11) (j := 34) (b := 166) hR dX11_ripe_213 rfl rfl rfl (by decide) (by decide) (by decide) rfl rfl ?_
            refine mr_iload (pc' := 218) dX11_ripe_216 rfl rfl ?_
            obtain ⟨a92, g93, h94⟩ := Option.bind_eq_some_iff.mp h78
            refine mr_lald (pc' := 219) dX11_ripe_218 rfl rfl rfl g93 ?_
            refine mr_iload (pc' := 221) dX11_ripe_219 rfl rfl ?_
            refine mr_i2l (pc' := 222) dX11_ripe_221 rfl ?_
            refine mr_ldc2 (pc' := 225) (v := (232792560 : Int64)) dX11_ripe_222 rfl rfl ?_
            refine mr_lmul (pc' := 226) dX11_ripe_225 rfl ?_
            by_cases c95 : ((Int32.toInt64 p5) * (232792560 : Int64)) < a92
            · rw [if_pos c95] at h94
              refine mr_lcmp_gt_t (t := 234) dX11_ripe_226 rfl dX11_ripe_227 (by decide) c95 ?_
              refine mr_iconst (pc' := 235) (v := (0 : Int32)) dX11_ripe_234 rfl (by decide) ?_
              refine mr_istore (pc' := 237) (lv' := [(8, .int (0 : Int32)), (0, .ref 145), (2, .int p2), (3, .int p3), (4, .int p4), (5, .int p5), (6, .int p6), (7, .int p7)]) dX11_ripe_235 rfl (by decide) rfl ?_
              refine mr_iload (pc' := 239) dX11_ripe_237 rfl rfl ?_
              by_cases c96 : (0 : Int32) = (0 : Int32)
              · rw [if_pos c96] at h94
                refine mr_if_eq_t (t := 268) dX11_ripe_239 (by decide) c96 ?_
                refine mr_iinc (pc' := 271) (x' := (p7 + (1 : Int32))) (lv' := [(7, .int (p7 + (1 : Int32))), (8, .int (0 : Int32)), (0, .ref 145), (2, .int p2), (3, .int p3), (4, .int p4), (5, .int p5), (6, .int p6)]) dX11_ripe_268 rfl (by decide) rfl rfl rfl ?_
                refine mr_goto (t := 163) dX11_ripe_271 (by decide) ?_
                exact mr_sub [(0, .ref 145), (2, .int p2), (3, .int p3), (4, .int p4), (5, .int p5), (6, .int p6), (7, .int (p7 + (1 : Int32)))] ⟨rfl, rfl, rfl, rfl, rfl, rfl, rfl, trivial⟩ rfl (ih _ _ _  h94)
              · rw [if_neg c96] at h94
                refine mr_if_eq_f (t := 268) (pc' := 242) dX11_ripe_239 (by decide) rfl c96 ?_
                refine mr_iload (pc' := 244) dX11_ripe_242 rfl rfl ?_
                by_cases c97 : p6 < (0 : Int32)
                · rw [if_pos c97] at h94
                  refine mr_if_lt_t (t := 259) dX11_ripe_244 (by decide) c97 ?_
                  refine mr_aload_n (pc' := 260) dX11_ripe_259 rfl rfl ?_
                  refine mr_getR (pc' := 263) (ci := 11) (j := 35) (b := 167) hR dX11_ripe_260 rfl rfl rfl (by decide) (by decide) (by decide) rfl rfl ?_
                  refine mr_iload (pc' := 265) dX11_ripe_263 rfl rfl ?_
                  obtain ⟨a98, g99, h100⟩ := Option.bind_eq_some_iff.mp h94
                  refine mr_iald (pc' := 266) dX11_ripe_265 rfl rfl rfl g99 ?_
                  refine mr_istore (pc' := 268) (lv' := [(6, .int a98), (8, .int (0 : Int32)), (0, .ref 145), (2, .int p2), (3, .int p3), (4, .int p4), (5, .int p5), (7, .int p7)]) dX11_ripe_266 rfl (by decide) rfl ?_
                  refine mr_iinc (pc' := 271) (x' := (p7 + (1 : Int32))) (lv' := [(7, .int (p7 + (1 : Int32))), (6, .int a98), (8, .int (0 : Int32)), (0, .ref 145), (2, .int p2), (3, .int p3), (4, .int p4), (5, .int p5)]) dX11_ripe_268 rfl (by decide) rfl rfl rfl ?_
                  refine mr_goto (t := 163) dX11_ripe_271 (by decide) ?_
                  exact mr_sub [(0, .ref 145), (2, .int p2), (3, .int p3), (4, .int p4), (5, .int p5), (6, .int a98), (7, .int (p7 + (1 : Int32)))] ⟨rfl, rfl, rfl, rfl, rfl, rfl, rfl, trivial⟩ rfl (ih _ _ _  h100)
                · rw [if_neg c97] at h94
                  refine mr_if_lt_f (t := 259) (pc' := 247) dX11_ripe_244 (by decide) rfl c97 ?_
                  refine mr_aload_n (pc' := 248) dX11_ripe_247 rfl rfl ?_
                  refine mr_getR (pc' := 251) (ci := 11) (j := 35) (b := 167) hR dX11_ripe_248 rfl rfl rfl (by decide) (by decide) (by decide) rfl rfl ?_
                  refine mr_iload (pc' := 253) dX11_ripe_251 rfl rfl ?_
                  obtain ⟨a101, g102, h103⟩ := Option.bind_eq_some_iff.mp h94
                  refine mr_iald (pc' := 254) dX11_ripe_253 rfl rfl rfl g102 ?_
                  refine mr_iload (pc' := 256) dX11_ripe_254 rfl rfl ?_
                  by_cases c104 : p6 ≤ a101
                  · rw [if_pos c104] at h103
                    refine mr_icmp_ge_t (t := 268) dX11_ripe_256 (by decide) c104 ?_
                    refine mr_iinc (pc' := 271) (x' := (p7 + (1 : Int32))) (lv' := [(7, .int (p7 + (1 : Int32))), (8, .int (0 : Int32)), (0, .ref 145), (2, .int p2), (3, .int p3), (4, .int p4), (5, .int p5), (6, .int p6)]) dX11_ripe_268 rfl (by decide) rfl rfl rfl ?_
                    refine mr_goto (t := 163) dX11_ripe_271 (by decide) ?_
                    exact mr_sub [(0, .ref 145), (2, .int p2), (3, .int p3), (4, .int p4), (5, .int p5), (6, .int p6), (7, .int (p7 + (1 : Int32)))] ⟨rfl, rfl, rfl, rfl, rfl, rfl, rfl, trivial⟩ rfl (ih _ _ _  h103)
                  · rw [if_neg c104] at h103
                    refine mr_icmp_ge_f (t := 268) (pc' := 259) dX11_ripe_256 (by decide) rfl c104 ?_
                    refine mr_aload_n (pc' := 260) dX11_ripe_259 rfl rfl ?_
                    refine mr_getR (pc' := 263) (ci := 11) (j := 35) (b := 167) hR dX11_ripe_260 rfl rfl rfl (by decide) (by decide) (by decide) rfl rfl ?_
                    refine mr_iload (pc' := 265) dX11_ripe_263 rfl rfl ?_
                    obtain ⟨a105, g106, h107⟩ := Option.bind_eq_some_iff.mp h103
                    refine mr_iald (pc' := 266) dX11_ripe_265 rfl rfl rfl g106 ?_
                    refine mr_istore (pc' := 268) (lv' := [(6, .int a105), (8, .int (0 : Int32)), (0, .ref 145), (2, .int p2), (3, .int p3), (4, .int p4), (5, .int p5), (7, .int p7)]) dX11_ripe_266 rfl (by decide) rfl ?_
                    refine mr_iinc (pc' := 271) (x' := (p7 + (1 : Int32))) (lv' := [(7, .int (p7 + (1 : Int32))), (6, .int a105), (8, .int (0 : Int32)), (0, .ref 145), (2, .int p2), (3, .int p3), (4, .int p4), (5, .int p5)]) dX11_ripe_268 rfl (by decide) rfl rfl rfl ?_
                    refine mr_goto (t := 163) dX11_ripe_271 (by decide) ?_
                    exact mr_sub [(0, .ref 145), (2, .int p2), (3, .int p3), (4, .int p4), (5, .int p5), (6, .int a105), (7, .int (p7 + (1 : Int32)))] ⟨rfl, rfl, rfl, rfl, rfl, rfl, rfl, trivial⟩ rfl (ih _ _ _  h107)
            · rw [if_neg c95] at h94
              refine mr_lcmp_gt_f (t := 234) (pc' := 230) dX11_ripe_226 rfl dX11_ripe_227 (by decide) rfl c95 ?_
              refine mr_iconst (pc' := 231) (v := (1 : Int32)) dX11_ripe_230 rfl (by decide) ?_
              refine mr_goto (t := 235) dX11_ripe_231 (by decide) ?_
              refine mr_istore (pc' := 237) (lv' := [(8, .int (1 : Int32)), (0, .ref 145), (2, .int p2), (3, .int p3), (4, .int p4), (5, .int p5), (6, .int p6), (7, .int p7)]) dX11_ripe_235 rfl (by decide) rfl ?_
              refine mr_iload (pc' := 239) dX11_ripe_237 rfl rfl ?_
              by_cases c108 : (1 : Int32) = (0 : Int32)
              · rw [if_pos c108] at h94
                refine mr_if_eq_t (t := 268) dX11_ripe_239 (by decide) c108 ?_
                refine mr_iinc (pc' := 271) (x' := (p7 + (1 : Int32))) (lv' := [(7, .int (p7 + (1 : Int32))), (8, .int (1 : Int32)), (0, .ref 145), (2, .int p2), (3, .int p3), (4, .int p4), (5, .int p5), (6, .int p6)]) dX11_ripe_268 rfl (by decide) rfl rfl rfl ?_
                refine mr_goto (t := 163) dX11_ripe_271 (by decide) ?_
                exact mr_sub [(0, .ref 145), (2, .int p2), (3, .int p3), (4, .int p4), (5, .int p5), (6, .int p6), (7, .int (p7 + (1 : Int32)))] ⟨rfl, rfl, rfl, rfl, rfl, rfl, rfl, trivial⟩ rfl (ih _ _ _  h94)
              · rw [if_neg c108] at h94
                refine mr_if_eq_f (t := 268) (pc' := 242) dX11_ripe_239 (by decide) rfl c108 ?_
                refine mr_iload (pc' := 244) dX11_ripe_242 rfl rfl ?_
                by_cases c109 : p6 < (0 : Int32)
                · rw [if_pos c109] at h94
                  refine mr_if_lt_t (t := 259) dX11_ripe_244 (by decide) c109 ?_
                  refine mr_aload_n (pc' := 260) dX11_ripe_259 rfl rfl ?_
                  refine mr_getR (pc' := 263) (ci := 11) (j := 35) (b := 167) hR dX11_ripe_260 rfl rfl rfl (by decide) (by decide) (by decide) rfl rfl ?_
                  refine mr_iload (pc' := 265) dX11_ripe_263 rfl rfl ?_
                  obtain ⟨a110, g111, h112⟩ := Option.bind_eq_some_iff.mp h94
                  refine mr_iald (pc' := 266) dX11_ripe_265 rfl rfl rfl g111 ?_
                  refine mr_istore (pc' := 268) (lv' := [(6, .int a110), (8, .int (1 : Int32)), (0, .ref 145), (2, .int p2), (3, .int p3), (4, .int p4), (5, .int p5), (7, .int p7)]) dX11_ripe_266 rfl (by decide) rfl ?_
                  refine mr_iinc (pc' := 271) (x' := (p7 + (1 : Int32))) (lv' := [(7, .int (p7 + (1 : Int32))), (6, .int a110), (8, .int (1 : Int32)), (0, .ref 145), (2, .int p2), (3, .int p3), (4, .int p4), (5, .int p5)]) dX11_ripe_268 rfl (by decide) rfl rfl rfl ?_
                  refine mr_goto (t := 163) dX11_ripe_271 (by decide) ?_
                  exact mr_sub [(0, .ref 145), (2, .int p2), (3, .int p3), (4, .int p4), (5, .int p5), (6, .int a110), (7, .int (p7 + (1 : Int32)))] ⟨rfl, rfl, rfl, rfl, rfl, rfl, rfl, trivial⟩ rfl (ih _ _ _  h112)
                · rw [if_neg c109] at h94
                  refine mr_if_lt_f (t := 259) (pc' := 247) dX11_ripe_244 (by decide) rfl c109 ?_
                  refine mr_aload_n (pc' := 248) dX11_ripe_247 rfl rfl ?_
                  refine mr_getR (pc' := 251) (ci := 11) (j := 35) (b := 167) hR dX11_ripe_248 rfl rfl rfl (by decide) (by decide) (by decide) rfl rfl ?_
                  refine mr_iload (pc' := 253) dX11_ripe_251 rfl rfl ?_
                  obtain ⟨a113, g114, h115⟩ := Option.bind_eq_some_iff.mp h94
                  refine mr_iald (pc' := 254) dX11_ripe_253 rfl rfl rfl g114 ?_
                  refine mr_iload (pc' := 256) dX11_ripe_254 rfl rfl ?_
                  by_cases c116 : p6 ≤ a113
                  · rw [if_pos c116] at h115
                    refine mr_icmp_ge_t (t := 268) dX11_ripe_256 (by decide) c116 ?_
                    refine mr_iinc (pc' := 271) (x' := (p7 + (1 : Int32))) (lv' := [(7, .int (p7 + (1 : Int32))), (8, .int (1 : Int32)), (0, .ref 145), (2, .int p2), (3, .int p3), (4, .int p4), (5, .int p5), (6, .int p6)]) dX11_ripe_268 rfl (by decide) rfl rfl rfl ?_
                    refine mr_goto (t := 163) dX11_ripe_271 (by decide) ?_
                    exact mr_sub [(0, .ref 145), (2, .int p2), (3, .int p3), (4, .int p4), (5, .int p5), (6, .int p6), (7, .int (p7 + (1 : Int32)))] ⟨rfl, rfl, rfl, rfl, rfl, rfl, rfl, trivial⟩ rfl (ih _ _ _  h115)
                  · rw [if_neg c116] at h115
                    refine mr_icmp_ge_f (t := 268) (pc' := 259) dX11_ripe_256 (by decide) rfl c116 ?_
                    refine mr_aload_n (pc' := 260) dX11_ripe_259 rfl rfl ?_
                    refine mr_getR (pc' := 263) (ci := 11) (j := 35) (b := 167) hR dX11_ripe_260 rfl rfl rfl (by decide) (by decide) (by decide) rfl rfl ?_
                    refine mr_iload (pc' := 265) dX11_ripe_263 rfl rfl ?_
                    obtain ⟨a117, g118, h119⟩ := Option.bind_eq_some_iff.mp h115
                    refine mr_iald (pc' := 266) dX11_ripe_265 rfl rfl rfl g118 ?_
                    refine mr_istore (pc' := 268) (lv' := [(6, .int a117), (8, .int (1 : Int32)), (0, .ref 145), (2, .int p2), (3, .int p3), (4, .int p4), (5, .int p5), (7, .int p7)]) dX11_ripe_266 rfl (by decide) rfl ?_
                    refine mr_iinc (pc' := 271) (x' := (p7 + (1 : Int32))) (lv' := [(7, .int (p7 + (1 : Int32))), (6, .int a117), (8, .int (1 : Int32)), (0, .ref 145), (2, .int p2), (3, .int p3), (4, .int p4), (5, .int p5)]) dX11_ripe_268 rfl (by decide) rfl rfl rfl ?_
                    refine mr_goto (t := 163) dX11_ripe_271 (by decide) ?_
                    exact mr_sub [(0, .ref 145), (2, .int p2), (3, .int p3), (4, .int p4), (5, .int p5), (6, .int a117), (7, .int (p7 + (1 : Int32)))] ⟨rfl, rfl, rfl, rfl, rfl, rfl, rfl, trivial⟩ rfl (ih _ _ _  h119)
        · rw [if_neg c63] at h62
          refine mr_icmp_ne_t (t := 234) dX11_ripe_191 (by decide) c63 ?_
          refine mr_iconst (pc' := 235) (v := (0 : Int32)) dX11_ripe_234 rfl (by decide) ?_
          refine mr_istore (pc' := 237) (lv' := [(8, .int (0 : Int32)), (0, .ref 145), (2, .int p2), (3, .int p3), (4, .int p4), (5, .int p5), (6, .int p6), (7, .int p7)]) dX11_ripe_235 rfl (by decide) rfl ?_
          refine mr_iload (pc' := 239) dX11_ripe_237 rfl rfl ?_
          by_cases c64 : (0 : Int32) = (0 : Int32)
          · rw [if_pos c64] at h62
            refine mr_if_eq_t (t := 268) dX11_ripe_239 (by decide) c64 ?_
            refine mr_iinc (pc' := 271) (x' := (p7 + (1 : Int32))) (lv' := [(7, .int (p7 + (1 : Int32))), (8, .int (0 : Int32)), (0, .ref 145), (2, .int p2), (3, .int p3), (4, .int p4), (5, .int p5), (6, .int p6)]) dX11_ripe_268 rfl (by decide) rfl rfl rfl ?_
            refine mr_goto (t := 163) dX11_ripe_271 (by decide) ?_
            exact mr_sub [(0, .ref 145), (2, .int p2), (3, .int p3), (4, .int p4), (5, .int p5), (6, .int p6), (7, .int (p7 + (1 : Int32)))] ⟨rfl, rfl, rfl, rfl, rfl, rfl, rfl, trivial⟩ rfl (ih _ _ _  h62)
          · rw [if_neg c64] at h62
            refine mr_if_eq_f (t := 268) (pc' := 242) dX11_ripe_239 (by decide) rfl c64 ?_
            refine mr_iload (pc' := 244) dX11_ripe_242 rfl rfl ?_
            by_cases c65 : p6 < (0 : Int32)
            · rw [if_pos c65] at h62
              refine mr_if_lt_t (t := 259) dX11_ripe_244 (by decide) c65 ?_
              refine mr_aload_n (pc' := 260) dX11_ripe_259 rfl rfl ?_
              refine mr_getR (pc' := 263) (ci := 11) (j := 35) (b := 167) hR dX11_ripe_260 rfl rfl rfl (by decide) (by decide) (by decide) rfl rfl ?_
              refine mr_iload (pc' := 265) dX11_ripe_263 rfl rfl ?_
              obtain ⟨a66, g67, h68⟩ := Option.bind_eq_some_iff.mp h62
              refine mr_iald (pc' := 266) dX11_ripe_265 rfl rfl rfl g67 ?_
              refine mr_istore (pc' := 268) (lv' := [(6, .int a66), (8, .int (0 : Int32)), (0, .ref 145), (2, .int p2), (3, .int p3), (4, .int p4), (5, .int p5), (7, .int p7)]) dX11_ripe_266 rfl (by decide) rfl ?_
              refine mr_iinc (pc' := 271) (x' := (p7 + (1 : Int32))) (lv' := [(7, .int (p7 + (1 : Int32))), (6, .int a66), (8, .int (0 : Int32)), (0, .ref 145), (2, .int p2), (3, .int p3), (4, .int p4), (5, .int p5)]) dX11_ripe_268 rfl (by decide) rfl rfl rfl ?_
              refine mr_goto (t := 163) dX11_ripe_271 (by decide) ?_
              exact mr_sub [(0, .ref 145), (2, .int p2), (3, .int p3), (4, .int p4), (5, .int p5), (6, .int a66), (7, .int (p7 + (1 : Int32)))] ⟨rfl, rfl, rfl, rfl, rfl, rfl, rfl, trivial⟩ rfl (ih _ _ _  h68)
            · rw [if_neg c65] at h62
              refine mr_if_lt_f (t := 259) (pc' := 247) dX11_ripe_244 (by decide) rfl c65 ?_
              refine mr_aload_n (pc' := 248) dX11_ripe_247 rfl rfl ?_
              refine mr_getR (pc' := 251) (ci := 11) (j := 35) (b := 167) hR dX11_ripe_248 rfl rfl rfl (by decide) (by decide) (by decide) rfl rfl ?_
              refine mr_iload (pc' := 253) dX11_ripe_251 rfl rfl ?_
              obtain ⟨a69, g70, h71⟩ := Option.bind_eq_some_iff.mp h62
              refine mr_iald (pc' := 254) dX11_ripe_253 rfl rfl rfl g70 ?_
              refine mr_iload (pc' := 256) dX11_ripe_254 rfl rfl ?_
              by_cases c72 : p6 ≤ a69
              · rw [if_pos c72] at h71
                refine mr_icmp_ge_t (t := 268) dX11_ripe_256 (by decide) c72 ?_
                refine mr_iinc (pc' := 271) (x' := (p7 + (1 : Int32))) (lv' := [(7, .int (p7 + (1 : Int32))), (8, .int (0 : Int32)), (0, .ref 145), (2, .int p2), (3, .int p3), (4, .int p4), (5, .int p5), (6, .int p6)]) dX11_ripe_268 rfl (by decide) rfl rfl rfl ?_
                refine mr_goto (t := 163) dX11_ripe_271 (by decide) ?_
                exact mr_sub [(0, .ref 145), (2, .int p2), (3, .int p3), (4, .int p4), (5, .int p5), (6, .int p6), (7, .int (p7 + (1 : Int32)))] ⟨rfl, rfl, rfl, rfl, rfl, rfl, rfl, trivial⟩ rfl (ih _ _ _  h71)
              · rw [if_neg c72] at h71
                refine mr_icmp_ge_f (t := 268) (pc' := 259) dX11_ripe_256 (by decide) rfl c72 ?_
                refine mr_aload_n (pc' := 260) dX11_ripe_259 rfl rfl ?_
                refine mr_getR (pc' := 263) (ci := 11) (j := 35) (b := 167) hR dX11_ripe_260 rfl rfl rfl (by decide) (by decide) (by decide) rfl rfl ?_
                refine mr_iload (pc' := 265) dX11_ripe_263 rfl rfl ?_
                obtain ⟨a73, g74, h75⟩ := Option.bind_eq_some_iff.mp h71
                refine mr_iald (pc' := 266) dX11_ripe_265 rfl rfl rfl g74 ?_
                refine mr_istore (pc' := 268) (lv' := [(6, .int a73), (8, .int (0 : Int32)), (0, .ref 145), (2, .int p2), (3, .int p3), (4, .int p4), (5, .int p5), (7, .int p7)]) dX11_ripe_266 rfl (by decide) rfl ?_
                refine mr_iinc (pc' := 271) (x' := (p7 + (1 : Int32))) (lv' := [(7, .int (p7 + (1 : Int32))), (6, .int a73), (8, .int (0 : Int32)), (0, .ref 145), (2, .int p2), (3, .int p3), (4, .int p4), (5, .int p5)]) dX11_ripe_268 rfl (by decide) rfl rfl rfl ?_
                refine mr_goto (t := 163) dX11_ripe_271 (by decide) ?_
                exact mr_sub [(0, .ref 145), (2, .int p2), (3, .int p3), (4, .int p4), (5, .int p5), (6, .int a73), (7, .int (p7 + (1 : Int32)))] ⟨rfl, rfl, rfl, rfl, rfl, rfl, rfl, trivial⟩ rfl (ih _ _ _  h75)
      · rw [if_neg c47] at h46
        refine mr_icmp_ne_t (t := 234) dX11_ripe_180 (by decide) c47 ?_
        refine mr_iconst (pc' := 235) (v := (0 : Int32)) dX11_ripe_234 rfl (by decide) ?_
        refine mr_istore (pc' := 237) (lv' := [(8, .int (0 : Int32)), (0, .ref 145), (2, .int p2), (3, .int p3), (4, .int p4), (5, .int p5), (6, .int p6), (7, .int p7)]) dX11_ripe_235 rfl (by decide) rfl ?_
        refine mr_iload (pc' := 239) dX11_ripe_237 rfl rfl ?_
        by_cases c48 : (0 : Int32) = (0 : Int32)
        · rw [if_pos c48] at h46
          refine mr_if_eq_t (t := 268) dX11_ripe_239 (by decide) c48 ?_
          refine mr_iinc (pc' := 271) (x' := (p7 + (1 : Int32))) (lv' := [(7, .int (p7 + (1 : Int32))), (8, .int (0 : Int32)), (0, .ref 145), (2, .int p2), (3, .int p3), (4, .int p4), (5, .int p5), (6, .int p6)]) dX11_ripe_268 rfl (by decide) rfl rfl rfl ?_
          refine mr_goto (t := 163) dX11_ripe_271 (by decide) ?_
          exact mr_sub [(0, .ref 145), (2, .int p2), (3, .int p3), (4, .int p4), (5, .int p5), (6, .int p6), (7, .int (p7 + (1 : Int32)))] ⟨rfl, rfl, rfl, rfl, rfl, rfl, rfl, trivial⟩ rfl (ih _ _ _  h46)
        · rw [if_neg c48] at h46
          refine mr_if_eq_f (t := 268) (pc' := 242) dX11_ripe_239 (by decide) rfl c48 ?_
          refine mr_iload (pc' := 244) dX11_ripe_242 rfl rfl ?_
          by_cases c49 : p6 < (0 : Int32)
          · rw [if_pos c49] at h46
            refine mr_if_lt_t (t := 259) dX11_ripe_244 (by decide) c49 ?_
            refine mr_aload_n (pc' := 260) dX11_ripe_259 rfl rfl ?_
            refine mr_getR (pc' := 263) (ci := 11) (j := 35) (b := 167) hR dX11_ripe_260 rfl rfl rfl (by decide) (by decide) (by decide) rfl rfl ?_
            refine mr_iload (pc' := 265) dX11_ripe_263 rfl rfl ?_
            obtain ⟨a50, g51, h52⟩ := Option.bind_eq_some_iff.mp h46
            refine mr_iald (pc' := 266) dX11_ripe_265 rfl rfl rfl g51 ?_
            refine mr_istore (pc' := 268) (lv' := [(6, .int a50), (8, .int (0 : Int32)), (0, .ref 145), (2, .int p2), (3, .int p3), (4, .int p4), (5, .int p5), (7, .int p7)]) dX11_ripe_266 rfl (by decide) rfl ?_
            refine mr_iinc (pc' := 271) (x' := (p7 + (1 : Int32))) (lv' := [(7, .int (p7 + (1 : Int32))), (6, .int a50), (8, .int (0 : Int32)), (0, .ref 145), (2, .int p2), (3, .int p3), (4, .int p4), (5, .int p5)]) dX11_ripe_268 rfl (by decide) rfl rfl rfl ?_
            refine mr_goto (t := 163) dX11_ripe_271 (by decide) ?_
            exact mr_sub [(0, .ref 145), (2, .int p2), (3, .int p3), (4, .int p4), (5, .int p5), (6, .int a50), (7, .int (p7 + (1 : Int32)))] ⟨rfl, rfl, rfl, rfl, rfl, rfl, rfl, trivial⟩ rfl (ih _ _ _  h52)
          · rw [if_neg c49] at h46
            refine mr_if_lt_f (t := 259) (pc' := 247) dX11_ripe_244 (by decide) rfl c49 ?_
            refine mr_aload_n (pc' := 248) dX11_ripe_247 rfl rfl ?_
            refine mr_getR (pc' := 251) (ci := 11) (j := 35) (b := 167) hR dX11_ripe_248 rfl rfl rfl (by decide) (by decide) (by decide) rfl rfl ?_
            refine mr_iload (pc' := 253) dX11_ripe_251 rfl rfl ?_
            obtain ⟨a53, g54, h55⟩ := Option.bind_eq_some_iff.mp h46
            refine mr_iald (pc' := 254) dX11_ripe_253 rfl rfl rfl g54 ?_
            refine mr_iload (pc' := 256) dX11_ripe_254 rfl rfl ?_
            by_cases c56 : p6 ≤ a53
            · rw [if_pos c56] at h55
              refine mr_icmp_ge_t (t := 268) dX11_ripe_256 (by decide) c56 ?_
              refine mr_iinc (pc' := 271) (x' := (p7 + (1 : Int32))) (lv' := [(7, .int (p7 + (1 : Int32))), (8, .int (0 : Int32)), (0, .ref 145), (2, .int p2), (3, .int p3), (4, .int p4), (5, .int p5), (6, .int p6)]) dX11_ripe_268 rfl (by decide) rfl rfl rfl ?_
              refine mr_goto (t := 163) dX11_ripe_271 (by decide) ?_
              exact mr_sub [(0, .ref 145), (2, .int p2), (3, .int p3), (4, .int p4), (5, .int p5), (6, .int p6), (7, .int (p7 + (1 : Int32)))] ⟨rfl, rfl, rfl, rfl, rfl, rfl, rfl, trivial⟩ rfl (ih _ _ _  h55)
            · rw [if_neg c56] at h55
              refine mr_icmp_ge_f (t := 268) (pc' := 259) dX11_ripe_256 (by decide) rfl c56 ?_
              refine mr_aload_n (pc' := 260) dX11_ripe_259 rfl rfl ?_
              refine mr_getR (pc' := 263) (ci := 11) (j := 35) (b := 167) hR dX11_ripe_260 rfl rfl rfl (by decide) (by decide) (by decide) rfl rfl ?_
              refine mr_iload (pc' := 265) dX11_ripe_263 rfl rfl ?_
              obtain ⟨a57, g58, h59⟩ := Option.bind_eq_some_iff.mp h55
              refine mr_iald (pc' := 266) dX11_ripe_265 rfl rfl rfl g58 ?_
              refine mr_istore (pc' := 268) (lv' := [(6, .int a57), (8, .int (0 : Int32)), (0, .ref 145), (2, .int p2), (3, .int p3), (4, .int p4), (5, .int p5), (7, .int p7)]) dX11_ripe_266 rfl (by decide) rfl ?_
              refine mr_iinc (pc' := 271) (x' := (p7 + (1 : Int32))) (lv' := [(7, .int (p7 + (1 : Int32))), (6, .int a57), (8, .int (0 : Int32)), (0, .ref 145), (2, .int p2), (3, .int p3), (4, .int p4), (5, .int p5)]) dX11_ripe_268 rfl (by decide) rfl rfl rfl ?_
              refine mr_goto (t := 163) dX11_ripe_271 (by decide) ?_
              exact mr_sub [(0, .ref 145), (2, .int p2), (3, .int p3), (4, .int p4), (5, .int p5), (6, .int a57), (7, .int (p7 + (1 : Int32)))] ⟨rfl, rfl, rfl, rfl, rfl, rfl, rfl, trivial⟩ rfl (ih _ _ _  h59)
def f_X11_ripe (v1 : Int32) (v2 : Int32) (v3 : Int32) (v4 : Int32) (v5 : Int32) (S : fS) : Option (Int32 × fS) :=
  (f_X11_isFloor v1 S).bind fun q1 =>
  if q1 = (0 : Int32) then (some ((-1 : Int32), S)) else
  ((f_X11_isFloor v2 S).bind fun q5 =>
  if q5 = (0 : Int32) then (some ((-1 : Int32), S)) else
  ((f_X11_in (Int32.toInt64 v3) (0 : Int64) (16 : Int64) S).bind fun q9 =>
  if q9 = (0 : Int32) then (some ((-1 : Int32), S)) else
  ((f_X11_in (Int32.toInt64 v4) (0 : Int64) (999 : Int64) S).bind fun q13 =>
  if q13 = (0 : Int32) then (some ((-1 : Int32), S)) else
  ((f_X11_in (Int32.toInt64 v5) (Int32.toInt64 v4) (999 : Int64) S).bind fun q17 =>
  if q17 = (0 : Int32) then (some ((-1 : Int32), S)) else
  ((some (pI S 145 36 (0 : Int32))).bind fun S21 =>
  (f_X11_comes (0 : Int32) v1 (0 : Int64) (0 : Int32) S21).bind fun q24 =>
  lp_X11_ripe_74 v2 v3 v4 v5 (fun S40 => if (S40.1 145 36) ≤ (4000 : Int32) then (lp_X11_ripe_163 v2 v3 v4 v5 (fun u120 S121 => some (u120, S121)) FU (-2 : Int32) (0 : Int32) S40) else
  (some ((-3 : Int32), S40))) FU (0 : Int32) q24)))))
set_option maxHeartbeats 4000000 in
set_option maxRecDepth 100000 in
theorem ok_X11_ripe {X : mm_C} {RR : Nat → Nat → Option Nat} (hR : RRok RR) {v1 : Int32} {v2 : Int32} {v3 : Int32} {v4 : Int32} {v5 : Int32}  {S : fS} {r : Int32 × fS} (h : f_X11_ripe v1 v2 v3 v4 v5 S = some r) : mr X 3 mY_X11_ripe 0 (lv_args 0 [.ref 145, .int v1, .int v2, .int v3, .int v4, .int v5]) [] (MM RR S) (some (.int r.1), MM RR r.2) := by
  unfold f_X11_ripe at h
  show mr X _ _ 0 [(0, .ref 145), (1, .int v1), (2, .int v2), (3, .int v3), (4, .int v4), (5, .int v5)] [] (MM RR S) _
  refine mr_aload_n (pc' := 1) dX11_ripe_0 rfl rfl ?_
  refine mr_iload_n (pc' := 2) dX11_ripe_1 rfl rfl ?_
  obtain ⟨q1, g2, h3⟩ := Option.bind_eq_some_iff.mp h
  refine mr_cv (pc' := 5) (a := 145) (d1 := 0) dX11_ripe_2 rfl rfl rfl rfl rfl rfl (by decide) rfl (by decide) (ok_X11_isFloor hR  g2) ?_
  show mr X _ _ 5 _ [.int q1] (MM RR S) _
  by_cases c4 : q1 = (0 : Int32)
  · rw [if_pos c4] at h3
    refine mr_if_eq_t (t := 56) dX11_ripe_5 (by decide) c4 ?_
    refine mr_iconst (pc' := 57) (v := (-1 : Int32)) dX11_ripe_56 rfl (by decide) ?_
    obtain rfl := Option.some.inj h3
    exact mr_ireturn dX11_ripe_57 rfl
  · rw [if_neg c4] at h3
    refine mr_if_eq_f (t := 56) (pc' := 8) dX11_ripe_5 (by decide) rfl c4 ?_
    refine mr_aload_n (pc' := 9) dX11_ripe_8 rfl rfl ?_
    refine mr_iload_n (pc' := 10) dX11_ripe_9 rfl rfl ?_
    obtain ⟨q5, g6, h7⟩ := Option.bind_eq_some_iff.mp h3
    refine mr_cv (pc' := 13) (a := 145) (d1 := 0) dX11_ripe_10 rfl rfl rfl rfl rfl rfl (by decide) rfl (by decide) (ok_X11_isFloor hR  g6) ?_
    show mr X _ _ 13 _ [.int q5] (MM RR S) _
    by_cases c8 : q5 = (0 : Int32)
    · rw [if_pos c8] at h7
      refine mr_if_eq_t (t := 56) dX11_ripe_13 (by decide) c8 ?_
      refine mr_iconst (pc' := 57) (v := (-1 : Int32)) dX11_ripe_56 rfl (by decide) ?_
      obtain rfl := Option.some.inj h7
      exact mr_ireturn dX11_ripe_57 rfl
    · rw [if_neg c8] at h7
      refine mr_if_eq_f (t := 56) (pc' := 16) dX11_ripe_13 (by decide) rfl c8 ?_
      refine mr_iload_n (pc' := 17) dX11_ripe_16 rfl rfl ?_
      refine mr_i2l (pc' := 18) dX11_ripe_17 rfl ?_
      refine mr_lconst (pc' := 19) (v := (0 : Int64)) dX11_ripe_18 rfl (by decide) ?_
      refine mr_ldc2 (pc' := 22) (v := (16 : Int64)) dX11_ripe_19 rfl rfl ?_
      obtain ⟨q9, g10, h11⟩ := Option.bind_eq_some_iff.mp h7
      refine mr_cs (pc' := 25) (d1 := 0) dX11_ripe_22 rfl rfl rfl rfl (by decide) (Nat.le_of_ble_eq_true rfl) rfl rfl rfl (by decide) (ok_X11_in hR  g10) ?_
      show mr X _ _ 25 _ [.int q9] (MM RR S) _
      by_cases c12 : q9 = (0 : Int32)
      · rw [if_pos c12] at h11
        refine mr_if_eq_t (t := 56) dX11_ripe_25 (by decide) c12 ?_
        refine mr_iconst (pc' := 57) (v := (-1 : Int32)) dX11_ripe_56 rfl (by decide) ?_
        obtain rfl := Option.some.inj h11
        exact mr_ireturn dX11_ripe_57 rfl
      · rw [if_neg c12] at h11
        refine mr_if_eq_f (t := 56) (pc' := 28) dX11_ripe_25 (by decide) rfl c12 ?_
        refine mr_iload (pc' := 30) dX11_ripe_28 rfl rfl ?_
        refine mr_i2l (pc' := 31) dX11_ripe_30 rfl ?_
        refine mr_lconst (pc' := 32) (v := (0 : Int64)) dX11_ripe_31 rfl (by decide) ?_
        refine mr_ldc2 (pc' := 35) (v := (999 : Int64)) dX11_ripe_32 rfl rfl ?_
        obtain ⟨q13, g14, h15⟩ := Option.bind_eq_some_iff.mp h11
        refine mr_cs (pc' := 38) (d1 := 0) dX11_ripe_35 rfl rfl rfl rfl (by decide) (Nat.le_of_ble_eq_true rfl) rfl rfl rfl (by decide) (ok_X11_in hR  g14) ?_
        show mr X _ _ 38 _ [.int q13] (MM RR S) _
        by_cases c16 : q13 = (0 : Int32)
        · rw [if_pos c16] at h15
          refine mr_if_eq_t (t := 56) dX11_ripe_38 (by decide) c16 ?_
          refine mr_iconst (pc' := 57) (v := (-1 : Int32)) dX11_ripe_56 rfl (by decide) ?_
          obtain rfl := Option.some.inj h15
          exact mr_ireturn dX11_ripe_57 rfl
        · rw [if_neg c16] at h15
          refine mr_if_eq_f (t := 56) (pc' := 41) dX11_ripe_38 (by decide) rfl c16 ?_
          refine mr_iload (pc' := 43) dX11_ripe_41 rfl rfl ?_
          refine mr_i2l (pc' := 44) dX11_ripe_43 rfl ?_
          refine mr_iload (pc' := 46) dX11_ripe_44 rfl rfl ?_
          refine mr_i2l (pc' := 47) dX11_ripe_46 rfl ?_
          refine mr_ldc2 (pc' := 50) (v := (999 : Int64)) dX11_ripe_47 rfl rfl ?_
          obtain ⟨q17, g18, h19⟩ := Option.bind_eq_some_iff.mp h15
          refine mr_cs (pc' := 53) (d1 := 0) dX11_ripe_50 rfl rfl rfl rfl (by decide) (Nat.le_of_ble_eq_true rfl) rfl rfl rfl (by decide) (ok_X11_in hR  g18) ?_
          show mr X _ _ 53 _ [.int q17] (MM RR S) _
          by_cases c20 : q17 = (0 : Int32)
          · rw [if_pos c20] at h19
            refine mr_if_ne_f (t := 58) (pc' := 56) dX11_ripe_53 (by decide) rfl (not_not_intro c20) ?_
            refine mr_iconst (pc' := 57) (v := (-1 : Int32)) dX11_ripe_56 rfl (by decide) ?_
            obtain rfl := Option.some.inj h19
            exact mr_ireturn dX11_ripe_57 rfl
          · rw [if_neg c20] at h19
            refine mr_if_ne_t (t := 58) dX11_ripe_53 (by decide) c20 ?_
            refine mr_aload_n (pc' := 59) dX11_ripe_58 rfl rfl ?_
            refine mr_iconst (pc' := 60) (v := (0 : Int32)) dX11_ripe_59 rfl (by decide) ?_
            obtain ⟨S21, g22, h23⟩ := Option.bind_eq_some_iff.mp h19
            refine mr_putI (pc' := 63) (ci := 11) (j := 36) dX11_ripe_60 rfl rfl rfl (by decide) (by decide) rfl rfl ?_
            rw [Option.some.inj g22]
            refine mr_aload_n (pc' := 64) dX11_ripe_63 rfl rfl ?_
            refine mr_iconst (pc' := 65) (v := (0 : Int32)) dX11_ripe_64 rfl (by decide) ?_
            refine mr_iload_n (pc' := 66) dX11_ripe_65 rfl rfl ?_
            refine mr_lconst (pc' := 67) (v := (0 : Int64)) dX11_ripe_66 rfl (by decide) ?_
            refine mr_iconst (pc' := 68) (v := (0 : Int32)) dX11_ripe_67 rfl (by decide) ?_
            obtain ⟨q24, g25, h26⟩ := Option.bind_eq_some_iff.mp h23
            refine mr_cv (pc' := 71) (a := 145) (d1 := 0) dX11_ripe_68 rfl rfl rfl rfl rfl rfl (by decide) rfl (by decide) (ok_X11_comes hR  g25) ?_
            show mr X _ _ 71 _ [] (MM RR q24) _
            refine mr_iconst (pc' := 72) (v := (0 : Int32)) dX11_ripe_71 rfl (by decide) ?_
            refine mr_istore (pc' := 74) (lv' := [(6, .int (0 : Int32)), (0, .ref 145), (1, .int v1), (2, .int v2), (3, .int v3), (4, .int v4), (5, .int v5)]) dX11_ripe_72 rfl (by decide) rfl ?_
            refine mr_sub [(0, .ref 145), (2, .int v2), (3, .int v3), (4, .int v4), (5, .int v5), (6, .int (0 : Int32))] ⟨rfl, rfl, rfl, rfl, rfl, rfl, trivial⟩ rfl ?_
            refine ok_lp_X11_ripe_74 hR  (fun S40 h41 => ?_) FU _ _  h26
            refine mr_aload_n (pc' := 144) dX11_ripe_143 rfl rfl ?_
            refine mr_getI (pc' := 147) (ci := 11) (j := 36) dX11_ripe_144 rfl rfl rfl (by decide) (by decide) rfl ?_
            refine mr_sipush (pc' := 150) (v := (4000 : Int32)) dX11_ripe_147 rfl (by decide) ?_
            by_cases c42 : (S40.1 145 36) ≤ (4000 : Int32)
            · rw [if_pos c42] at h41
              refine mr_icmp_le_t (t := 156) dX11_ripe_150 (by decide) c42 ?_
              refine mr_bipush (pc' := 158) (v := (-2 : Int32)) dX11_ripe_156 rfl (by decide) ?_
              refine mr_istore (pc' := 160) (lv' := [(6, .int (-2 : Int32)), (0, .ref 145), (2, .int v2), (3, .int v3), (4, .int v4), (5, .int v5)]) dX11_ripe_158 rfl (by decide) rfl ?_
              refine mr_iconst (pc' := 161) (v := (0 : Int32)) dX11_ripe_160 rfl (by decide) ?_
              refine mr_istore (pc' := 163) (lv' := [(7, .int (0 : Int32)), (6, .int (-2 : Int32)), (0, .ref 145), (2, .int v2), (3, .int v3), (4, .int v4), (5, .int v5)]) dX11_ripe_161 rfl (by decide) rfl ?_
              refine mr_sub [(0, .ref 145), (2, .int v2), (3, .int v3), (4, .int v4), (5, .int v5), (6, .int (-2 : Int32)), (7, .int (0 : Int32))] ⟨rfl, rfl, rfl, rfl, rfl, rfl, rfl, trivial⟩ rfl ?_
              refine ok_lp_X11_ripe_163 hR  (fun u120 S121 h122 => ?_) FU _ _ _  h41
              refine mr_iload (pc' := 276) dX11_ripe_274 rfl rfl ?_
              obtain rfl := Option.some.inj h122
              exact mr_ireturn dX11_ripe_276 rfl
            · rw [if_neg c42] at h41
              refine mr_icmp_le_f (t := 156) (pc' := 153) dX11_ripe_150 (by decide) rfl c42 ?_
              refine mr_bipush (pc' := 155) (v := (-3 : Int32)) dX11_ripe_153 rfl (by decide) ?_
              obtain rfl := Option.some.inj h41
              exact mr_ireturn dX11_ripe_155 rfl
def f_X11_owed (v1 : Int32) (v2 : Int32) (v3 : Int32) (v4 : Int32) (v5 : Int32) (S : fS) : Option (Int64) :=
  (f_X11_isFloor v1 S).bind fun q1 =>
  if q1 = (0 : Int32) then (some (-1 : Int64)) else
  ((f_X11_in (Int32.toInt64 v2) (1 : Int64) (9999 : Int64) S).bind fun q5 =>
  if q5 = (0 : Int32) then (some (-1 : Int64)) else
  ((f_X11_in (Int32.toInt64 v3) (0 : Int64) (999 : Int64) S).bind fun q9 =>
  if q9 = (0 : Int32) then (some (-1 : Int64)) else
  ((f_X11_in (Int32.toInt64 v4) (0 : Int64) (9999 : Int64) S).bind fun q13 =>
  if q13 = (0 : Int32) then (some (-1 : Int64)) else
  ((f_X11_in (Int32.toInt64 v5) (0 : Int64) (1 : Int64) S).bind fun q17 =>
  if q17 = (0 : Int32) then (some (-1 : Int64)) else
  ((gI S 157 158 (((10 : Int32) + ((2 : Int32) * v1)) + (1 : Int32))).bind fun a21 =>
  (gI S 157 158 ((10 : Int32) + ((2 : Int32) * v1))).bind fun a24 =>
  (f_X11_lowest (((Int32.toInt64 v2) * ((24000 : Int64) * (Int32.toInt64 a21))) + ((((Int32.toInt64 v2) * (Int32.toInt64 v3)) * (Int32.toInt64 v4)) * (Int32.toInt64 a24))) ((24000 : Int64) * (Int32.toInt64 a21)) v5 S).bind fun q27 =>
  some q27)))))
set_option maxHeartbeats 4000000 in
set_option maxRecDepth 100000 in
theorem ok_X11_owed {X : mm_C} {RR : Nat → Nat → Option Nat} (hR : RRok RR) {v1 : Int32} {v2 : Int32} {v3 : Int32} {v4 : Int32} {v5 : Int32}  {S : fS} {r : Int64} (h : f_X11_owed v1 v2 v3 v4 v5 S = some r) : mr X 2 mY_X11_owed 0 (lv_args 0 [.ref 145, .int v1, .int v2, .int v3, .int v4, .int v5]) [] (MM RR S) (some (.long r), MM RR S) := by
  unfold f_X11_owed at h
  show mr X _ _ 0 [(0, .ref 145), (1, .int v1), (2, .int v2), (3, .int v3), (4, .int v4), (5, .int v5)] [] (MM RR S) _
  refine mr_aload_n (pc' := 1) dX11_owed_0 rfl rfl ?_
  refine mr_iload_n (pc' := 2) dX11_owed_1 rfl rfl ?_
  obtain ⟨q1, g2, h3⟩ := Option.bind_eq_some_iff.mp h
  refine mr_cv (pc' := 5) (a := 145) (d1 := 0) dX11_owed_2 rfl rfl rfl rfl rfl rfl (by decide) rfl (by decide) (ok_X11_isFloor hR  g2) ?_
  show mr X _ _ 5 _ [.int q1] (MM RR S) _
  by_cases c4 : q1 = (0 : Int32)
  · rw [if_pos c4] at h3
    refine mr_if_eq_t (t := 56) dX11_owed_5 (by decide) c4 ?_
    refine mr_ldc2 (pc' := 59) (v := (-1 : Int64)) dX11_owed_56 rfl rfl ?_
    obtain rfl := Option.some.inj h3
    exact mr_lreturn dX11_owed_59 rfl
  · rw [if_neg c4] at h3
    refine mr_if_eq_f (t := 56) (pc' := 8) dX11_owed_5 (by decide) rfl c4 ?_
    refine mr_iload_n (pc' := 9) dX11_owed_8 rfl rfl ?_
    refine mr_i2l (pc' := 10) dX11_owed_9 rfl ?_
    refine mr_lconst (pc' := 11) (v := (1 : Int64)) dX11_owed_10 rfl (by decide) ?_
    refine mr_ldc2 (pc' := 14) (v := (9999 : Int64)) dX11_owed_11 rfl rfl ?_
    obtain ⟨q5, g6, h7⟩ := Option.bind_eq_some_iff.mp h3
    refine mr_cs (pc' := 17) (d1 := 0) dX11_owed_14 rfl rfl rfl rfl (by decide) (Nat.le_of_ble_eq_true rfl) rfl rfl rfl (by decide) (ok_X11_in hR  g6) ?_
    show mr X _ _ 17 _ [.int q5] (MM RR S) _
    by_cases c8 : q5 = (0 : Int32)
    · rw [if_pos c8] at h7
      refine mr_if_eq_t (t := 56) dX11_owed_17 (by decide) c8 ?_
      refine mr_ldc2 (pc' := 59) (v := (-1 : Int64)) dX11_owed_56 rfl rfl ?_
      obtain rfl := Option.some.inj h7
      exact mr_lreturn dX11_owed_59 rfl
    · rw [if_neg c8] at h7
      refine mr_if_eq_f (t := 56) (pc' := 20) dX11_owed_17 (by decide) rfl c8 ?_
      refine mr_iload_n (pc' := 21) dX11_owed_20 rfl rfl ?_
      refine mr_i2l (pc' := 22) dX11_owed_21 rfl ?_
      refine mr_lconst (pc' := 23) (v := (0 : Int64)) dX11_owed_22 rfl (by decide) ?_
      refine mr_ldc2 (pc' := 26) (v := (999 : Int64)) dX11_owed_23 rfl rfl ?_
      obtain ⟨q9, g10, h11⟩ := Option.bind_eq_some_iff.mp h7
      refine mr_cs (pc' := 29) (d1 := 0) dX11_owed_26 rfl rfl rfl rfl (by decide) (Nat.le_of_ble_eq_true rfl) rfl rfl rfl (by decide) (ok_X11_in hR  g10) ?_
      show mr X _ _ 29 _ [.int q9] (MM RR S) _
      by_cases c12 : q9 = (0 : Int32)
      · rw [if_pos c12] at h11
        refine mr_if_eq_t (t := 56) dX11_owed_29 (by decide) c12 ?_
        refine mr_ldc2 (pc' := 59) (v := (-1 : Int64)) dX11_owed_56 rfl rfl ?_
        obtain rfl := Option.some.inj h11
        exact mr_lreturn dX11_owed_59 rfl
      · rw [if_neg c12] at h11
        refine mr_if_eq_f (t := 56) (pc' := 32) dX11_owed_29 (by decide) rfl c12 ?_
        refine mr_iload (pc' := 34) dX11_owed_32 rfl rfl ?_
        refine mr_i2l (pc' := 35) dX11_owed_34 rfl ?_
        refine mr_lconst (pc' := 36) (v := (0 : Int64)) dX11_owed_35 rfl (by decide) ?_
        refine mr_ldc2 (pc' := 39) (v := (9999 : Int64)) dX11_owed_36 rfl rfl ?_
        obtain ⟨q13, g14, h15⟩ := Option.bind_eq_some_iff.mp h11
        refine mr_cs (pc' := 42) (d1 := 0) dX11_owed_39 rfl rfl rfl rfl (by decide) (Nat.le_of_ble_eq_true rfl) rfl rfl rfl (by decide) (ok_X11_in hR  g14) ?_
        show mr X _ _ 42 _ [.int q13] (MM RR S) _
        by_cases c16 : q13 = (0 : Int32)
        · rw [if_pos c16] at h15
          refine mr_if_eq_t (t := 56) dX11_owed_42 (by decide) c16 ?_
          refine mr_ldc2 (pc' := 59) (v := (-1 : Int64)) dX11_owed_56 rfl rfl ?_
          obtain rfl := Option.some.inj h15
          exact mr_lreturn dX11_owed_59 rfl
        · rw [if_neg c16] at h15
          refine mr_if_eq_f (t := 56) (pc' := 45) dX11_owed_42 (by decide) rfl c16 ?_
          refine mr_iload (pc' := 47) dX11_owed_45 rfl rfl ?_
          refine mr_i2l (pc' := 48) dX11_owed_47 rfl ?_
          refine mr_lconst (pc' := 49) (v := (0 : Int64)) dX11_owed_48 rfl (by decide) ?_
          refine mr_lconst (pc' := 50) (v := (1 : Int64)) dX11_owed_49 rfl (by decide) ?_
          obtain ⟨q17, g18, h19⟩ := Option.bind_eq_some_iff.mp h15
          refine mr_cs (pc' := 53) (d1 := 0) dX11_owed_50 rfl rfl rfl rfl (by decide) (Nat.le_of_ble_eq_true rfl) rfl rfl rfl (by decide) (ok_X11_in hR  g18) ?_
          show mr X _ _ 53 _ [.int q17] (MM RR S) _
          by_cases c20 : q17 = (0 : Int32)
          · rw [if_pos c20] at h19
            refine mr_if_ne_f (t := 60) (pc' := 56) dX11_owed_53 (by decide) rfl (not_not_intro c20) ?_
            refine mr_ldc2 (pc' := 59) (v := (-1 : Int64)) dX11_owed_56 rfl rfl ?_
            obtain rfl := Option.some.inj h19
            exact mr_lreturn dX11_owed_59 rfl
          · rw [if_neg c20] at h19
            refine mr_if_ne_t (t := 60) dX11_owed_53 (by decide) c20 ?_
            refine mr_ldc2 (pc' := 63) (v := (24000 : Int64)) dX11_owed_60 rfl rfl ?_
            refine mr_aload_n (pc' := 64) dX11_owed_63 rfl rfl ?_
            refine mr_getR (pc' := 67) (ci := 11) (j := 25) (b := 157) hR dX11_owed_64 rfl rfl rfl (by decide) (by decide) (by decide) rfl rfl ?_
            refine mr_bipush (pc' := 69) (v := (10 : Int32)) dX11_owed_67 rfl (by decide) ?_
            refine mr_iconst (pc' := 70) (v := (2 : Int32)) dX11_owed_69 rfl (by decide) ?_
            refine mr_iload_n (pc' := 71) dX11_owed_70 rfl rfl ?_
            refine mr_imul (pc' := 72) dX11_owed_71 rfl ?_
            refine mr_iadd (pc' := 73) dX11_owed_72 rfl ?_
            refine mr_iconst (pc' := 74) (v := (1 : Int32)) dX11_owed_73 rfl (by decide) ?_
            refine mr_iadd (pc' := 75) dX11_owed_74 rfl ?_
            obtain ⟨a21, g22, h23⟩ := Option.bind_eq_some_iff.mp h19
            refine mr_iald (pc' := 76) dX11_owed_75 rfl rfl rfl g22 ?_
            refine mr_i2l (pc' := 77) dX11_owed_76 rfl ?_
            refine mr_lmul (pc' := 78) dX11_owed_77 rfl ?_
            refine mr_lstore (pc' := 80) (lv' := [(6, .long ((24000 : Int64) * (Int32.toInt64 a21))), (0, .ref 145), (1, .int v1), (2, .int v2), (3, .int v3), (4, .int v4), (5, .int v5)]) dX11_owed_78 rfl (by decide) rfl ?_
            refine mr_iload_n (pc' := 81) dX11_owed_80 rfl rfl ?_
            refine mr_i2l (pc' := 82) dX11_owed_81 rfl ?_
            refine mr_lload (pc' := 84) dX11_owed_82 rfl rfl ?_
            refine mr_lmul (pc' := 85) dX11_owed_84 rfl ?_
            refine mr_iload_n (pc' := 86) dX11_owed_85 rfl rfl ?_
            refine mr_i2l (pc' := 87) dX11_owed_86 rfl ?_
            refine mr_iload_n (pc' := 88) dX11_owed_87 rfl rfl ?_
            refine mr_i2l (pc' := 89) dX11_owed_88 rfl ?_
            refine mr_lmul (pc' := 90) dX11_owed_89 rfl ?_
            refine mr_iload (pc' := 92) dX11_owed_90 rfl rfl ?_
            refine mr_i2l (pc' := 93) dX11_owed_92 rfl ?_
            refine mr_lmul (pc' := 94) dX11_owed_93 rfl ?_
            refine mr_aload_n (pc' := 95) dX11_owed_94 rfl rfl ?_
            refine mr_getR (pc' := 98) (ci := 11) (j := 25) (b := 157) hR dX11_owed_95 rfl rfl rfl (by decide) (by decide) (by decide) rfl rfl ?_
            refine mr_bipush (pc' := 100) (v := (10 : Int32)) dX11_owed_98 rfl (by decide) ?_
            refine mr_iconst (pc' := 101) (v := (2 : Int32)) dX11_owed_100 rfl (by decide) ?_
            refine mr_iload_n (pc' := 102) dX11_owed_101 rfl rfl ?_
            refine mr_imul (pc' := 103) dX11_owed_102 rfl ?_
            refine mr_iadd (pc' := 104) dX11_owed_103 rfl ?_
            obtain ⟨a24, g25, h26⟩ := Option.bind_eq_some_iff.mp h23
            refine mr_iald (pc' := 105) dX11_owed_104 rfl rfl rfl g25 ?_
            refine mr_i2l (pc' := 106) dX11_owed_105 rfl ?_
            refine mr_lmul (pc' := 107) dX11_owed_106 rfl ?_
            refine mr_ladd (pc' := 108) dX11_owed_107 rfl ?_
            refine mr_lload (pc' := 110) dX11_owed_108 rfl rfl ?_
            refine mr_iload (pc' := 112) dX11_owed_110 rfl rfl ?_
            obtain ⟨q27, g28, h29⟩ := Option.bind_eq_some_iff.mp h26
            refine mr_cs (pc' := 115) (d1 := 1) dX11_owed_112 rfl rfl rfl rfl (by decide) (Nat.le_of_ble_eq_true rfl) rfl rfl rfl (by decide) (ok_X11_lowest hR  g28) ?_
            show mr X _ _ 115 _ [.long q27] (MM RR S) _
            obtain rfl := Option.some.inj h29
            exact mr_lreturn dX11_owed_115 rfl
def f_X11_hands (v1 : Int32) (v2 : Int32) (v3 : Int32) (v4 : Int32) (S : fS) : Option (Int32) :=
  (f_X11_isFloor v1 S).bind fun q1 =>
  if q1 = (0 : Int32) then (some (-1 : Int32)) else
  ((f_X11_isFloor v2 S).bind fun q5 =>
  if q5 = (0 : Int32) then (some (-1 : Int32)) else
  ((f_X11_in (Int32.toInt64 v3) (1 : Int64) (9999 : Int64) S).bind fun q9 =>
  if q9 = (0 : Int32) then (some (-1 : Int32)) else
  ((f_X11_in (Int32.toInt64 v4) (1 : Int64) (9999 : Int64) S).bind fun q13 =>
  if q13 = (0 : Int32) then (some (-1 : Int32)) else
  ((gI S 157 158 ((10 : Int32) + ((2 : Int32) * v2))).bind fun a17 =>
  (gI S 157 158 (((10 : Int32) + ((2 : Int32) * v1)) + (1 : Int32))).bind fun a20 =>
  (gI S 157 158 (((10 : Int32) + ((2 : Int32) * v2)) + (1 : Int32))).bind fun a23 =>
  (gI S 157 158 ((10 : Int32) + ((2 : Int32) * v1))).bind fun a26 =>
  (dL (((((Int32.toInt64 v3) * (Int32.toInt64 a17)) * (Int32.toInt64 a20)) + (((Int32.toInt64 v4) * (Int32.toInt64 a23)) * (Int32.toInt64 a26))) - (1 : Int64)) (((Int32.toInt64 v4) * (Int32.toInt64 a23)) * (Int32.toInt64 a26))).bind fun a29 =>
  some (Int64.toInt32 a29)))))
set_option maxHeartbeats 4000000 in
set_option maxRecDepth 100000 in
theorem ok_X11_hands {X : mm_C} {RR : Nat → Nat → Option Nat} (hR : RRok RR) {v1 : Int32} {v2 : Int32} {v3 : Int32} {v4 : Int32}  {S : fS} {r : Int32} (h : f_X11_hands v1 v2 v3 v4 S = some r) : mr X 1 mY_X11_hands 0 (lv_args 0 [.ref 145, .int v1, .int v2, .int v3, .int v4]) [] (MM RR S) (some (.int r), MM RR S) := by
  unfold f_X11_hands at h
  show mr X _ _ 0 [(0, .ref 145), (1, .int v1), (2, .int v2), (3, .int v3), (4, .int v4)] [] (MM RR S) _
  refine mr_aload_n (pc' := 1) dX11_hands_0 rfl rfl ?_
  refine mr_iload_n (pc' := 2) dX11_hands_1 rfl rfl ?_
  obtain ⟨q1, g2, h3⟩ := Option.bind_eq_some_iff.mp h
  refine mr_cv (pc' := 5) (a := 145) (d1 := 0) dX11_hands_2 rfl rfl rfl rfl rfl rfl (by decide) rfl (by decide) (ok_X11_isFloor hR  g2) ?_
  show mr X _ _ 5 _ [.int q1] (MM RR S) _
  by_cases c4 : q1 = (0 : Int32)
  · rw [if_pos c4] at h3
    refine mr_if_eq_t (t := 41) dX11_hands_5 (by decide) c4 ?_
    refine mr_iconst (pc' := 42) (v := (-1 : Int32)) dX11_hands_41 rfl (by decide) ?_
    obtain rfl := Option.some.inj h3
    exact mr_ireturn dX11_hands_42 rfl
  · rw [if_neg c4] at h3
    refine mr_if_eq_f (t := 41) (pc' := 8) dX11_hands_5 (by decide) rfl c4 ?_
    refine mr_aload_n (pc' := 9) dX11_hands_8 rfl rfl ?_
    refine mr_iload_n (pc' := 10) dX11_hands_9 rfl rfl ?_
    obtain ⟨q5, g6, h7⟩ := Option.bind_eq_some_iff.mp h3
    refine mr_cv (pc' := 13) (a := 145) (d1 := 0) dX11_hands_10 rfl rfl rfl rfl rfl rfl (by decide) rfl (by decide) (ok_X11_isFloor hR  g6) ?_
    show mr X _ _ 13 _ [.int q5] (MM RR S) _
    by_cases c8 : q5 = (0 : Int32)
    · rw [if_pos c8] at h7
      refine mr_if_eq_t (t := 41) dX11_hands_13 (by decide) c8 ?_
      refine mr_iconst (pc' := 42) (v := (-1 : Int32)) dX11_hands_41 rfl (by decide) ?_
      obtain rfl := Option.some.inj h7
      exact mr_ireturn dX11_hands_42 rfl
    · rw [if_neg c8] at h7
      refine mr_if_eq_f (t := 41) (pc' := 16) dX11_hands_13 (by decide) rfl c8 ?_
      refine mr_iload_n (pc' := 17) dX11_hands_16 rfl rfl ?_
      refine mr_i2l (pc' := 18) dX11_hands_17 rfl ?_
      refine mr_lconst (pc' := 19) (v := (1 : Int64)) dX11_hands_18 rfl (by decide) ?_
      refine mr_ldc2 (pc' := 22) (v := (9999 : Int64)) dX11_hands_19 rfl rfl ?_
      obtain ⟨q9, g10, h11⟩ := Option.bind_eq_some_iff.mp h7
      refine mr_cs (pc' := 25) (d1 := 0) dX11_hands_22 rfl rfl rfl rfl (by decide) (Nat.le_of_ble_eq_true rfl) rfl rfl rfl (by decide) (ok_X11_in hR  g10) ?_
      show mr X _ _ 25 _ [.int q9] (MM RR S) _
      by_cases c12 : q9 = (0 : Int32)
      · rw [if_pos c12] at h11
        refine mr_if_eq_t (t := 41) dX11_hands_25 (by decide) c12 ?_
        refine mr_iconst (pc' := 42) (v := (-1 : Int32)) dX11_hands_41 rfl (by decide) ?_
        obtain rfl := Option.some.inj h11
        exact mr_ireturn dX11_hands_42 rfl
      · rw [if_neg c12] at h11
        refine mr_if_eq_f (t := 41) (pc' := 28) dX11_hands_25 (by decide) rfl c12 ?_
        refine mr_iload (pc' := 30) dX11_hands_28 rfl rfl ?_
        refine mr_i2l (pc' := 31) dX11_hands_30 rfl ?_
        refine mr_lconst (pc' := 32) (v := (1 : Int64)) dX11_hands_31 rfl (by decide) ?_
        refine mr_ldc2 (pc' := 35) (v := (9999 : Int64)) dX11_hands_32 rfl rfl ?_
        obtain ⟨q13, g14, h15⟩ := Option.bind_eq_some_iff.mp h11
        refine mr_cs (pc' := 38) (d1 := 0) dX11_hands_35 rfl rfl rfl rfl (by decide) (Nat.le_of_ble_eq_true rfl) rfl rfl rfl (by decide) (ok_X11_in hR  g14) ?_
        show mr X _ _ 38 _ [.int q13] (MM RR S) _
        by_cases c16 : q13 = (0 : Int32)
        · rw [if_pos c16] at h15
          refine mr_if_ne_f (t := 43) (pc' := 41) dX11_hands_38 (by decide) rfl (not_not_intro c16) ?_
          refine mr_iconst (pc' := 42) (v := (-1 : Int32)) dX11_hands_41 rfl (by decide) ?_
          obtain rfl := Option.some.inj h15
          exact mr_ireturn dX11_hands_42 rfl
        · rw [if_neg c16] at h15
          refine mr_if_ne_t (t := 43) dX11_hands_38 (by decide) c16 ?_
          refine mr_iload_n (pc' := 44) dX11_hands_43 rfl rfl ?_
          refine mr_i2l (pc' := 45) dX11_hands_44 rfl ?_
          refine mr_aload_n (pc' := 46) dX11_hands_45 rfl rfl ?_
          refine mr_getR (pc' := 49) (ci := 11) (j := 25) (b := 157) hR dX11_hands_46 rfl rfl rfl (by decide) (by decide) (by decide) rfl rfl ?_
          refine mr_bipush (pc' := 51) (v := (10 : Int32)) dX11_hands_49 rfl (by decide) ?_
          refine mr_iconst (pc' := 52) (v := (2 : Int32)) dX11_hands_51 rfl (by decide) ?_
          refine mr_iload_n (pc' := 53) dX11_hands_52 rfl rfl ?_
          refine mr_imul (pc' := 54) dX11_hands_53 rfl ?_
          refine mr_iadd (pc' := 55) dX11_hands_54 rfl ?_
          obtain ⟨a17, g18, h19⟩ := Option.bind_eq_some_iff.mp h15
          refine mr_iald (pc' := 56) dX11_hands_55 rfl rfl rfl g18 ?_
          refine mr_i2l (pc' := 57) dX11_hands_56 rfl ?_
          refine mr_lmul (pc' := 58) dX11_hands_57 rfl ?_
          refine mr_aload_n (pc' := 59) dX11_hands_58 rfl rfl ?_
          refine mr_getR (pc' := 62) (ci := 11) (j := 25) (b := 157) hR dX11_hands_59 rfl rfl rfl (by decide) (by decide) (by decide) rfl rfl ?_
          refine mr_bipush (pc' := 64) (v := (10 : Int32)) dX11_hands_62 rfl (by decide) ?_
          refine mr_iconst (pc' := 65) (v := (2 : Int32)) dX11_hands_64 rfl (by decide) ?_
          refine mr_iload_n (pc' := 66) dX11_hands_65 rfl rfl ?_
          refine mr_imul (pc' := 67) dX11_hands_66 rfl ?_
          refine mr_iadd (pc' := 68) dX11_hands_67 rfl ?_
          refine mr_iconst (pc' := 69) (v := (1 : Int32)) dX11_hands_68 rfl (by decide) ?_
          refine mr_iadd (pc' := 70) dX11_hands_69 rfl ?_
          obtain ⟨a20, g21, h22⟩ := Option.bind_eq_some_iff.mp h19
          refine mr_iald (pc' := 71) dX11_hands_70 rfl rfl rfl g21 ?_
          refine mr_i2l (pc' := 72) dX11_hands_71 rfl ?_
          refine mr_lmul (pc' := 73) dX11_hands_72 rfl ?_
          refine mr_lstore (pc' := 75) (lv' := [(5, .long (((Int32.toInt64 v3) * (Int32.toInt64 a17)) * (Int32.toInt64 a20))), (0, .ref 145), (1, .int v1), (2, .int v2), (3, .int v3), (4, .int v4)]) dX11_hands_73 rfl (by decide) rfl ?_
          refine mr_iload (pc' := 77) dX11_hands_75 rfl rfl ?_
          refine mr_i2l (pc' := 78) dX11_hands_77 rfl ?_
          refine mr_aload_n (pc' := 79) dX11_hands_78 rfl rfl ?_
          refine mr_getR (pc' := 82) (ci := 11) (j := 25) (b := 157) hR dX11_hands_79 rfl rfl rfl (by decide) (by decide) (by decide) rfl rfl ?_
          refine mr_bipush (pc' := 84) (v := (10 : Int32)) dX11_hands_82 rfl (by decide) ?_
          refine mr_iconst (pc' := 85) (v := (2 : Int32)) dX11_hands_84 rfl (by decide) ?_
          refine mr_iload_n (pc' := 86) dX11_hands_85 rfl rfl ?_
          refine mr_imul (pc' := 87) dX11_hands_86 rfl ?_
          refine mr_iadd (pc' := 88) dX11_hands_87 rfl ?_
          refine mr_iconst (pc' := 89) (v := (1 : Int32)) dX11_hands_88 rfl (by decide) ?_
          refine mr_iadd (pc' := 90) dX11_hands_89 rfl ?_
          obtain ⟨a23, g24, h25⟩ := Option.bind_eq_some_iff.mp h22
          refine mr_iald (pc' := 91) dX11_hands_90 rfl rfl rfl g24 ?_
          refine mr_i2l (pc' := 92) dX11_hands_91 rfl ?_
          refine mr_lmul (pc' := 93) dX11_hands_92 rfl ?_
          refine mr_aload_n (pc' := 94) dX11_hands_93 rfl rfl ?_
          refine mr_getR (pc' := 97) (ci := 11) (j := 25) (b := 157) hR dX11_hands_94 rfl rfl rfl (by decide) (by decide) (by decide) rfl rfl ?_
          refine mr_bipush (pc' := 99) (v := (10 : Int32)) dX11_hands_97 rfl (by decide) ?_
          refine mr_iconst (pc' := 100) (v := (2 : Int32)) dX11_hands_99 rfl (by decide) ?_
          refine mr_iload_n (pc' := 101) dX11_hands_100 rfl rfl ?_
          refine mr_imul (pc' := 102) dX11_hands_101 rfl ?_
          refine mr_iadd (pc' := 103) dX11_hands_102 rfl ?_
          obtain ⟨a26, g27, h28⟩ := Option.bind_eq_some_iff.mp h25
          refine mr_iald (pc' := 104) dX11_hands_103 rfl rfl rfl g27 ?_
          refine mr_i2l (pc' := 105) dX11_hands_104 rfl ?_
          refine mr_lmul (pc' := 106) dX11_hands_105 rfl ?_
          refine mr_lstore (pc' := 108) (lv' := [(7, .long (((Int32.toInt64 v4) * (Int32.toInt64 a23)) * (Int32.toInt64 a26))), (5, .long (((Int32.toInt64 v3) * (Int32.toInt64 a17)) * (Int32.toInt64 a20))), (0, .ref 145), (1, .int v1), (2, .int v2), (3, .int v3), (4, .int v4)]) dX11_hands_106 rfl (by decide) rfl ?_
          refine mr_lload (pc' := 110) dX11_hands_108 rfl rfl ?_
          refine mr_lload (pc' := 112) dX11_hands_110 rfl rfl ?_
          refine mr_ladd (pc' := 113) dX11_hands_112 rfl ?_
          refine mr_lconst (pc' := 114) (v := (1 : Int64)) dX11_hands_113 rfl (by decide) ?_
          refine mr_lsub (pc' := 115) dX11_hands_114 rfl ?_
          refine mr_lload (pc' := 117) dX11_hands_115 rfl rfl ?_
          obtain ⟨a29, g30, h31⟩ := Option.bind_eq_some_iff.mp h28
          refine mr_ldiv (pc' := 118) dX11_hands_117 rfl g30 ?_
          refine mr_l2i (pc' := 119) dX11_hands_118 rfl ?_
          obtain rfl := Option.some.inj h31
          exact mr_ireturn dX11_hands_119 rfl
def f_X11_letter (v1 : Int32) (v2 : Int32) (v3 : Int32) (S : fS) : Option (Int32 × fS) :=
  if v1 = (-1 : Int32) then ((sI S 157 158 (4 : Int32) (0 : Int32)).bind fun S43 =>
  some ((0 : Int32), S43)) else
  ((gI S 157 158 (4 : Int32)).bind fun a2 =>
  if a2 = (12 : Int32) then (some ((-2 : Int32), S)) else
  ((f_X11_isFloor v1 S).bind fun q6 =>
  if q6 = (0 : Int32) then (some ((-2 : Int32), S)) else
  ((f_X11_isFloor v2 S).bind fun q10 =>
  if q10 = (0 : Int32) then (some ((-2 : Int32), S)) else
  ((f_X11_in (Int32.toInt64 v3) (0 : Int64) (9999 : Int64) S).bind fun q14 =>
  if q14 = (0 : Int32) then (some ((-2 : Int32), S)) else
  ((f_X11_between v1 v2 S).bind fun q18 =>
  if q18 < (99999 : Int64) then ((gI S 157 158 (4 : Int32)).bind fun a22 =>
  (sI S 157 158 ((122 : Int32) + ((3 : Int32) * a22)) v1).bind fun S25 =>
  (sI S25 157 158 (((122 : Int32) + ((3 : Int32) * a22)) + (1 : Int32)) v2).bind fun S28 =>
  (sI S28 157 158 (((122 : Int32) + ((3 : Int32) * a22)) + (2 : Int32)) v3).bind fun S31 =>
  (gI S31 157 158 (4 : Int32)).bind fun a34 =>
  (sI S31 157 158 (4 : Int32) (a34 + (1 : Int32))).bind fun S37 =>
  (gI S37 157 158 (4 : Int32)).bind fun a40 =>
  some (a40, S37)) else
  (some ((-2 : Int32), S)))))))
set_option maxHeartbeats 4000000 in
set_option maxRecDepth 100000 in
theorem ok_X11_letter {X : mm_C} {RR : Nat → Nat → Option Nat} (hR : RRok RR) {v1 : Int32} {v2 : Int32} {v3 : Int32}  {S : fS} {r : Int32 × fS} (h : f_X11_letter v1 v2 v3 S = some r) : mr X 1 mY_X11_letter 0 (lv_args 0 [.ref 145, .int v1, .int v2, .int v3]) [] (MM RR S) (some (.int r.1), MM RR r.2) := by
  unfold f_X11_letter at h
  show mr X _ _ 0 [(0, .ref 145), (1, .int v1), (2, .int v2), (3, .int v3)] [] (MM RR S) _
  refine mr_iload_n (pc' := 1) dX11_letter_0 rfl rfl ?_
  refine mr_iconst (pc' := 2) (v := (-1 : Int32)) dX11_letter_1 rfl (by decide) ?_
  by_cases c1 : v1 = (-1 : Int32)
  · rw [if_pos c1] at h
    refine mr_icmp_ne_f (t := 14) (pc' := 5) dX11_letter_2 (by decide) rfl (not_not_intro c1) ?_
    refine mr_aload_n (pc' := 6) dX11_letter_5 rfl rfl ?_
    refine mr_getR (pc' := 9) (ci := 11) (j := 25) (b := 157) hR dX11_letter_6 rfl rfl rfl (by decide) (by decide) (by decide) rfl rfl ?_
    refine mr_iconst (pc' := 10) (v := (4 : Int32)) dX11_letter_9 rfl (by decide) ?_
    refine mr_iconst (pc' := 11) (v := (0 : Int32)) dX11_letter_10 rfl (by decide) ?_
    obtain ⟨S43, g44, h45⟩ := Option.bind_eq_some_iff.mp h
    refine mr_iast (pc' := 12) dX11_letter_11 rfl rfl rfl g44 ?_
    refine mr_iconst (pc' := 13) (v := (0 : Int32)) dX11_letter_12 rfl (by decide) ?_
    obtain rfl := Option.some.inj h45
    exact mr_ireturn dX11_letter_13 rfl
  · rw [if_neg c1] at h
    refine mr_icmp_ne_t (t := 14) dX11_letter_2 (by decide) c1 ?_
    refine mr_aload_n (pc' := 15) dX11_letter_14 rfl rfl ?_
    refine mr_getR (pc' := 18) (ci := 11) (j := 25) (b := 157) hR dX11_letter_15 rfl rfl rfl (by decide) (by decide) (by decide) rfl rfl ?_
    refine mr_iconst (pc' := 19) (v := (4 : Int32)) dX11_letter_18 rfl (by decide) ?_
    obtain ⟨a2, g3, h4⟩ := Option.bind_eq_some_iff.mp h
    refine mr_iald (pc' := 20) dX11_letter_19 rfl rfl rfl g3 ?_
    refine mr_bipush (pc' := 22) (v := (12 : Int32)) dX11_letter_20 rfl (by decide) ?_
    by_cases c5 : a2 = (12 : Int32)
    · rw [if_pos c5] at h4
      refine mr_icmp_eq_t (t := 66) dX11_letter_22 (by decide) c5 ?_
      refine mr_bipush (pc' := 68) (v := (-2 : Int32)) dX11_letter_66 rfl (by decide) ?_
      obtain rfl := Option.some.inj h4
      exact mr_ireturn dX11_letter_68 rfl
    · rw [if_neg c5] at h4
      refine mr_icmp_eq_f (t := 66) (pc' := 25) dX11_letter_22 (by decide) rfl c5 ?_
      refine mr_aload_n (pc' := 26) dX11_letter_25 rfl rfl ?_
      refine mr_iload_n (pc' := 27) dX11_letter_26 rfl rfl ?_
      obtain ⟨q6, g7, h8⟩ := Option.bind_eq_some_iff.mp h4
      refine mr_cv (pc' := 30) (a := 145) (d1 := 0) dX11_letter_27 rfl rfl rfl rfl rfl rfl (by decide) rfl (by decide) (ok_X11_isFloor hR  g7) ?_
      show mr X _ _ 30 _ [.int q6] (MM RR S) _
      by_cases c9 : q6 = (0 : Int32)
      · rw [if_pos c9] at h8
        refine mr_if_eq_t (t := 66) dX11_letter_30 (by decide) c9 ?_
        refine mr_bipush (pc' := 68) (v := (-2 : Int32)) dX11_letter_66 rfl (by decide) ?_
        obtain rfl := Option.some.inj h8
        exact mr_ireturn dX11_letter_68 rfl
      · rw [if_neg c9] at h8
        refine mr_if_eq_f (t := 66) (pc' := 33) dX11_letter_30 (by decide) rfl c9 ?_
        refine mr_aload_n (pc' := 34) dX11_letter_33 rfl rfl ?_
        refine mr_iload_n (pc' := 35) dX11_letter_34 rfl rfl ?_
        obtain ⟨q10, g11, h12⟩ := Option.bind_eq_some_iff.mp h8
        refine mr_cv (pc' := 38) (a := 145) (d1 := 0) dX11_letter_35 rfl rfl rfl rfl rfl rfl (by decide) rfl (by decide) (ok_X11_isFloor hR  g11) ?_
        show mr X _ _ 38 _ [.int q10] (MM RR S) _
        by_cases c13 : q10 = (0 : Int32)
        · rw [if_pos c13] at h12
          refine mr_if_eq_t (t := 66) dX11_letter_38 (by decide) c13 ?_
          refine mr_bipush (pc' := 68) (v := (-2 : Int32)) dX11_letter_66 rfl (by decide) ?_
          obtain rfl := Option.some.inj h12
          exact mr_ireturn dX11_letter_68 rfl
        · rw [if_neg c13] at h12
          refine mr_if_eq_f (t := 66) (pc' := 41) dX11_letter_38 (by decide) rfl c13 ?_
          refine mr_iload_n (pc' := 42) dX11_letter_41 rfl rfl ?_
          refine mr_i2l (pc' := 43) dX11_letter_42 rfl ?_
          refine mr_lconst (pc' := 44) (v := (0 : Int64)) dX11_letter_43 rfl (by decide) ?_
          refine mr_ldc2 (pc' := 47) (v := (9999 : Int64)) dX11_letter_44 rfl rfl ?_
          obtain ⟨q14, g15, h16⟩ := Option.bind_eq_some_iff.mp h12
          refine mr_cs (pc' := 50) (d1 := 0) dX11_letter_47 rfl rfl rfl rfl (by decide) (Nat.le_of_ble_eq_true rfl) rfl rfl rfl (by decide) (ok_X11_in hR  g15) ?_
          show mr X _ _ 50 _ [.int q14] (MM RR S) _
          by_cases c17 : q14 = (0 : Int32)
          · rw [if_pos c17] at h16
            refine mr_if_eq_t (t := 66) dX11_letter_50 (by decide) c17 ?_
            refine mr_bipush (pc' := 68) (v := (-2 : Int32)) dX11_letter_66 rfl (by decide) ?_
            obtain rfl := Option.some.inj h16
            exact mr_ireturn dX11_letter_68 rfl
          · rw [if_neg c17] at h16
            refine mr_if_eq_f (t := 66) (pc' := 53) dX11_letter_50 (by decide) rfl c17 ?_
            refine mr_aload_n (pc' := 54) dX11_letter_53 rfl rfl ?_
            refine mr_iload_n (pc' := 55) dX11_letter_54 rfl rfl ?_
            refine mr_iload_n (pc' := 56) dX11_letter_55 rfl rfl ?_
            obtain ⟨q18, g19, h20⟩ := Option.bind_eq_some_iff.mp h16
            refine mr_cv (pc' := 59) (a := 145) (d1 := 0) dX11_letter_56 rfl rfl rfl rfl rfl rfl (by decide) rfl (by decide) (ok_X11_between hR  g19) ?_
            show mr X _ _ 59 _ [.long q18] (MM RR S) _
            refine mr_ldc2 (pc' := 62) (v := (99999 : Int64)) dX11_letter_59 rfl rfl ?_
            by_cases c21 : q18 < (99999 : Int64)
            · rw [if_pos c21] at h20
              refine mr_lcmp_lt_t (t := 69) dX11_letter_62 rfl dX11_letter_63 (by decide) c21 ?_
              refine mr_bipush (pc' := 71) (v := (122 : Int32)) dX11_letter_69 rfl (by decide) ?_
              refine mr_iconst (pc' := 72) (v := (3 : Int32)) dX11_letter_71 rfl (by decide) ?_
              refine mr_aload_n (pc' := 73) dX11_letter_72 rfl rfl ?_
              refine mr_getR (pc' := 76) (ci := 11) (j := 25) (b := 157) hR dX11_letter_73 rfl rfl rfl (by decide) (by decide) (by decide) rfl rfl ?_
              refine mr_iconst (pc' := 77) (v := (4 : Int32)) dX11_letter_76 rfl (by decide) ?_
              obtain ⟨a22, g23, h24⟩ := Option.bind_eq_some_iff.mp h20
              refine mr_iald (pc' := 78) dX11_letter_77 rfl rfl rfl g23 ?_
              refine mr_imul (pc' := 79) dX11_letter_78 rfl ?_
              refine mr_iadd (pc' := 80) dX11_letter_79 rfl ?_
              refine mr_istore (pc' := 82) (lv' := [(4, .int ((122 : Int32) + ((3 : Int32) * a22))), (0, .ref 145), (1, .int v1), (2, .int v2), (3, .int v3)]) dX11_letter_80 rfl (by decide) rfl ?_
              refine mr_aload_n (pc' := 83) dX11_letter_82 rfl rfl ?_
              refine mr_getR (pc' := 86) (ci := 11) (j := 25) (b := 157) hR dX11_letter_83 rfl rfl rfl (by decide) (by decide) (by decide) rfl rfl ?_
              refine mr_iload (pc' := 88) dX11_letter_86 rfl rfl ?_
              refine mr_iload_n (pc' := 89) dX11_letter_88 rfl rfl ?_
              obtain ⟨S25, g26, h27⟩ := Option.bind_eq_some_iff.mp h24
              refine mr_iast (pc' := 90) dX11_letter_89 rfl rfl rfl g26 ?_
              refine mr_aload_n (pc' := 91) dX11_letter_90 rfl rfl ?_
              refine mr_getR (pc' := 94) (ci := 11) (j := 25) (b := 157) hR dX11_letter_91 rfl rfl rfl (by decide) (by decide) (by decide) rfl rfl ?_
              refine mr_iload (pc' := 96) dX11_letter_94 rfl rfl ?_
              refine mr_iconst (pc' := 97) (v := (1 : Int32)) dX11_letter_96 rfl (by decide) ?_
              refine mr_iadd (pc' := 98) dX11_letter_97 rfl ?_
              refine mr_iload_n (pc' := 99) dX11_letter_98 rfl rfl ?_
              obtain ⟨S28, g29, h30⟩ := Option.bind_eq_some_iff.mp h27
              refine mr_iast (pc' := 100) dX11_letter_99 rfl rfl rfl g29 ?_
              refine mr_aload_n (pc' := 101) dX11_letter_100 rfl rfl ?_
              refine mr_getR (pc' := 104) (ci := 11) (j := 25) (b := 157) hR dX11_letter_101 rfl rfl rfl (by decide) (by decide) (by decide) rfl rfl ?_
              refine mr_iload (pc' := 106) dX11_letter_104 rfl rfl ?_
              refine mr_iconst (pc' := 107) (v := (2 : Int32)) dX11_letter_106 rfl (by decide) ?_
              refine mr_iadd (pc' := 108) dX11_letter_107 rfl ?_
              refine mr_iload_n (pc' := 109) dX11_letter_108 rfl rfl ?_
              obtain ⟨S31, g32, h33⟩ := Option.bind_eq_some_iff.mp h30
              refine mr_iast (pc' := 110) dX11_letter_109 rfl rfl rfl g32 ?_
              refine mr_aload_n (pc' := 111) dX11_letter_110 rfl rfl ?_
              refine mr_getR (pc' := 114) (ci := 11) (j := 25) (b := 157) hR dX11_letter_111 rfl rfl rfl (by decide) (by decide) (by decide) rfl rfl ?_
              refine mr_iconst (pc' := 115) (v := (4 : Int32)) dX11_letter_114 rfl (by decide) ?_
              refine mr_dup2 (pc' := 116) dX11_letter_115 rfl ?_
              obtain ⟨a34, g35, h36⟩ := Option.bind_eq_some_iff.mp h33
              refine mr_iald (pc' := 117) dX11_letter_116 rfl rfl rfl g35 ?_
              refine mr_iconst (pc' := 118) (v := (1 : Int32)) dX11_letter_117 rfl (by decide) ?_
              refine mr_iadd (pc' := 119) dX11_letter_118 rfl ?_
              obtain ⟨S37, g38, h39⟩ := Option.bind_eq_some_iff.mp h36
              refine mr_iast (pc' := 120) dX11_letter_119 rfl rfl rfl g38 ?_
              refine mr_aload_n (pc' := 121) dX11_letter_120 rfl rfl ?_
              refine mr_getR (pc' := 124) (ci := 11) (j := 25) (b := 157) hR dX11_letter_121 rfl rfl rfl (by decide) (by decide) (by decide) rfl rfl ?_
              refine mr_iconst (pc' := 125) (v := (4 : Int32)) dX11_letter_124 rfl (by decide) ?_
              obtain ⟨a40, g41, h42⟩ := Option.bind_eq_some_iff.mp h39
              refine mr_iald (pc' := 126) dX11_letter_125 rfl rfl rfl g41 ?_
              obtain rfl := Option.some.inj h42
              exact mr_ireturn dX11_letter_126 rfl
            · rw [if_neg c21] at h20
              refine mr_lcmp_lt_f (t := 69) (pc' := 66) dX11_letter_62 rfl dX11_letter_63 (by decide) rfl c21 ?_
              refine mr_bipush (pc' := 68) (v := (-2 : Int32)) dX11_letter_66 rfl (by decide) ?_
              obtain rfl := Option.some.inj h20
              exact mr_ireturn dX11_letter_68 rfl
def f_X11_letterOf (v1 : Int32) (v2 : Int32) (S : fS) : Option (Int32) :=
  (gI S 157 158 (((122 : Int32) + ((3 : Int32) * v1)) + v2)).bind fun a1 =>
  some a1
set_option maxHeartbeats 4000000 in
set_option maxRecDepth 100000 in
theorem ok_X11_letterOf {X : mm_C} {RR : Nat → Nat → Option Nat} (hR : RRok RR) {v1 : Int32} {v2 : Int32}  {S : fS} {r : Int32} (h : f_X11_letterOf v1 v2 S = some r) : mr X 0 mY_X11_letterOf 0 (lv_args 0 [.ref 145, .int v1, .int v2]) [] (MM RR S) (some (.int r), MM RR S) := by
  unfold f_X11_letterOf at h
  show mr X _ _ 0 [(0, .ref 145), (1, .int v1), (2, .int v2)] [] (MM RR S) _
  refine mr_aload_n (pc' := 1) dX11_letterOf_0 rfl rfl ?_
  refine mr_getR (pc' := 4) (ci := 11) (j := 25) (b := 157) hR dX11_letterOf_1 rfl rfl rfl (by decide) (by decide) (by decide) rfl rfl ?_
  refine mr_bipush (pc' := 6) (v := (122 : Int32)) dX11_letterOf_4 rfl (by decide) ?_
  refine mr_iconst (pc' := 7) (v := (3 : Int32)) dX11_letterOf_6 rfl (by decide) ?_
  refine mr_iload_n (pc' := 8) dX11_letterOf_7 rfl rfl ?_
  refine mr_imul (pc' := 9) dX11_letterOf_8 rfl ?_
  refine mr_iadd (pc' := 10) dX11_letterOf_9 rfl ?_
  refine mr_iload_n (pc' := 11) dX11_letterOf_10 rfl rfl ?_
  refine mr_iadd (pc' := 12) dX11_letterOf_11 rfl ?_
  obtain ⟨a1, g2, h3⟩ := Option.bind_eq_some_iff.mp h
  refine mr_iald (pc' := 13) dX11_letterOf_12 rfl rfl rfl g2 ?_
  obtain rfl := Option.some.inj h3
  exact mr_ireturn dX11_letterOf_13 rfl
def f_X11_comesAt (v1 : Int32) (S : fS) : Option (Int32) :=
  (f_X11_letterOf v1 (2 : Int32) S).bind fun q1 =>
  (f_X11_letterOf v1 (0 : Int32) S).bind fun q4 =>
  (f_X11_letterOf v1 (1 : Int32) S).bind fun q7 =>
  (f_X11_between q4 q7 S).bind fun q10 =>
  some (q1 + (Int64.toInt32 q10))
set_option maxHeartbeats 4000000 in
set_option maxRecDepth 100000 in
theorem ok_X11_comesAt {X : mm_C} {RR : Nat → Nat → Option Nat} (hR : RRok RR) {v1 : Int32}  {S : fS} {r : Int32} (h : f_X11_comesAt v1 S = some r) : mr X 1 mY_X11_comesAt 0 (lv_args 0 [.ref 145, .int v1]) [] (MM RR S) (some (.int r), MM RR S) := by
  unfold f_X11_comesAt at h
  show mr X _ _ 0 [(0, .ref 145), (1, .int v1)] [] (MM RR S) _
  refine mr_aload_n (pc' := 1) dX11_comesAt_0 rfl rfl ?_
  refine mr_iload_n (pc' := 2) dX11_comesAt_1 rfl rfl ?_
  refine mr_iconst (pc' := 3) (v := (2 : Int32)) dX11_comesAt_2 rfl (by decide) ?_
  obtain ⟨q1, g2, h3⟩ := Option.bind_eq_some_iff.mp h
  refine mr_cv (pc' := 6) (a := 145) (d1 := 0) dX11_comesAt_3 rfl rfl rfl rfl rfl rfl (by decide) rfl (by decide) (ok_X11_letterOf hR  g2) ?_
  show mr X _ _ 6 _ [.int q1] (MM RR S) _
  refine mr_aload_n (pc' := 7) dX11_comesAt_6 rfl rfl ?_
  refine mr_aload_n (pc' := 8) dX11_comesAt_7 rfl rfl ?_
  refine mr_iload_n (pc' := 9) dX11_comesAt_8 rfl rfl ?_
  refine mr_iconst (pc' := 10) (v := (0 : Int32)) dX11_comesAt_9 rfl (by decide) ?_
  obtain ⟨q4, g5, h6⟩ := Option.bind_eq_some_iff.mp h3
  refine mr_cv (pc' := 13) (a := 145) (d1 := 0) dX11_comesAt_10 rfl rfl rfl rfl rfl rfl (by decide) rfl (by decide) (ok_X11_letterOf hR  g5) ?_
  show mr X _ _ 13 _ [.int q4, .ref 145, .int q1] (MM RR S) _
  refine mr_aload_n (pc' := 14) dX11_comesAt_13 rfl rfl ?_
  refine mr_iload_n (pc' := 15) dX11_comesAt_14 rfl rfl ?_
  refine mr_iconst (pc' := 16) (v := (1 : Int32)) dX11_comesAt_15 rfl (by decide) ?_
  obtain ⟨q7, g8, h9⟩ := Option.bind_eq_some_iff.mp h6
  refine mr_cv (pc' := 19) (a := 145) (d1 := 0) dX11_comesAt_16 rfl rfl rfl rfl rfl rfl (by decide) rfl (by decide) (ok_X11_letterOf hR  g8) ?_
  show mr X _ _ 19 _ [.int q7, .int q4, .ref 145, .int q1] (MM RR S) _
  obtain ⟨q10, g11, h12⟩ := Option.bind_eq_some_iff.mp h9
  refine mr_cv (pc' := 22) (a := 145) (d1 := 0) dX11_comesAt_19 rfl rfl rfl rfl rfl rfl (by decide) rfl (by decide) (ok_X11_between hR  g11) ?_
  show mr X _ _ 22 _ [.long q10, .int q1] (MM RR S) _
  refine mr_l2i (pc' := 23) dX11_comesAt_22 rfl ?_
  refine mr_iadd (pc' := 24) dX11_comesAt_23 rfl ?_
  obtain rfl := Option.some.inj h12
  exact mr_ireturn dX11_comesAt_24 rfl
def f_X11_isEarly (v1 : Int32) (S : fS) : Option (Int32) :=
  (f_X11_comesAt v1 S).bind fun q1 =>
  (f_X11_letterOf v1 (1 : Int32) S).bind fun q4 =>
  (f_X11_floorParts q4 S).bind fun q7 =>
  (f_X11_letterOf v1 (2 : Int32) S).bind fun q10 =>
  (f_X11_letterOf v1 (0 : Int32) S).bind fun q13 =>
  (f_X11_floorParts q13 S).bind fun q16 =>
  if ((Int32.toInt64 q10) * q16) ≤ ((Int32.toInt64 q1) * q7) then (some (0 : Int32)) else
  (some (1 : Int32))
set_option maxHeartbeats 4000000 in
set_option maxRecDepth 100000 in
theorem ok_X11_isEarly {X : mm_C} {RR : Nat → Nat → Option Nat} (hR : RRok RR) {v1 : Int32}  {S : fS} {r : Int32} (h : f_X11_isEarly v1 S = some r) : mr X 2 mY_X11_isEarly 0 (lv_args 0 [.ref 145, .int v1]) [] (MM RR S) (some (.int r), MM RR S) := by
  unfold f_X11_isEarly at h
  show mr X _ _ 0 [(0, .ref 145), (1, .int v1)] [] (MM RR S) _
  refine mr_aload_n (pc' := 1) dX11_isEarly_0 rfl rfl ?_
  refine mr_iload_n (pc' := 2) dX11_isEarly_1 rfl rfl ?_
  obtain ⟨q1, g2, h3⟩ := Option.bind_eq_some_iff.mp h
  refine mr_cv (pc' := 5) (a := 145) (d1 := 1) dX11_isEarly_2 rfl rfl rfl rfl rfl rfl (by decide) rfl (by decide) (ok_X11_comesAt hR  g2) ?_
  show mr X _ _ 5 _ [.int q1] (MM RR S) _
  refine mr_i2l (pc' := 6) dX11_isEarly_5 rfl ?_
  refine mr_aload_n (pc' := 7) dX11_isEarly_6 rfl rfl ?_
  refine mr_aload_n (pc' := 8) dX11_isEarly_7 rfl rfl ?_
  refine mr_iload_n (pc' := 9) dX11_isEarly_8 rfl rfl ?_
  refine mr_iconst (pc' := 10) (v := (1 : Int32)) dX11_isEarly_9 rfl (by decide) ?_
  obtain ⟨q4, g5, h6⟩ := Option.bind_eq_some_iff.mp h3
  refine mr_cv (pc' := 13) (a := 145) (d1 := 0) dX11_isEarly_10 rfl rfl rfl rfl rfl rfl (by decide) rfl (by decide) (ok_X11_letterOf hR  g5) ?_
  show mr X _ _ 13 _ [.int q4, .ref 145, .long (Int32.toInt64 q1)] (MM RR S) _
  obtain ⟨q7, g8, h9⟩ := Option.bind_eq_some_iff.mp h6
  refine mr_cv (pc' := 16) (a := 145) (d1 := 0) dX11_isEarly_13 rfl rfl rfl rfl rfl rfl (by decide) rfl (by decide) (ok_X11_floorParts hR  g8) ?_
  show mr X _ _ 16 _ [.long q7, .long (Int32.toInt64 q1)] (MM RR S) _
  refine mr_lmul (pc' := 17) dX11_isEarly_16 rfl ?_
  refine mr_aload_n (pc' := 18) dX11_isEarly_17 rfl rfl ?_
  refine mr_iload_n (pc' := 19) dX11_isEarly_18 rfl rfl ?_
  refine mr_iconst (pc' := 20) (v := (2 : Int32)) dX11_isEarly_19 rfl (by decide) ?_
  obtain ⟨q10, g11, h12⟩ := Option.bind_eq_some_iff.mp h9
  refine mr_cv (pc' := 23) (a := 145) (d1 := 0) dX11_isEarly_20 rfl rfl rfl rfl rfl rfl (by decide) rfl (by decide) (ok_X11_letterOf hR  g11) ?_
  show mr X _ _ 23 _ [.int q10, .long ((Int32.toInt64 q1) * q7)] (MM RR S) _
  refine mr_i2l (pc' := 24) dX11_isEarly_23 rfl ?_
  refine mr_aload_n (pc' := 25) dX11_isEarly_24 rfl rfl ?_
  refine mr_aload_n (pc' := 26) dX11_isEarly_25 rfl rfl ?_
  refine mr_iload_n (pc' := 27) dX11_isEarly_26 rfl rfl ?_
  refine mr_iconst (pc' := 28) (v := (0 : Int32)) dX11_isEarly_27 rfl (by decide) ?_
  obtain ⟨q13, g14, h15⟩ := Option.bind_eq_some_iff.mp h12
  refine mr_cv (pc' := 31) (a := 145) (d1 := 0) dX11_isEarly_28 rfl rfl rfl rfl rfl rfl (by decide) rfl (by decide) (ok_X11_letterOf hR  g14) ?_
  show mr X _ _ 31 _ [.int q13, .ref 145, .long (Int32.toInt64 q10), .long ((Int32.toInt64 q1) * q7)] (MM RR S) _
  obtain ⟨q16, g17, h18⟩ := Option.bind_eq_some_iff.mp h15
  refine mr_cv (pc' := 34) (a := 145) (d1 := 0) dX11_isEarly_31 rfl rfl rfl rfl rfl rfl (by decide) rfl (by decide) (ok_X11_floorParts hR  g17) ?_
  show mr X _ _ 34 _ [.long q16, .long (Int32.toInt64 q10), .long ((Int32.toInt64 q1) * q7)] (MM RR S) _
  refine mr_lmul (pc' := 35) dX11_isEarly_34 rfl ?_
  by_cases c19 : ((Int32.toInt64 q10) * q16) ≤ ((Int32.toInt64 q1) * q7)
  · rw [if_pos c19] at h18
    refine mr_lcmp_ge_t (t := 43) dX11_isEarly_35 rfl dX11_isEarly_36 (by decide) c19 ?_
    refine mr_iconst (pc' := 44) (v := (0 : Int32)) dX11_isEarly_43 rfl (by decide) ?_
    obtain rfl := Option.some.inj h18
    exact mr_zreturn dX11_isEarly_44 rfl (by decide)
  · rw [if_neg c19] at h18
    refine mr_lcmp_ge_f (t := 43) (pc' := 39) dX11_isEarly_35 rfl dX11_isEarly_36 (by decide) rfl c19 ?_
    refine mr_iconst (pc' := 40) (v := (1 : Int32)) dX11_isEarly_39 rfl (by decide) ?_
    refine mr_goto (t := 44) dX11_isEarly_40 (by decide) ?_
    obtain rfl := Option.some.inj h18
    exact mr_zreturn dX11_isEarly_44 rfl (by decide)
def f_X11_letters (v1 : Int32) (v2 : Int32) (S : fS) : Option (Int32) :=
  (gI S 157 158 (4 : Int32)).bind fun a1 =>
  (f_X11_in (Int32.toInt64 v1) (0 : Int64) (Int32.toInt64 (a1 - (1 : Int32))) S).bind fun q4 =>
  if q4 = (0 : Int32) then (some (-1 : Int32)) else
  ((f_X11_in (Int32.toInt64 v2) (0 : Int64) (4 : Int64) S).bind fun q8 =>
  if q8 = (0 : Int32) then (some (-1 : Int32)) else
  (if (3 : Int32) ≤ v2 then (if v2 = (3 : Int32) then ((f_X11_comesAt v1 S).bind fun q18 =>
  some q18) else
  ((f_X11_isEarly v1 S).bind fun q14 =>
  if q14 = (0 : Int32) then (some (0 : Int32)) else
  (some (1 : Int32)))) else
  ((f_X11_letterOf v1 v2 S).bind fun q21 =>
  some q21)))
set_option maxHeartbeats 4000000 in
set_option maxRecDepth 100000 in
theorem ok_X11_letters {X : mm_C} {RR : Nat → Nat → Option Nat} (hR : RRok RR) {v1 : Int32} {v2 : Int32}  {S : fS} {r : Int32} (h : f_X11_letters v1 v2 S = some r) : mr X 3 mY_X11_letters 0 (lv_args 0 [.ref 145, .int v1, .int v2]) [] (MM RR S) (some (.int r), MM RR S) := by
  unfold f_X11_letters at h
  show mr X _ _ 0 [(0, .ref 145), (1, .int v1), (2, .int v2)] [] (MM RR S) _
  refine mr_iload_n (pc' := 1) dX11_letters_0 rfl rfl ?_
  refine mr_i2l (pc' := 2) dX11_letters_1 rfl ?_
  refine mr_lconst (pc' := 3) (v := (0 : Int64)) dX11_letters_2 rfl (by decide) ?_
  refine mr_aload_n (pc' := 4) dX11_letters_3 rfl rfl ?_
  refine mr_getR (pc' := 7) (ci := 11) (j := 25) (b := 157) hR dX11_letters_4 rfl rfl rfl (by decide) (by decide) (by decide) rfl rfl ?_
  refine mr_iconst (pc' := 8) (v := (4 : Int32)) dX11_letters_7 rfl (by decide) ?_
  obtain ⟨a1, g2, h3⟩ := Option.bind_eq_some_iff.mp h
  refine mr_iald (pc' := 9) dX11_letters_8 rfl rfl rfl g2 ?_
  refine mr_iconst (pc' := 10) (v := (1 : Int32)) dX11_letters_9 rfl (by decide) ?_
  refine mr_isub (pc' := 11) dX11_letters_10 rfl ?_
  refine mr_i2l (pc' := 12) dX11_letters_11 rfl ?_
  obtain ⟨q4, g5, h6⟩ := Option.bind_eq_some_iff.mp h3
  refine mr_cs (pc' := 15) (d1 := 0) dX11_letters_12 rfl rfl rfl rfl (by decide) (Nat.le_of_ble_eq_true rfl) rfl rfl rfl (by decide) (ok_X11_in hR  g5) ?_
  show mr X _ _ 15 _ [.int q4] (MM RR S) _
  by_cases c7 : q4 = (0 : Int32)
  · rw [if_pos c7] at h6
    refine mr_if_eq_t (t := 30) dX11_letters_15 (by decide) c7 ?_
    refine mr_iconst (pc' := 31) (v := (-1 : Int32)) dX11_letters_30 rfl (by decide) ?_
    obtain rfl := Option.some.inj h6
    exact mr_ireturn dX11_letters_31 rfl
  · rw [if_neg c7] at h6
    refine mr_if_eq_f (t := 30) (pc' := 18) dX11_letters_15 (by decide) rfl c7 ?_
    refine mr_iload_n (pc' := 19) dX11_letters_18 rfl rfl ?_
    refine mr_i2l (pc' := 20) dX11_letters_19 rfl ?_
    refine mr_lconst (pc' := 21) (v := (0 : Int64)) dX11_letters_20 rfl (by decide) ?_
    refine mr_ldc2 (pc' := 24) (v := (4 : Int64)) dX11_letters_21 rfl rfl ?_
    obtain ⟨q8, g9, h10⟩ := Option.bind_eq_some_iff.mp h6
    refine mr_cs (pc' := 27) (d1 := 0) dX11_letters_24 rfl rfl rfl rfl (by decide) (Nat.le_of_ble_eq_true rfl) rfl rfl rfl (by decide) (ok_X11_in hR  g9) ?_
    show mr X _ _ 27 _ [.int q8] (MM RR S) _
    by_cases c11 : q8 = (0 : Int32)
    · rw [if_pos c11] at h10
      refine mr_if_ne_f (t := 32) (pc' := 30) dX11_letters_27 (by decide) rfl (not_not_intro c11) ?_
      refine mr_iconst (pc' := 31) (v := (-1 : Int32)) dX11_letters_30 rfl (by decide) ?_
      obtain rfl := Option.some.inj h10
      exact mr_ireturn dX11_letters_31 rfl
    · rw [if_neg c11] at h10
      refine mr_if_ne_t (t := 32) dX11_letters_27 (by decide) c11 ?_
      refine mr_iload_n (pc' := 33) dX11_letters_32 rfl rfl ?_
      refine mr_iconst (pc' := 34) (v := (3 : Int32)) dX11_letters_33 rfl (by decide) ?_
      by_cases c12 : (3 : Int32) ≤ v2
      · rw [if_pos c12] at h10
        refine mr_icmp_ge_t (t := 46) dX11_letters_34 (by decide) c12 ?_
        refine mr_iload_n (pc' := 47) dX11_letters_46 rfl rfl ?_
        refine mr_iconst (pc' := 48) (v := (3 : Int32)) dX11_letters_47 rfl (by decide) ?_
        by_cases c13 : v2 = (3 : Int32)
        · rw [if_pos c13] at h10
          refine mr_icmp_ne_f (t := 59) (pc' := 51) dX11_letters_48 (by decide) rfl (not_not_intro c13) ?_
          refine mr_aload_n (pc' := 52) dX11_letters_51 rfl rfl ?_
          refine mr_iload_n (pc' := 53) dX11_letters_52 rfl rfl ?_
          obtain ⟨q18, g19, h20⟩ := Option.bind_eq_some_iff.mp h10
          refine mr_cv (pc' := 56) (a := 145) (d1 := 1) dX11_letters_53 rfl rfl rfl rfl rfl rfl (by decide) rfl (by decide) (ok_X11_comesAt hR  g19) ?_
          show mr X _ _ 56 _ [.int q18] (MM RR S) _
          refine mr_goto (t := 72) dX11_letters_56 (by decide) ?_
          obtain rfl := Option.some.inj h20
          exact mr_ireturn dX11_letters_72 rfl
        · rw [if_neg c13] at h10
          refine mr_icmp_ne_t (t := 59) dX11_letters_48 (by decide) c13 ?_
          refine mr_aload_n (pc' := 60) dX11_letters_59 rfl rfl ?_
          refine mr_iload_n (pc' := 61) dX11_letters_60 rfl rfl ?_
          obtain ⟨q14, g15, h16⟩ := Option.bind_eq_some_iff.mp h10
          refine mr_cv (pc' := 64) (a := 145) (d1 := 2) dX11_letters_61 rfl rfl rfl rfl rfl rfl (by decide) rfl (by decide) (ok_X11_isEarly hR  g15) ?_
          show mr X _ _ 64 _ [.int q14] (MM RR S) _
          by_cases c17 : q14 = (0 : Int32)
          · rw [if_pos c17] at h16
            refine mr_if_eq_t (t := 71) dX11_letters_64 (by decide) c17 ?_
            refine mr_iconst (pc' := 72) (v := (0 : Int32)) dX11_letters_71 rfl (by decide) ?_
            obtain rfl := Option.some.inj h16
            exact mr_ireturn dX11_letters_72 rfl
          · rw [if_neg c17] at h16
            refine mr_if_eq_f (t := 71) (pc' := 67) dX11_letters_64 (by decide) rfl c17 ?_
            refine mr_iconst (pc' := 68) (v := (1 : Int32)) dX11_letters_67 rfl (by decide) ?_
            refine mr_goto (t := 72) dX11_letters_68 (by decide) ?_
            obtain rfl := Option.some.inj h16
            exact mr_ireturn dX11_letters_72 rfl
      · rw [if_neg c12] at h10
        refine mr_icmp_ge_f (t := 46) (pc' := 37) dX11_letters_34 (by decide) rfl c12 ?_
        refine mr_aload_n (pc' := 38) dX11_letters_37 rfl rfl ?_
        refine mr_iload_n (pc' := 39) dX11_letters_38 rfl rfl ?_
        refine mr_iload_n (pc' := 40) dX11_letters_39 rfl rfl ?_
        obtain ⟨q21, g22, h23⟩ := Option.bind_eq_some_iff.mp h10
        refine mr_cv (pc' := 43) (a := 145) (d1 := 0) dX11_letters_40 rfl rfl rfl rfl rfl rfl (by decide) rfl (by decide) (ok_X11_letterOf hR  g22) ?_
        show mr X _ _ 43 _ [.int q21] (MM RR S) _
        refine mr_goto (t := 72) dX11_letters_43 (by decide) ?_
        obtain rfl := Option.some.inj h23
        exact mr_ireturn dX11_letters_72 rfl
def f_X11_sentAt (v1 : Int32) (S : fS) : Option (Int64) :=
  (f_X11_letterOf v1 (2 : Int32) S).bind fun q1 =>
  (f_X11_letterOf v1 (0 : Int32) S).bind fun q4 =>
  (f_X11_floorParts q4 S).bind fun q7 =>
  some ((Int32.toInt64 q1) * q7)
set_option maxHeartbeats 4000000 in
set_option maxRecDepth 100000 in
theorem ok_X11_sentAt {X : mm_C} {RR : Nat → Nat → Option Nat} (hR : RRok RR) {v1 : Int32}  {S : fS} {r : Int64} (h : f_X11_sentAt v1 S = some r) : mr X 1 mY_X11_sentAt 0 (lv_args 0 [.ref 145, .int v1]) [] (MM RR S) (some (.long r), MM RR S) := by
  unfold f_X11_sentAt at h
  show mr X _ _ 0 [(0, .ref 145), (1, .int v1)] [] (MM RR S) _
  refine mr_aload_n (pc' := 1) dX11_sentAt_0 rfl rfl ?_
  refine mr_iload_n (pc' := 2) dX11_sentAt_1 rfl rfl ?_
  refine mr_iconst (pc' := 3) (v := (2 : Int32)) dX11_sentAt_2 rfl (by decide) ?_
  obtain ⟨q1, g2, h3⟩ := Option.bind_eq_some_iff.mp h
  refine mr_cv (pc' := 6) (a := 145) (d1 := 0) dX11_sentAt_3 rfl rfl rfl rfl rfl rfl (by decide) rfl (by decide) (ok_X11_letterOf hR  g2) ?_
  show mr X _ _ 6 _ [.int q1] (MM RR S) _
  refine mr_i2l (pc' := 7) dX11_sentAt_6 rfl ?_
  refine mr_aload_n (pc' := 8) dX11_sentAt_7 rfl rfl ?_
  refine mr_aload_n (pc' := 9) dX11_sentAt_8 rfl rfl ?_
  refine mr_iload_n (pc' := 10) dX11_sentAt_9 rfl rfl ?_
  refine mr_iconst (pc' := 11) (v := (0 : Int32)) dX11_sentAt_10 rfl (by decide) ?_
  obtain ⟨q4, g5, h6⟩ := Option.bind_eq_some_iff.mp h3
  refine mr_cv (pc' := 14) (a := 145) (d1 := 0) dX11_sentAt_11 rfl rfl rfl rfl rfl rfl (by decide) rfl (by decide) (ok_X11_letterOf hR  g5) ?_
  show mr X _ _ 14 _ [.int q4, .ref 145, .long (Int32.toInt64 q1)] (MM RR S) _
  obtain ⟨q7, g8, h9⟩ := Option.bind_eq_some_iff.mp h6
  refine mr_cv (pc' := 17) (a := 145) (d1 := 0) dX11_sentAt_14 rfl rfl rfl rfl rfl rfl (by decide) rfl (by decide) (ok_X11_floorParts hR  g8) ?_
  show mr X _ _ 17 _ [.long q7, .long (Int32.toInt64 q1)] (MM RR S) _
  refine mr_lmul (pc' := 18) dX11_sentAt_17 rfl ?_
  obtain rfl := Option.some.inj h9
  exact mr_lreturn dX11_sentAt_18 rfl
def lp_X11_crossed_16 (p2 : Int32) (S : fS) (K : Int32 → Option (Int32)) : Nat → Int32 → Int32 → Option (Int32)
  | 0, _, _ => none
  | n + 1, p1, p3 =>
    (gI S 157 158 (4 : Int32)).bind fun a5 =>
    if a5 ≤ p3 then (K p1) else
    ((f_X11_sentAt p2 S).bind fun q9 =>
    (f_X11_sentAt p3 S).bind fun q12 =>
    if q12 ≤ q9 then (lp_X11_crossed_16 p2 S K n (p1 + (0 : Int32)) (p3 + (1 : Int32))) else
    ((f_X11_comesAt p2 S).bind fun q16 =>
    (f_X11_comesAt p3 S).bind fun q19 =>
    if q16 ≤ q19 then (lp_X11_crossed_16 p2 S K n (p1 + (0 : Int32)) (p3 + (1 : Int32))) else
    (lp_X11_crossed_16 p2 S K n (p1 + (1 : Int32)) (p3 + (1 : Int32)))))
set_option maxHeartbeats 4000000 in
set_option maxRecDepth 100000 in
theorem ok_lp_X11_crossed_16 {X : mm_C} {RR : Nat → Nat → Option Nat} (hR : RRok RR) {p2 : Int32}  {S : fS} {K : Int32 → Option (Int32)} {r : Int32} (hK : ∀ (k1 : Int32), K k1 = some r → mr X 2 mY_X11_crossed 67 [(0, .ref 145), (1, .int k1), (2, .int p2)] [] (MM RR S) (some (.int r), MM RR S)) : ∀ (n : Nat) (p1 : Int32) (p3 : Int32), lp_X11_crossed_16 p2 S K n p1 p3 = some r → mr X 2 mY_X11_crossed 16 [(0, .ref 145), (1, .int p1), (2, .int p2), (3, .int p3)] [] (MM RR S) (some (.int r), MM RR S) := by
  intro n
  induction n with
  | zero => intro p1 p3 h; exact mm_no h
  | succ n ih =>
    intro p1 p3 h
    unfold lp_X11_crossed_16 at h
    refine mr_iload_n (pc' := 17) dX11_crossed_16 rfl rfl ?_
    refine mr_aload_n (pc' := 18) dX11_crossed_17 rfl rfl ?_
    refine mr_getR (pc' := 21) (ci := 11) (j := 25) (b := 157) hR dX11_crossed_18 rfl rfl rfl (by decide) (by decide) (by decide) rfl rfl ?_
    refine mr_iconst (pc' := 22) (v := (4 : Int32)) dX11_crossed_21 rfl (by decide) ?_
    obtain ⟨a5, g6, h7⟩ := Option.bind_eq_some_iff.mp h
    refine mr_iald (pc' := 23) dX11_crossed_22 rfl rfl rfl g6 ?_
    by_cases c8 : a5 ≤ p3
    · rw [if_pos c8] at h7
      refine mr_icmp_ge_t (t := 67) dX11_crossed_23 (by decide) c8 ?_
      exact mr_sub [(0, .ref 145), (1, .int p1), (2, .int p2)] ⟨rfl, rfl, rfl, trivial⟩ rfl (hK _  h7)
    · rw [if_neg c8] at h7
      refine mr_icmp_ge_f (t := 67) (pc' := 26) dX11_crossed_23 (by decide) rfl c8 ?_
      refine mr_iload_n (pc' := 27) dX11_crossed_26 rfl rfl ?_
      refine mr_aload_n (pc' := 28) dX11_crossed_27 rfl rfl ?_
      refine mr_iload_n (pc' := 29) dX11_crossed_28 rfl rfl ?_
      obtain ⟨q9, g10, h11⟩ := Option.bind_eq_some_iff.mp h7
      refine mr_cv (pc' := 32) (a := 145) (d1 := 1) dX11_crossed_29 rfl rfl rfl rfl rfl rfl (by decide) rfl (by decide) (ok_X11_sentAt hR  g10) ?_
      show mr X _ _ 32 _ [.long q9, .int p1] (MM RR S) _
      refine mr_aload_n (pc' := 33) dX11_crossed_32 rfl rfl ?_
      refine mr_iload_n (pc' := 34) dX11_crossed_33 rfl rfl ?_
      obtain ⟨q12, g13, h14⟩ := Option.bind_eq_some_iff.mp h11
      refine mr_cv (pc' := 37) (a := 145) (d1 := 1) dX11_crossed_34 rfl rfl rfl rfl rfl rfl (by decide) rfl (by decide) (ok_X11_sentAt hR  g13) ?_
      show mr X _ _ 37 _ [.long q12, .long q9, .int p1] (MM RR S) _
      by_cases c15 : q12 ≤ q9
      · rw [if_pos c15] at h14
        refine mr_lcmp_ge_t (t := 58) dX11_crossed_37 rfl dX11_crossed_38 (by decide) c15 ?_
        refine mr_iconst (pc' := 59) (v := (0 : Int32)) dX11_crossed_58 rfl (by decide) ?_
        refine mr_iadd (pc' := 60) dX11_crossed_59 rfl ?_
        refine mr_istore_n (pc' := 61) (lv' := [(1, .int (p1 + (0 : Int32))), (0, .ref 145), (2, .int p2), (3, .int p3)]) dX11_crossed_60 rfl (by decide) rfl ?_
        refine mr_iinc (pc' := 64) (x' := (p3 + (1 : Int32))) (lv' := [(3, .int (p3 + (1 : Int32))), (1, .int (p1 + (0 : Int32))), (0, .ref 145), (2, .int p2)]) dX11_crossed_61 rfl (by decide) rfl rfl rfl ?_
        refine mr_goto (t := 16) dX11_crossed_64 (by decide) ?_
        exact mr_sub [(0, .ref 145), (1, .int (p1 + (0 : Int32))), (2, .int p2), (3, .int (p3 + (1 : Int32)))] ⟨rfl, rfl, rfl, rfl, trivial⟩ rfl (ih _ _  h14)
      · rw [if_neg c15] at h14
        refine mr_lcmp_ge_f (t := 58) (pc' := 41) dX11_crossed_37 rfl dX11_crossed_38 (by decide) rfl c15 ?_
        refine mr_aload_n (pc' := 42) dX11_crossed_41 rfl rfl ?_
        refine mr_iload_n (pc' := 43) dX11_crossed_42 rfl rfl ?_
        obtain ⟨q16, g17, h18⟩ := Option.bind_eq_some_iff.mp h14
        refine mr_cv (pc' := 46) (a := 145) (d1 := 1) dX11_crossed_43 rfl rfl rfl rfl rfl rfl (by decide) rfl (by decide) (ok_X11_comesAt hR  g17) ?_
        show mr X _ _ 46 _ [.int q16, .int p1] (MM RR S) _
        refine mr_aload_n (pc' := 47) dX11_crossed_46 rfl rfl ?_
        refine mr_iload_n (pc' := 48) dX11_crossed_47 rfl rfl ?_
        obtain ⟨q19, g20, h21⟩ := Option.bind_eq_some_iff.mp h18
        refine mr_cv (pc' := 51) (a := 145) (d1 := 1) dX11_crossed_48 rfl rfl rfl rfl rfl rfl (by decide) rfl (by decide) (ok_X11_comesAt hR  g20) ?_
        show mr X _ _ 51 _ [.int q19, .int q16, .int p1] (MM RR S) _
        by_cases c22 : q16 ≤ q19
        · rw [if_pos c22] at h21
          refine mr_icmp_le_t (t := 58) dX11_crossed_51 (by decide) c22 ?_
          refine mr_iconst (pc' := 59) (v := (0 : Int32)) dX11_crossed_58 rfl (by decide) ?_
          refine mr_iadd (pc' := 60) dX11_crossed_59 rfl ?_
          refine mr_istore_n (pc' := 61) (lv' := [(1, .int (p1 + (0 : Int32))), (0, .ref 145), (2, .int p2), (3, .int p3)]) dX11_crossed_60 rfl (by decide) rfl ?_
          refine mr_iinc (pc' := 64) (x' := (p3 + (1 : Int32))) (lv' := [(3, .int (p3 + (1 : Int32))), (1, .int (p1 + (0 : Int32))), (0, .ref 145), (2, .int p2)]) dX11_crossed_61 rfl (by decide) rfl rfl rfl ?_
          refine mr_goto (t := 16) dX11_crossed_64 (by decide) ?_
          exact mr_sub [(0, .ref 145), (1, .int (p1 + (0 : Int32))), (2, .int p2), (3, .int (p3 + (1 : Int32)))] ⟨rfl, rfl, rfl, rfl, trivial⟩ rfl (ih _ _  h21)
        · rw [if_neg c22] at h21
          refine mr_icmp_le_f (t := 58) (pc' := 54) dX11_crossed_51 (by decide) rfl c22 ?_
          refine mr_iconst (pc' := 55) (v := (1 : Int32)) dX11_crossed_54 rfl (by decide) ?_
          refine mr_goto (t := 59) dX11_crossed_55 (by decide) ?_
          refine mr_iadd (pc' := 60) dX11_crossed_59 rfl ?_
          refine mr_istore_n (pc' := 61) (lv' := [(1, .int (p1 + (1 : Int32))), (0, .ref 145), (2, .int p2), (3, .int p3)]) dX11_crossed_60 rfl (by decide) rfl ?_
          refine mr_iinc (pc' := 64) (x' := (p3 + (1 : Int32))) (lv' := [(3, .int (p3 + (1 : Int32))), (1, .int (p1 + (1 : Int32))), (0, .ref 145), (2, .int p2)]) dX11_crossed_61 rfl (by decide) rfl rfl rfl ?_
          refine mr_goto (t := 16) dX11_crossed_64 (by decide) ?_
          exact mr_sub [(0, .ref 145), (1, .int (p1 + (1 : Int32))), (2, .int p2), (3, .int (p3 + (1 : Int32)))] ⟨rfl, rfl, rfl, rfl, trivial⟩ rfl (ih _ _  h21)
def lp_X11_crossed_4  (S : fS) (K : Int32 → Option (Int32)) : Nat → Int32 → Int32 → Option (Int32)
  | 0, _, _ => none
  | n + 1, p1, p2 =>
    (gI S 157 158 (4 : Int32)).bind fun a1 =>
    if a1 ≤ p2 then (K p1) else
    (lp_X11_crossed_16 p2 S (fun u23 => lp_X11_crossed_4  S K n u23 (p2 + (1 : Int32))) FU p1 (0 : Int32))
set_option maxHeartbeats 4000000 in
set_option maxRecDepth 100000 in
theorem ok_lp_X11_crossed_4 {X : mm_C} {RR : Nat → Nat → Option Nat} (hR : RRok RR)   {S : fS} {K : Int32 → Option (Int32)} {r : Int32} (hK : ∀ (k1 : Int32), K k1 = some r → mr X 2 mY_X11_crossed 73 [(1, .int k1)] [] (MM RR S) (some (.int r), MM RR S)) : ∀ (n : Nat) (p1 : Int32) (p2 : Int32), lp_X11_crossed_4  S K n p1 p2 = some r → mr X 2 mY_X11_crossed 4 [(0, .ref 145), (1, .int p1), (2, .int p2)] [] (MM RR S) (some (.int r), MM RR S) := by
  intro n
  induction n with
  | zero => intro p1 p2 h; exact mm_no h
  | succ n ih =>
    intro p1 p2 h
    unfold lp_X11_crossed_4 at h
    refine mr_iload_n (pc' := 5) dX11_crossed_4 rfl rfl ?_
    refine mr_aload_n (pc' := 6) dX11_crossed_5 rfl rfl ?_
    refine mr_getR (pc' := 9) (ci := 11) (j := 25) (b := 157) hR dX11_crossed_6 rfl rfl rfl (by decide) (by decide) (by decide) rfl rfl ?_
    refine mr_iconst (pc' := 10) (v := (4 : Int32)) dX11_crossed_9 rfl (by decide) ?_
    obtain ⟨a1, g2, h3⟩ := Option.bind_eq_some_iff.mp h
    refine mr_iald (pc' := 11) dX11_crossed_10 rfl rfl rfl g2 ?_
    by_cases c4 : a1 ≤ p2
    · rw [if_pos c4] at h3
      refine mr_icmp_ge_t (t := 73) dX11_crossed_11 (by decide) c4 ?_
      exact mr_sub [(1, .int p1)] ⟨rfl, trivial⟩ rfl (hK _  h3)
    · rw [if_neg c4] at h3
      refine mr_icmp_ge_f (t := 73) (pc' := 14) dX11_crossed_11 (by decide) rfl c4 ?_
      refine mr_iconst (pc' := 15) (v := (0 : Int32)) dX11_crossed_14 rfl (by decide) ?_
      refine mr_istore_n (pc' := 16) (lv' := [(3, .int (0 : Int32)), (0, .ref 145), (1, .int p1), (2, .int p2)]) dX11_crossed_15 rfl (by decide) rfl ?_
      refine mr_sub [(0, .ref 145), (1, .int p1), (2, .int p2), (3, .int (0 : Int32))] ⟨rfl, rfl, rfl, rfl, trivial⟩ rfl ?_
      refine ok_lp_X11_crossed_16 hR  (fun u23 h24 => ?_) FU _ _  h3
      refine mr_iinc (pc' := 70) (x' := (p2 + (1 : Int32))) (lv' := [(2, .int (p2 + (1 : Int32))), (0, .ref 145), (1, .int u23)]) dX11_crossed_67 rfl (by decide) rfl rfl rfl ?_
      refine mr_goto (t := 4) dX11_crossed_70 (by decide) ?_
      exact mr_sub [(0, .ref 145), (1, .int u23), (2, .int (p2 + (1 : Int32)))] ⟨rfl, rfl, rfl, trivial⟩ rfl (ih _ _  h24)
def f_X11_crossed  (S : fS) : Option (Int32) :=
  lp_X11_crossed_4  S (fun u25 => some u25) FU (0 : Int32) (0 : Int32)
set_option maxHeartbeats 4000000 in
set_option maxRecDepth 100000 in
theorem ok_X11_crossed {X : mm_C} {RR : Nat → Nat → Option Nat} (hR : RRok RR)   {S : fS} {r : Int32} (h : f_X11_crossed  S = some r) : mr X 2 mY_X11_crossed 0 (lv_args 0 [.ref 145]) [] (MM RR S) (some (.int r), MM RR S) := by
  unfold f_X11_crossed at h
  show mr X _ _ 0 [(0, .ref 145)] [] (MM RR S) _
  refine mr_iconst (pc' := 1) (v := (0 : Int32)) dX11_crossed_0 rfl (by decide) ?_
  refine mr_istore_n (pc' := 2) (lv' := [(1, .int (0 : Int32)), (0, .ref 145)]) dX11_crossed_1 rfl (by decide) rfl ?_
  refine mr_iconst (pc' := 3) (v := (0 : Int32)) dX11_crossed_2 rfl (by decide) ?_
  refine mr_istore_n (pc' := 4) (lv' := [(2, .int (0 : Int32)), (1, .int (0 : Int32)), (0, .ref 145)]) dX11_crossed_3 rfl (by decide) rfl ?_
  refine mr_sub [(0, .ref 145), (1, .int (0 : Int32)), (2, .int (0 : Int32))] ⟨rfl, rfl, rfl, trivial⟩ rfl ?_
  refine ok_lp_X11_crossed_4 hR  (fun u25 h26 => ?_) FU _ _  h
  refine mr_iload_n (pc' := 74) dX11_crossed_73 rfl rfl ?_
  obtain rfl := Option.some.inj h26
  exact mr_ireturn dX11_crossed_74 rfl
def lp_X11_order_37 (p1 : Int32) (p2 : Int32) (S : fS) (K : Int32 → Option (Int32)) : Nat → Int32 → Int32 → Option (Int32)
  | 0, _, _ => none
  | n + 1, p3, p4 =>
    (gI S 157 158 (4 : Int32)).bind fun a12 =>
    if a12 ≤ p4 then (K p3) else
    ((f_X11_comesAt p4 S).bind fun q16 =>
    (f_X11_comesAt p2 S).bind fun q19 =>
    if q16 < q19 then (lp_X11_order_37 p1 p2 S K n (p3 + (1 : Int32)) (p4 + (1 : Int32))) else
    ((f_X11_comesAt p4 S).bind fun q23 =>
    (f_X11_comesAt p2 S).bind fun q26 =>
    if q23 = q26 then (if p2 ≤ p4 then (lp_X11_order_37 p1 p2 S K n (p3 + (0 : Int32)) (p4 + (1 : Int32))) else
    (lp_X11_order_37 p1 p2 S K n (p3 + (1 : Int32)) (p4 + (1 : Int32)))) else
    (lp_X11_order_37 p1 p2 S K n (p3 + (0 : Int32)) (p4 + (1 : Int32)))))
set_option maxHeartbeats 4000000 in
set_option maxRecDepth 100000 in
theorem ok_lp_X11_order_37 {X : mm_C} {RR : Nat → Nat → Option Nat} (hR : RRok RR) {p1 : Int32} {p2 : Int32}  {S : fS} {K : Int32 → Option (Int32)} {r : Int32} (hK : ∀ (k3 : Int32), K k3 = some r → mr X 2 mY_X11_order 96 [(0, .ref 145), (1, .int p1), (2, .int p2), (3, .int k3)] [] (MM RR S) (some (.int r), MM RR S)) : ∀ (n : Nat) (p3 : Int32) (p4 : Int32), lp_X11_order_37 p1 p2 S K n p3 p4 = some r → mr X 2 mY_X11_order 37 [(0, .ref 145), (1, .int p1), (2, .int p2), (3, .int p3), (4, .int p4)] [] (MM RR S) (some (.int r), MM RR S) := by
  intro n
  induction n with
  | zero => intro p3 p4 h; exact mm_no h
  | succ n ih =>
    intro p3 p4 h
    unfold lp_X11_order_37 at h
    refine mr_iload (pc' := 39) dX11_order_37 rfl rfl ?_
    refine mr_aload_n (pc' := 40) dX11_order_39 rfl rfl ?_
    refine mr_getR (pc' := 43) (ci := 11) (j := 25) (b := 157) hR dX11_order_40 rfl rfl rfl (by decide) (by decide) (by decide) rfl rfl ?_
    refine mr_iconst (pc' := 44) (v := (4 : Int32)) dX11_order_43 rfl (by decide) ?_
    obtain ⟨a12, g13, h14⟩ := Option.bind_eq_some_iff.mp h
    refine mr_iald (pc' := 45) dX11_order_44 rfl rfl rfl g13 ?_
    by_cases c15 : a12 ≤ p4
    · rw [if_pos c15] at h14
      refine mr_icmp_ge_t (t := 96) dX11_order_45 (by decide) c15 ?_
      exact mr_sub [(0, .ref 145), (1, .int p1), (2, .int p2), (3, .int p3)] ⟨rfl, rfl, rfl, rfl, trivial⟩ rfl (hK _  h14)
    · rw [if_neg c15] at h14
      refine mr_icmp_ge_f (t := 96) (pc' := 48) dX11_order_45 (by decide) rfl c15 ?_
      refine mr_iload_n (pc' := 49) dX11_order_48 rfl rfl ?_
      refine mr_aload_n (pc' := 50) dX11_order_49 rfl rfl ?_
      refine mr_iload (pc' := 52) dX11_order_50 rfl rfl ?_
      obtain ⟨q16, g17, h18⟩ := Option.bind_eq_some_iff.mp h14
      refine mr_cv (pc' := 55) (a := 145) (d1 := 1) dX11_order_52 rfl rfl rfl rfl rfl rfl (by decide) rfl (by decide) (ok_X11_comesAt hR  g17) ?_
      show mr X _ _ 55 _ [.int q16, .int p3] (MM RR S) _
      refine mr_aload_n (pc' := 56) dX11_order_55 rfl rfl ?_
      refine mr_iload_n (pc' := 57) dX11_order_56 rfl rfl ?_
      obtain ⟨q19, g20, h21⟩ := Option.bind_eq_some_iff.mp h18
      refine mr_cv (pc' := 60) (a := 145) (d1 := 1) dX11_order_57 rfl rfl rfl rfl rfl rfl (by decide) rfl (by decide) (ok_X11_comesAt hR  g20) ?_
      show mr X _ _ 60 _ [.int q19, .int q16, .int p3] (MM RR S) _
      by_cases c22 : q16 < q19
      · rw [if_pos c22] at h21
        refine mr_icmp_lt_t (t := 83) dX11_order_60 (by decide) c22 ?_
        refine mr_iconst (pc' := 84) (v := (1 : Int32)) dX11_order_83 rfl (by decide) ?_
        refine mr_goto (t := 88) dX11_order_84 (by decide) ?_
        refine mr_iadd (pc' := 89) dX11_order_88 rfl ?_
        refine mr_istore_n (pc' := 90) (lv' := [(3, .int (p3 + (1 : Int32))), (0, .ref 145), (1, .int p1), (2, .int p2), (4, .int p4)]) dX11_order_89 rfl (by decide) rfl ?_
        refine mr_iinc (pc' := 93) (x' := (p4 + (1 : Int32))) (lv' := [(4, .int (p4 + (1 : Int32))), (3, .int (p3 + (1 : Int32))), (0, .ref 145), (1, .int p1), (2, .int p2)]) dX11_order_90 rfl (by decide) rfl rfl rfl ?_
        refine mr_goto (t := 37) dX11_order_93 (by decide) ?_
        exact mr_sub [(0, .ref 145), (1, .int p1), (2, .int p2), (3, .int (p3 + (1 : Int32))), (4, .int (p4 + (1 : Int32)))] ⟨rfl, rfl, rfl, rfl, rfl, trivial⟩ rfl (ih _ _  h21)
      · rw [if_neg c22] at h21
        refine mr_icmp_lt_f (t := 83) (pc' := 63) dX11_order_60 (by decide) rfl c22 ?_
        refine mr_aload_n (pc' := 64) dX11_order_63 rfl rfl ?_
        refine mr_iload (pc' := 66) dX11_order_64 rfl rfl ?_
        obtain ⟨q23, g24, h25⟩ := Option.bind_eq_some_iff.mp h21
        refine mr_cv (pc' := 69) (a := 145) (d1 := 1) dX11_order_66 rfl rfl rfl rfl rfl rfl (by decide) rfl (by decide) (ok_X11_comesAt hR  g24) ?_
        show mr X _ _ 69 _ [.int q23, .int p3] (MM RR S) _
        refine mr_aload_n (pc' := 70) dX11_order_69 rfl rfl ?_
        refine mr_iload_n (pc' := 71) dX11_order_70 rfl rfl ?_
        obtain ⟨q26, g27, h28⟩ := Option.bind_eq_some_iff.mp h25
        refine mr_cv (pc' := 74) (a := 145) (d1 := 1) dX11_order_71 rfl rfl rfl rfl rfl rfl (by decide) rfl (by decide) (ok_X11_comesAt hR  g27) ?_
        show mr X _ _ 74 _ [.int q26, .int q23, .int p3] (MM RR S) _
        by_cases c29 : q23 = q26
        · rw [if_pos c29] at h28
          refine mr_icmp_ne_f (t := 87) (pc' := 77) dX11_order_74 (by decide) rfl (not_not_intro c29) ?_
          refine mr_iload (pc' := 79) dX11_order_77 rfl rfl ?_
          refine mr_iload_n (pc' := 80) dX11_order_79 rfl rfl ?_
          by_cases c30 : p2 ≤ p4
          · rw [if_pos c30] at h28
            refine mr_icmp_ge_t (t := 87) dX11_order_80 (by decide) c30 ?_
            refine mr_iconst (pc' := 88) (v := (0 : Int32)) dX11_order_87 rfl (by decide) ?_
            refine mr_iadd (pc' := 89) dX11_order_88 rfl ?_
            refine mr_istore_n (pc' := 90) (lv' := [(3, .int (p3 + (0 : Int32))), (0, .ref 145), (1, .int p1), (2, .int p2), (4, .int p4)]) dX11_order_89 rfl (by decide) rfl ?_
            refine mr_iinc (pc' := 93) (x' := (p4 + (1 : Int32))) (lv' := [(4, .int (p4 + (1 : Int32))), (3, .int (p3 + (0 : Int32))), (0, .ref 145), (1, .int p1), (2, .int p2)]) dX11_order_90 rfl (by decide) rfl rfl rfl ?_
            refine mr_goto (t := 37) dX11_order_93 (by decide) ?_
            exact mr_sub [(0, .ref 145), (1, .int p1), (2, .int p2), (3, .int (p3 + (0 : Int32))), (4, .int (p4 + (1 : Int32)))] ⟨rfl, rfl, rfl, rfl, rfl, trivial⟩ rfl (ih _ _  h28)
          · rw [if_neg c30] at h28
            refine mr_icmp_ge_f (t := 87) (pc' := 83) dX11_order_80 (by decide) rfl c30 ?_
            refine mr_iconst (pc' := 84) (v := (1 : Int32)) dX11_order_83 rfl (by decide) ?_
            refine mr_goto (t := 88) dX11_order_84 (by decide) ?_
            refine mr_iadd (pc' := 89) dX11_order_88 rfl ?_
            refine mr_istore_n (pc' := 90) (lv' := [(3, .int (p3 + (1 : Int32))), (0, .ref 145), (1, .int p1), (2, .int p2), (4, .int p4)]) dX11_order_89 rfl (by decide) rfl ?_
            refine mr_iinc (pc' := 93) (x' := (p4 + (1 : Int32))) (lv' := [(4, .int (p4 + (1 : Int32))), (3, .int (p3 + (1 : Int32))), (0, .ref 145), (1, .int p1), (2, .int p2)]) dX11_order_90 rfl (by decide) rfl rfl rfl ?_
            refine mr_goto (t := 37) dX11_order_93 (by decide) ?_
            exact mr_sub [(0, .ref 145), (1, .int p1), (2, .int p2), (3, .int (p3 + (1 : Int32))), (4, .int (p4 + (1 : Int32)))] ⟨rfl, rfl, rfl, rfl, rfl, trivial⟩ rfl (ih _ _  h28)
        · rw [if_neg c29] at h28
          refine mr_icmp_ne_t (t := 87) dX11_order_74 (by decide) c29 ?_
          refine mr_iconst (pc' := 88) (v := (0 : Int32)) dX11_order_87 rfl (by decide) ?_
          refine mr_iadd (pc' := 89) dX11_order_88 rfl ?_
          refine mr_istore_n (pc' := 90) (lv' := [(3, .int (p3 + (0 : Int32))), (0, .ref 145), (1, .int p1), (2, .int p2), (4, .int p4)]) dX11_order_89 rfl (by decide) rfl ?_
          refine mr_iinc (pc' := 93) (x' := (p4 + (1 : Int32))) (lv' := [(4, .int (p4 + (1 : Int32))), (3, .int (p3 + (0 : Int32))), (0, .ref 145), (1, .int p1), (2, .int p2)]) dX11_order_90 rfl (by decide) rfl rfl rfl ?_
          refine mr_goto (t := 37) dX11_order_93 (by decide) ?_
          exact mr_sub [(0, .ref 145), (1, .int p1), (2, .int p2), (3, .int (p3 + (0 : Int32))), (4, .int (p4 + (1 : Int32)))] ⟨rfl, rfl, rfl, rfl, rfl, trivial⟩ rfl (ih _ _  h28)
def lp_X11_order_22 (p1 : Int32) (S : fS) (K : Unit → Option (Int32)) : Nat → Int32 → Option (Int32)
  | 0, _ => none
  | n + 1, p2 =>
    (gI S 157 158 (4 : Int32)).bind fun a8 =>
    if a8 ≤ p2 then (K ()) else
    (lp_X11_order_37 p1 p2 S (fun u31 => if u31 = p1 then (some p2) else
    (lp_X11_order_22 p1 S K n (p2 + (1 : Int32)))) FU (0 : Int32) (0 : Int32))
set_option maxHeartbeats 4000000 in
set_option maxRecDepth 100000 in
theorem ok_lp_X11_order_22 {X : mm_C} {RR : Nat → Nat → Option Nat} (hR : RRok RR) {p1 : Int32}  {S : fS} {K : Unit → Option (Int32)} {r : Int32} (hK : ∀ (_ : Unit), K () = some r → mr X 2 mY_X11_order 109 [] [] (MM RR S) (some (.int r), MM RR S)) : ∀ (n : Nat) (p2 : Int32), lp_X11_order_22 p1 S K n p2 = some r → mr X 2 mY_X11_order 22 [(0, .ref 145), (1, .int p1), (2, .int p2)] [] (MM RR S) (some (.int r), MM RR S) := by
  intro n
  induction n with
  | zero => intro p2 h; exact mm_no h
  | succ n ih =>
    intro p2 h
    unfold lp_X11_order_22 at h
    refine mr_iload_n (pc' := 23) dX11_order_22 rfl rfl ?_
    refine mr_aload_n (pc' := 24) dX11_order_23 rfl rfl ?_
    refine mr_getR (pc' := 27) (ci := 11) (j := 25) (b := 157) hR dX11_order_24 rfl rfl rfl (by decide) (by decide) (by decide) rfl rfl ?_
    refine mr_iconst (pc' := 28) (v := (4 : Int32)) dX11_order_27 rfl (by decide) ?_
    obtain ⟨a8, g9, h10⟩ := Option.bind_eq_some_iff.mp h
    refine mr_iald (pc' := 29) dX11_order_28 rfl rfl rfl g9 ?_
    by_cases c11 : a8 ≤ p2
    · rw [if_pos c11] at h10
      refine mr_icmp_ge_t (t := 109) dX11_order_29 (by decide) c11 ?_
      exact mr_sub [] trivial rfl (hK () h10)
    · rw [if_neg c11] at h10
      refine mr_icmp_ge_f (t := 109) (pc' := 32) dX11_order_29 (by decide) rfl c11 ?_
      refine mr_iconst (pc' := 33) (v := (0 : Int32)) dX11_order_32 rfl (by decide) ?_
      refine mr_istore_n (pc' := 34) (lv' := [(3, .int (0 : Int32)), (0, .ref 145), (1, .int p1), (2, .int p2)]) dX11_order_33 rfl (by decide) rfl ?_
      refine mr_iconst (pc' := 35) (v := (0 : Int32)) dX11_order_34 rfl (by decide) ?_
      refine mr_istore (pc' := 37) (lv' := [(4, .int (0 : Int32)), (3, .int (0 : Int32)), (0, .ref 145), (1, .int p1), (2, .int p2)]) dX11_order_35 rfl (by decide) rfl ?_
      refine mr_sub [(0, .ref 145), (1, .int p1), (2, .int p2), (3, .int (0 : Int32)), (4, .int (0 : Int32))] ⟨rfl, rfl, rfl, rfl, rfl, trivial⟩ rfl ?_
      refine ok_lp_X11_order_37 hR  (fun u31 h32 => ?_) FU _ _  h10
      refine mr_iload_n (pc' := 97) dX11_order_96 rfl rfl ?_
      refine mr_iload_n (pc' := 98) dX11_order_97 rfl rfl ?_
      by_cases c33 : u31 = p1
      · rw [if_pos c33] at h32
        refine mr_icmp_ne_f (t := 103) (pc' := 101) dX11_order_98 (by decide) rfl (not_not_intro c33) ?_
        refine mr_iload_n (pc' := 102) dX11_order_101 rfl rfl ?_
        obtain rfl := Option.some.inj h32
        exact mr_ireturn dX11_order_102 rfl
      · rw [if_neg c33] at h32
        refine mr_icmp_ne_t (t := 103) dX11_order_98 (by decide) c33 ?_
        refine mr_iinc (pc' := 106) (x' := (p2 + (1 : Int32))) (lv' := [(2, .int (p2 + (1 : Int32))), (0, .ref 145), (1, .int p1), (3, .int u31)]) dX11_order_103 rfl (by decide) rfl rfl rfl ?_
        refine mr_goto (t := 22) dX11_order_106 (by decide) ?_
        exact mr_sub [(0, .ref 145), (1, .int p1), (2, .int (p2 + (1 : Int32)))] ⟨rfl, rfl, rfl, trivial⟩ rfl (ih _  h32)
def f_X11_order (v1 : Int32) (S : fS) : Option (Int32) :=
  (gI S 157 158 (4 : Int32)).bind fun a1 =>
  (f_X11_in (Int32.toInt64 v1) (0 : Int64) (Int32.toInt64 (a1 - (1 : Int32))) S).bind fun q4 =>
  if q4 = (0 : Int32) then (some (-1 : Int32)) else
  (lp_X11_order_22 v1 S (fun (_ : Unit) => some (-1 : Int32)) FU (0 : Int32))
set_option maxHeartbeats 4000000 in
set_option maxRecDepth 100000 in
theorem ok_X11_order {X : mm_C} {RR : Nat → Nat → Option Nat} (hR : RRok RR) {v1 : Int32}  {S : fS} {r : Int32} (h : f_X11_order v1 S = some r) : mr X 2 mY_X11_order 0 (lv_args 0 [.ref 145, .int v1]) [] (MM RR S) (some (.int r), MM RR S) := by
  unfold f_X11_order at h
  show mr X _ _ 0 [(0, .ref 145), (1, .int v1)] [] (MM RR S) _
  refine mr_iload_n (pc' := 1) dX11_order_0 rfl rfl ?_
  refine mr_i2l (pc' := 2) dX11_order_1 rfl ?_
  refine mr_lconst (pc' := 3) (v := (0 : Int64)) dX11_order_2 rfl (by decide) ?_
  refine mr_aload_n (pc' := 4) dX11_order_3 rfl rfl ?_
  refine mr_getR (pc' := 7) (ci := 11) (j := 25) (b := 157) hR dX11_order_4 rfl rfl rfl (by decide) (by decide) (by decide) rfl rfl ?_
  refine mr_iconst (pc' := 8) (v := (4 : Int32)) dX11_order_7 rfl (by decide) ?_
  obtain ⟨a1, g2, h3⟩ := Option.bind_eq_some_iff.mp h
  refine mr_iald (pc' := 9) dX11_order_8 rfl rfl rfl g2 ?_
  refine mr_iconst (pc' := 10) (v := (1 : Int32)) dX11_order_9 rfl (by decide) ?_
  refine mr_isub (pc' := 11) dX11_order_10 rfl ?_
  refine mr_i2l (pc' := 12) dX11_order_11 rfl ?_
  obtain ⟨q4, g5, h6⟩ := Option.bind_eq_some_iff.mp h3
  refine mr_cs (pc' := 15) (d1 := 0) dX11_order_12 rfl rfl rfl rfl (by decide) (Nat.le_of_ble_eq_true rfl) rfl rfl rfl (by decide) (ok_X11_in hR  g5) ?_
  show mr X _ _ 15 _ [.int q4] (MM RR S) _
  by_cases c7 : q4 = (0 : Int32)
  · rw [if_pos c7] at h6
    refine mr_if_ne_f (t := 20) (pc' := 18) dX11_order_15 (by decide) rfl (not_not_intro c7) ?_
    refine mr_iconst (pc' := 19) (v := (-1 : Int32)) dX11_order_18 rfl (by decide) ?_
    obtain rfl := Option.some.inj h6
    exact mr_ireturn dX11_order_19 rfl
  · rw [if_neg c7] at h6
    refine mr_if_ne_t (t := 20) dX11_order_15 (by decide) c7 ?_
    refine mr_iconst (pc' := 21) (v := (0 : Int32)) dX11_order_20 rfl (by decide) ?_
    refine mr_istore_n (pc' := 22) (lv' := [(2, .int (0 : Int32)), (0, .ref 145), (1, .int v1)]) dX11_order_21 rfl (by decide) rfl ?_
    refine mr_sub [(0, .ref 145), (1, .int v1), (2, .int (0 : Int32))] ⟨rfl, rfl, rfl, trivial⟩ rfl ?_
    refine ok_lp_X11_order_22 hR  (fun _ h34 => ?_) FU _  h6
    refine mr_iconst (pc' := 110) (v := (-1 : Int32)) dX11_order_109 rfl (by decide) ?_
    obtain rfl := Option.some.inj h34
    exact mr_ireturn dX11_order_110 rfl
def f_X11_seed (v1 : Int32) (S : fS) : Option (Int32 × fS) :=
  if (0 : Int32) ≤ v1 then ((gI S 157 158 (5 : Int32)).bind fun a2 =>
  (sI S 157 158 (5 : Int32) v1).bind fun S5 =>
  some (a2, S5)) else
  (some ((-1 : Int32), S))
set_option maxHeartbeats 4000000 in
set_option maxRecDepth 100000 in
theorem ok_X11_seed {X : mm_C} {RR : Nat → Nat → Option Nat} (hR : RRok RR) {v1 : Int32}  {S : fS} {r : Int32 × fS} (h : f_X11_seed v1 S = some r) : mr X 0 mY_X11_seed 0 (lv_args 0 [.ref 145, .int v1]) [] (MM RR S) (some (.int r.1), MM RR r.2) := by
  unfold f_X11_seed at h
  show mr X _ _ 0 [(0, .ref 145), (1, .int v1)] [] (MM RR S) _
  refine mr_iload_n (pc' := 1) dX11_seed_0 rfl rfl ?_
  by_cases c1 : (0 : Int32) ≤ v1
  · rw [if_pos c1] at h
    refine mr_if_ge_t (t := 6) dX11_seed_1 (by decide) c1 ?_
    refine mr_aload_n (pc' := 7) dX11_seed_6 rfl rfl ?_
    refine mr_getR (pc' := 10) (ci := 11) (j := 25) (b := 157) hR dX11_seed_7 rfl rfl rfl (by decide) (by decide) (by decide) rfl rfl ?_
    refine mr_iconst (pc' := 11) (v := (5 : Int32)) dX11_seed_10 rfl (by decide) ?_
    obtain ⟨a2, g3, h4⟩ := Option.bind_eq_some_iff.mp h
    refine mr_iald (pc' := 12) dX11_seed_11 rfl rfl rfl g3 ?_
    refine mr_istore_n (pc' := 13) (lv' := [(2, .int a2), (0, .ref 145), (1, .int v1)]) dX11_seed_12 rfl (by decide) rfl ?_
    refine mr_aload_n (pc' := 14) dX11_seed_13 rfl rfl ?_
    refine mr_getR (pc' := 17) (ci := 11) (j := 25) (b := 157) hR dX11_seed_14 rfl rfl rfl (by decide) (by decide) (by decide) rfl rfl ?_
    refine mr_iconst (pc' := 18) (v := (5 : Int32)) dX11_seed_17 rfl (by decide) ?_
    refine mr_iload_n (pc' := 19) dX11_seed_18 rfl rfl ?_
    obtain ⟨S5, g6, h7⟩ := Option.bind_eq_some_iff.mp h4
    refine mr_iast (pc' := 20) dX11_seed_19 rfl rfl rfl g6 ?_
    refine mr_iload_n (pc' := 21) dX11_seed_20 rfl rfl ?_
    obtain rfl := Option.some.inj h7
    exact mr_ireturn dX11_seed_21 rfl
  · rw [if_neg c1] at h
    refine mr_if_ge_f (t := 6) (pc' := 4) dX11_seed_1 (by decide) rfl c1 ?_
    refine mr_iconst (pc' := 5) (v := (-1 : Int32)) dX11_seed_4 rfl (by decide) ?_
    obtain rfl := Option.some.inj h
    exact mr_ireturn dX11_seed_5 rfl
def f_X11_draw  (S : fS) : Option (Int64 × fS) :=
  (rL (((S.2 145 37) * (1103515245 : Int64)) + (12345 : Int64)) (2147483648 : Int64)).bind fun a1 =>
  (some (pL S 145 37 a1)).bind fun S4 =>
  (dL (S4.2 145 37) (65536 : Int64)).bind fun a7 =>
  some (a7, S4)
set_option maxHeartbeats 4000000 in
set_option maxRecDepth 100000 in
theorem ok_X11_draw {X : mm_C} {RR : Nat → Nat → Option Nat} (hR : RRok RR)   {S : fS} {r : Int64 × fS} (h : f_X11_draw  S = some r) : mr X 0 mY_X11_draw 0 (lv_args 0 [.ref 145]) [] (MM RR S) (some (.long r.1), MM RR r.2) := by
  unfold f_X11_draw at h
  show mr X _ _ 0 [(0, .ref 145)] [] (MM RR S) _
  refine mr_aload_n (pc' := 1) dX11_draw_0 rfl rfl ?_
  refine mr_aload_n (pc' := 2) dX11_draw_1 rfl rfl ?_
  refine mr_getL (pc' := 5) (ci := 11) (j := 37) dX11_draw_2 rfl rfl rfl (by decide) (by decide) rfl ?_
  refine mr_ldc2 (pc' := 8) (v := (1103515245 : Int64)) dX11_draw_5 rfl rfl ?_
  refine mr_lmul (pc' := 9) dX11_draw_8 rfl ?_
  refine mr_ldc2 (pc' := 12) (v := (12345 : Int64)) dX11_draw_9 rfl rfl ?_
  refine mr_ladd (pc' := 13) dX11_draw_12 rfl ?_
  refine mr_ldc2 (pc' := 16) (v := (2147483648 : Int64)) dX11_draw_13 rfl rfl ?_
  obtain ⟨a1, g2, h3⟩ := Option.bind_eq_some_iff.mp h
  refine mr_lrem (pc' := 17) dX11_draw_16 rfl g2 ?_
  obtain ⟨S4, g5, h6⟩ := Option.bind_eq_some_iff.mp h3
  refine mr_putL (pc' := 20) (ci := 11) (j := 37) dX11_draw_17 rfl rfl rfl (by decide) (by decide) rfl rfl ?_
  rw [Option.some.inj g5]
  refine mr_aload_n (pc' := 21) dX11_draw_20 rfl rfl ?_
  refine mr_getL (pc' := 24) (ci := 11) (j := 37) dX11_draw_21 rfl rfl rfl (by decide) (by decide) rfl ?_
  refine mr_ldc2 (pc' := 27) (v := (65536 : Int64)) dX11_draw_24 rfl rfl ?_
  obtain ⟨a7, g8, h9⟩ := Option.bind_eq_some_iff.mp h6
  refine mr_ldiv (pc' := 28) dX11_draw_27 rfl g8 ?_
  obtain rfl := Option.some.inj h9
  exact mr_lreturn dX11_draw_28 rfl
def lp_X11_wanders_30 (p1 : Int32) (p2 : Int32) (K : Int32 → fS → Option (fS)) : Nat → Int32 → Int32 → fS → Option (fS)
  | 0, _, _, _ => none
  | n + 1, p3, p4, S0 =>
    (gI S0 157 158 (1 : Int32)).bind fun a12 =>
    if a12 ≤ p4 then (K p3 S0) else
    ((f_X11_otherEnd p4 p2 S0).bind fun q16 =>
    if q16 < (0 : Int32) then (lp_X11_wanders_30 p1 p2 K n (p3 + (0 : Int32)) (p4 + (1 : Int32)) S0) else
    (lp_X11_wanders_30 p1 p2 K n (p3 + (1 : Int32)) (p4 + (1 : Int32)) S0))
set_option maxHeartbeats 4000000 in
set_option maxRecDepth 100000 in
theorem ok_lp_X11_wanders_30 {X : mm_C} {RR : Nat → Nat → Option Nat} (hR : RRok RR) {p1 : Int32} {p2 : Int32}  {K : Int32 → fS → Option (fS)} {r : fS} (hK : ∀ (k3 : Int32) (Sk : fS), K k3 Sk = some r → mr X 3 mY_X11_wanders 65 [(0, .ref 145), (1, .int p1), (2, .int p2), (3, .int k3)] [] (MM RR Sk) (none, MM RR r)) : ∀ (n : Nat) (p3 : Int32) (p4 : Int32) (S0 : fS), lp_X11_wanders_30 p1 p2 K n p3 p4 S0 = some r → mr X 3 mY_X11_wanders 30 [(0, .ref 145), (1, .int p1), (2, .int p2), (3, .int p3), (4, .int p4)] [] (MM RR S0) (none, MM RR r) := by
  intro n
  induction n with
  | zero => intro p3 p4 S0 h; exact mm_no h
  | succ n ih =>
    intro p3 p4 S0 h
    unfold lp_X11_wanders_30 at h
    refine mr_iload (pc' := 32) dX11_wanders_30 rfl rfl ?_
    refine mr_aload_n (pc' := 33) dX11_wanders_32 rfl rfl ?_
    refine mr_getR (pc' := 36) (ci := 11) (j := 25) (b := 157) hR dX11_wanders_33 rfl rfl rfl (by decide) (by decide) (by decide) rfl rfl ?_
    refine mr_iconst (pc' := 37) (v := (1 : Int32)) dX11_wanders_36 rfl (by decide) ?_
    obtain ⟨a12, g13, h14⟩ := Option.bind_eq_some_iff.mp h
    refine mr_iald (pc' := 38) dX11_wanders_37 rfl rfl rfl g13 ?_
    by_cases c15 : a12 ≤ p4
    · rw [if_pos c15] at h14
      refine mr_icmp_ge_t (t := 65) dX11_wanders_38 (by decide) c15 ?_
      exact mr_sub [(0, .ref 145), (1, .int p1), (2, .int p2), (3, .int p3)] ⟨rfl, rfl, rfl, rfl, trivial⟩ rfl (hK _ _  h14)
    · rw [if_neg c15] at h14
      refine mr_icmp_ge_f (t := 65) (pc' := 41) dX11_wanders_38 (by decide) rfl c15 ?_
      refine mr_iload_n (pc' := 42) dX11_wanders_41 rfl rfl ?_
      refine mr_aload_n (pc' := 43) dX11_wanders_42 rfl rfl ?_
      refine mr_iload (pc' := 45) dX11_wanders_43 rfl rfl ?_
      refine mr_iload_n (pc' := 46) dX11_wanders_45 rfl rfl ?_
      obtain ⟨q16, g17, h18⟩ := Option.bind_eq_some_iff.mp h14
      refine mr_cv (pc' := 49) (a := 145) (d1 := 1) dX11_wanders_46 rfl rfl rfl rfl rfl rfl (by decide) rfl (by decide) (ok_X11_otherEnd hR  g17) ?_
      show mr X _ _ 49 _ [.int q16, .int p3] (MM RR S0) _
      by_cases c19 : q16 < (0 : Int32)
      · rw [if_pos c19] at h18
        refine mr_if_lt_t (t := 56) dX11_wanders_49 (by decide) c19 ?_
        refine mr_iconst (pc' := 57) (v := (0 : Int32)) dX11_wanders_56 rfl (by decide) ?_
        refine mr_iadd (pc' := 58) dX11_wanders_57 rfl ?_
        refine mr_istore_n (pc' := 59) (lv' := [(3, .int (p3 + (0 : Int32))), (0, .ref 145), (1, .int p1), (2, .int p2), (4, .int p4)]) dX11_wanders_58 rfl (by decide) rfl ?_
        refine mr_iinc (pc' := 62) (x' := (p4 + (1 : Int32))) (lv' := [(4, .int (p4 + (1 : Int32))), (3, .int (p3 + (0 : Int32))), (0, .ref 145), (1, .int p1), (2, .int p2)]) dX11_wanders_59 rfl (by decide) rfl rfl rfl ?_
        refine mr_goto (t := 30) dX11_wanders_62 (by decide) ?_
        exact mr_sub [(0, .ref 145), (1, .int p1), (2, .int p2), (3, .int (p3 + (0 : Int32))), (4, .int (p4 + (1 : Int32)))] ⟨rfl, rfl, rfl, rfl, rfl, trivial⟩ rfl (ih _ _ _  h18)
      · rw [if_neg c19] at h18
        refine mr_if_lt_f (t := 56) (pc' := 52) dX11_wanders_49 (by decide) rfl c19 ?_
        refine mr_iconst (pc' := 53) (v := (1 : Int32)) dX11_wanders_52 rfl (by decide) ?_
        refine mr_goto (t := 57) dX11_wanders_53 (by decide) ?_
        refine mr_iadd (pc' := 58) dX11_wanders_57 rfl ?_
        refine mr_istore_n (pc' := 59) (lv' := [(3, .int (p3 + (1 : Int32))), (0, .ref 145), (1, .int p1), (2, .int p2), (4, .int p4)]) dX11_wanders_58 rfl (by decide) rfl ?_
        refine mr_iinc (pc' := 62) (x' := (p4 + (1 : Int32))) (lv' := [(4, .int (p4 + (1 : Int32))), (3, .int (p3 + (1 : Int32))), (0, .ref 145), (1, .int p1), (2, .int p2)]) dX11_wanders_59 rfl (by decide) rfl rfl rfl ?_
        refine mr_goto (t := 30) dX11_wanders_62 (by decide) ?_
        exact mr_sub [(0, .ref 145), (1, .int p1), (2, .int p2), (3, .int (p3 + (1 : Int32))), (4, .int (p4 + (1 : Int32)))] ⟨rfl, rfl, rfl, rfl, rfl, trivial⟩ rfl (ih _ _ _  h18)
def lp_X11_wanders_83 (p1 : Int32) (p2 : Int32) (K : Int32 → fS → Option (fS)) : Nat → Int32 → Int32 → fS → Option (fS)
  | 0, _, _, _ => none
  | n + 1, p4, p5, S0 =>
    (f_X11_otherEnd p5 p2 S0).bind fun q30 =>
    if q30 < (0 : Int32) then ((f_X11_otherEnd p5 p2 S0).bind fun q34 =>
    if q34 < (0 : Int32) then (lp_X11_wanders_83 p1 p2 K n (p4 - (0 : Int32)) (p5 + (1 : Int32)) S0) else
    (lp_X11_wanders_83 p1 p2 K n (p4 - (1 : Int32)) (p5 + (1 : Int32)) S0)) else
    (if p4 ≤ (0 : Int32) then (K p5 S0) else
    ((f_X11_otherEnd p5 p2 S0).bind fun q39 =>
    if q39 < (0 : Int32) then (lp_X11_wanders_83 p1 p2 K n (p4 - (0 : Int32)) (p5 + (1 : Int32)) S0) else
    (lp_X11_wanders_83 p1 p2 K n (p4 - (1 : Int32)) (p5 + (1 : Int32)) S0)))
set_option maxHeartbeats 4000000 in
set_option maxRecDepth 100000 in
theorem ok_lp_X11_wanders_83 {X : mm_C} {RR : Nat → Nat → Option Nat} (hR : RRok RR) {p1 : Int32} {p2 : Int32}  {K : Int32 → fS → Option (fS)} {r : fS} (hK : ∀ (k5 : Int32) (Sk : fS), K k5 Sk = some r → mr X 3 mY_X11_wanders 124 [(0, .ref 145), (1, .int p1), (5, .int k5)] [] (MM RR Sk) (none, MM RR r)) : ∀ (n : Nat) (p4 : Int32) (p5 : Int32) (S0 : fS), lp_X11_wanders_83 p1 p2 K n p4 p5 S0 = some r → mr X 3 mY_X11_wanders 83 [(0, .ref 145), (1, .int p1), (2, .int p2), (4, .int p4), (5, .int p5)] [] (MM RR S0) (none, MM RR r) := by
  intro n
  induction n with
  | zero => intro p4 p5 S0 h; exact mm_no h
  | succ n ih =>
    intro p4 p5 S0 h
    unfold lp_X11_wanders_83 at h
    refine mr_aload_n (pc' := 84) dX11_wanders_83 rfl rfl ?_
    refine mr_iload (pc' := 86) dX11_wanders_84 rfl rfl ?_
    refine mr_iload_n (pc' := 87) dX11_wanders_86 rfl rfl ?_
    obtain ⟨q30, g31, h32⟩ := Option.bind_eq_some_iff.mp h
    refine mr_cv (pc' := 90) (a := 145) (d1 := 1) dX11_wanders_87 rfl rfl rfl rfl rfl rfl (by decide) rfl (by decide) (ok_X11_otherEnd hR  g31) ?_
    show mr X _ _ 90 _ [.int q30] (MM RR S0) _
    by_cases c33 : q30 < (0 : Int32)
    · rw [if_pos c33] at h32
      refine mr_if_lt_t (t := 98) dX11_wanders_90 (by decide) c33 ?_
      refine mr_iload (pc' := 100) dX11_wanders_98 rfl rfl ?_
      refine mr_aload_n (pc' := 101) dX11_wanders_100 rfl rfl ?_
      refine mr_iload (pc' := 103) dX11_wanders_101 rfl rfl ?_
      refine mr_iload_n (pc' := 104) dX11_wanders_103 rfl rfl ?_
      obtain ⟨q34, g35, h36⟩ := Option.bind_eq_some_iff.mp h32
      refine mr_cv (pc' := 107) (a := 145) (d1 := 1) dX11_wanders_104 rfl rfl rfl rfl rfl rfl (by decide) rfl (by decide) (ok_X11_otherEnd hR  g35) ?_
      show mr X _ _ 107 _ [.int q34, .int p4] (MM RR S0) _
      by_cases c37 : q34 < (0 : Int32)
      · rw [if_pos c37] at h36
        refine mr_if_lt_t (t := 114) dX11_wanders_107 (by decide) c37 ?_
        refine mr_iconst (pc' := 115) (v := (0 : Int32)) dX11_wanders_114 rfl (by decide) ?_
        refine mr_isub (pc' := 116) dX11_wanders_115 rfl ?_
        refine mr_istore (pc' := 118) (lv' := [(4, .int (p4 - (0 : Int32))), (0, .ref 145), (1, .int p1), (2, .int p2), (5, .int p5)]) dX11_wanders_116 rfl (by decide) rfl ?_
        refine mr_iinc (pc' := 121) (x' := (p5 + (1 : Int32))) (lv' := [(5, .int (p5 + (1 : Int32))), (4, .int (p4 - (0 : Int32))), (0, .ref 145), (1, .int p1), (2, .int p2)]) dX11_wanders_118 rfl (by decide) rfl rfl rfl ?_
        refine mr_goto (t := 83) dX11_wanders_121 (by decide) ?_
        exact mr_sub [(0, .ref 145), (1, .int p1), (2, .int p2), (4, .int (p4 - (0 : Int32))), (5, .int (p5 + (1 : Int32)))] ⟨rfl, rfl, rfl, rfl, rfl, trivial⟩ rfl (ih _ _ _  h36)
      · rw [if_neg c37] at h36
        refine mr_if_lt_f (t := 114) (pc' := 110) dX11_wanders_107 (by decide) rfl c37 ?_
        refine mr_iconst (pc' := 111) (v := (1 : Int32)) dX11_wanders_110 rfl (by decide) ?_
        refine mr_goto (t := 115) dX11_wanders_111 (by decide) ?_
        refine mr_isub (pc' := 116) dX11_wanders_115 rfl ?_
        refine mr_istore (pc' := 118) (lv' := [(4, .int (p4 - (1 : Int32))), (0, .ref 145), (1, .int p1), (2, .int p2), (5, .int p5)]) dX11_wanders_116 rfl (by decide) rfl ?_
        refine mr_iinc (pc' := 121) (x' := (p5 + (1 : Int32))) (lv' := [(5, .int (p5 + (1 : Int32))), (4, .int (p4 - (1 : Int32))), (0, .ref 145), (1, .int p1), (2, .int p2)]) dX11_wanders_118 rfl (by decide) rfl rfl rfl ?_
        refine mr_goto (t := 83) dX11_wanders_121 (by decide) ?_
        exact mr_sub [(0, .ref 145), (1, .int p1), (2, .int p2), (4, .int (p4 - (1 : Int32))), (5, .int (p5 + (1 : Int32)))] ⟨rfl, rfl, rfl, rfl, rfl, trivial⟩ rfl (ih _ _ _  h36)
    · rw [if_neg c33] at h32
      refine mr_if_lt_f (t := 98) (pc' := 93) dX11_wanders_90 (by decide) rfl c33 ?_
      refine mr_iload (pc' := 95) dX11_wanders_93 rfl rfl ?_
      by_cases c38 : p4 ≤ (0 : Int32)
      · rw [if_pos c38] at h32
        refine mr_if_le_t (t := 124) dX11_wanders_95 (by decide) c38 ?_
        exact mr_sub [(0, .ref 145), (1, .int p1), (5, .int p5)] ⟨rfl, rfl, rfl, trivial⟩ rfl (hK _ _  h32)
      · rw [if_neg c38] at h32
        refine mr_if_le_f (t := 124) (pc' := 98) dX11_wanders_95 (by decide) rfl c38 ?_
        refine mr_iload (pc' := 100) dX11_wanders_98 rfl rfl ?_
        refine mr_aload_n (pc' := 101) dX11_wanders_100 rfl rfl ?_
        refine mr_iload (pc' := 103) dX11_wanders_101 rfl rfl ?_
        refine mr_iload_n (pc' := 104) dX11_wanders_103 rfl rfl ?_
        obtain ⟨q39, g40, h41⟩ := Option.bind_eq_some_iff.mp h32
        refine mr_cv (pc' := 107) (a := 145) (d1 := 1) dX11_wanders_104 rfl rfl rfl rfl rfl rfl (by decide) rfl (by decide) (ok_X11_otherEnd hR  g40) ?_
        show mr X _ _ 107 _ [.int q39, .int p4] (MM RR S0) _
        by_cases c42 : q39 < (0 : Int32)
        · rw [if_pos c42] at h41
          refine mr_if_lt_t (t := 114) dX11_wanders_107 (by decide) c42 ?_
          refine mr_iconst (pc' := 115) (v := (0 : Int32)) dX11_wanders_114 rfl (by decide) ?_
          refine mr_isub (pc' := 116) dX11_wanders_115 rfl ?_
          refine mr_istore (pc' := 118) (lv' := [(4, .int (p4 - (0 : Int32))), (0, .ref 145), (1, .int p1), (2, .int p2), (5, .int p5)]) dX11_wanders_116 rfl (by decide) rfl ?_
          refine mr_iinc (pc' := 121) (x' := (p5 + (1 : Int32))) (lv' := [(5, .int (p5 + (1 : Int32))), (4, .int (p4 - (0 : Int32))), (0, .ref 145), (1, .int p1), (2, .int p2)]) dX11_wanders_118 rfl (by decide) rfl rfl rfl ?_
          refine mr_goto (t := 83) dX11_wanders_121 (by decide) ?_
          exact mr_sub [(0, .ref 145), (1, .int p1), (2, .int p2), (4, .int (p4 - (0 : Int32))), (5, .int (p5 + (1 : Int32)))] ⟨rfl, rfl, rfl, rfl, rfl, trivial⟩ rfl (ih _ _ _  h41)
        · rw [if_neg c42] at h41
          refine mr_if_lt_f (t := 114) (pc' := 110) dX11_wanders_107 (by decide) rfl c42 ?_
          refine mr_iconst (pc' := 111) (v := (1 : Int32)) dX11_wanders_110 rfl (by decide) ?_
          refine mr_goto (t := 115) dX11_wanders_111 (by decide) ?_
          refine mr_isub (pc' := 116) dX11_wanders_115 rfl ?_
          refine mr_istore (pc' := 118) (lv' := [(4, .int (p4 - (1 : Int32))), (0, .ref 145), (1, .int p1), (2, .int p2), (5, .int p5)]) dX11_wanders_116 rfl (by decide) rfl ?_
          refine mr_iinc (pc' := 121) (x' := (p5 + (1 : Int32))) (lv' := [(5, .int (p5 + (1 : Int32))), (4, .int (p4 - (1 : Int32))), (0, .ref 145), (1, .int p1), (2, .int p2)]) dX11_wanders_118 rfl (by decide) rfl rfl rfl ?_
          refine mr_goto (t := 83) dX11_wanders_121 (by decide) ?_
          exact mr_sub [(0, .ref 145), (1, .int p1), (2, .int p2), (4, .int (p4 - (1 : Int32))), (5, .int (p5 + (1 : Int32)))] ⟨rfl, rfl, rfl, rfl, rfl, trivial⟩ rfl (ih _ _ _  h41)
def f_X11_wanders (v1 : Int32) (S : fS) : Option (fS) :=
  (f_X11_thingOf v1 (0 : Int32) S).bind fun q1 =>
  if q1 < (0 : Int32) then (some S) else
  ((f_X11_draw  S).bind fun q5 =>
  (rL q5.1 (4 : Int64)).bind fun a8 =>
  if a8 = (0 : Int64) then (lp_X11_wanders_30 v1 q1 (fun u20 S21 => if u20 = (0 : Int32) then (some S21) else
  ((f_X11_draw  S21).bind fun q24 =>
  (rL q24.1 (Int32.toInt64 u20)).bind fun a27 =>
  lp_X11_wanders_83 v1 q1 (fun u43 S44 => (f_X11_setsOff v1 u43 S44).bind fun q46 =>
  some q46) FU (Int64.toInt32 a27) (0 : Int32) q24.2)) FU (0 : Int32) (0 : Int32) q5.2) else
  (some q5.2))
set_option maxHeartbeats 4000000 in
set_option maxRecDepth 100000 in
theorem ok_X11_wanders {X : mm_C} {RR : Nat → Nat → Option Nat} (hR : RRok RR) {v1 : Int32}  {S : fS} {r : fS} (h : f_X11_wanders v1 S = some r) : mr X 3 mY_X11_wanders 0 (lv_args 0 [.ref 145, .int v1]) [] (MM RR S) (none, MM RR r) := by
  unfold f_X11_wanders at h
  show mr X _ _ 0 [(0, .ref 145), (1, .int v1)] [] (MM RR S) _
  refine mr_aload_n (pc' := 1) dX11_wanders_0 rfl rfl ?_
  refine mr_iload_n (pc' := 2) dX11_wanders_1 rfl rfl ?_
  refine mr_iconst (pc' := 3) (v := (0 : Int32)) dX11_wanders_2 rfl (by decide) ?_
  obtain ⟨q1, g2, h3⟩ := Option.bind_eq_some_iff.mp h
  refine mr_cv (pc' := 6) (a := 145) (d1 := 0) dX11_wanders_3 rfl rfl rfl rfl rfl rfl (by decide) rfl (by decide) (ok_X11_thingOf hR  g2) ?_
  show mr X _ _ 6 _ [.int q1] (MM RR S) _
  refine mr_istore_n (pc' := 7) (lv' := [(2, .int q1), (0, .ref 145), (1, .int v1)]) dX11_wanders_6 rfl (by decide) rfl ?_
  refine mr_iload_n (pc' := 8) dX11_wanders_7 rfl rfl ?_
  by_cases c4 : q1 < (0 : Int32)
  · rw [if_pos c4] at h3
    refine mr_if_lt_t (t := 24) dX11_wanders_8 (by decide) c4 ?_
    obtain rfl := Option.some.inj h3
    exact mr_return dX11_wanders_24 rfl
  · rw [if_neg c4] at h3
    refine mr_if_lt_f (t := 24) (pc' := 11) dX11_wanders_8 (by decide) rfl c4 ?_
    refine mr_aload_n (pc' := 12) dX11_wanders_11 rfl rfl ?_
    obtain ⟨q5, g6, h7⟩ := Option.bind_eq_some_iff.mp h3
    refine mr_cv (pc' := 15) (a := 145) (d1 := 0) dX11_wanders_12 rfl rfl rfl rfl rfl rfl (by decide) rfl (by decide) (ok_X11_draw hR  g6) ?_
    show mr X _ _ 15 _ [.long q5.1] (MM RR q5.2) _
    refine mr_ldc2 (pc' := 18) (v := (4 : Int64)) dX11_wanders_15 rfl rfl ?_
    obtain ⟨a8, g9, h10⟩ := Option.bind_eq_some_iff.mp h7
    refine mr_lrem (pc' := 19) dX11_wanders_18 rfl g9 ?_
    refine mr_lconst (pc' := 20) (v := (0 : Int64)) dX11_wanders_19 rfl (by decide) ?_
    by_cases c11 : a8 = (0 : Int64)
    · rw [if_pos c11] at h10
      refine mr_lcmp_eq_t (t := 25) dX11_wanders_20 rfl dX11_wanders_21 (by decide) c11 ?_
      refine mr_iconst (pc' := 26) (v := (0 : Int32)) dX11_wanders_25 rfl (by decide) ?_
      refine mr_istore_n (pc' := 27) (lv' := [(3, .int (0 : Int32)), (2, .int q1), (0, .ref 145), (1, .int v1)]) dX11_wanders_26 rfl (by decide) rfl ?_
      refine mr_iconst (pc' := 28) (v := (0 : Int32)) dX11_wanders_27 rfl (by decide) ?_
      refine mr_istore (pc' := 30) (lv' := [(4, .int (0 : Int32)), (3, .int (0 : Int32)), (2, .int q1), (0, .ref 145), (1, .int v1)]) dX11_wanders_28 rfl (by decide) rfl ?_
      refine mr_sub [(0, .ref 145), (1, .int v1), (2, .int q1), (3, .int (0 : Int32)), (4, .int (0 : Int32))] ⟨rfl, rfl, rfl, rfl, rfl, trivial⟩ rfl ?_
      refine ok_lp_X11_wanders_30 hR  (fun u20 S21 h22 => ?_) FU _ _ _  h10
      refine mr_iload_n (pc' := 66) dX11_wanders_65 rfl rfl ?_
      by_cases c23 : u20 = (0 : Int32)
      · rw [if_pos c23] at h22
        refine mr_if_ne_f (t := 70) (pc' := 69) dX11_wanders_66 (by decide) rfl (not_not_intro c23) ?_
        obtain rfl := Option.some.inj h22
        exact mr_return dX11_wanders_69 rfl
      · rw [if_neg c23] at h22
        refine mr_if_ne_t (t := 70) dX11_wanders_66 (by decide) c23 ?_
        refine mr_aload_n (pc' := 71) dX11_wanders_70 rfl rfl ?_
        obtain ⟨q24, g25, h26⟩ := Option.bind_eq_some_iff.mp h22
        refine mr_cv (pc' := 74) (a := 145) (d1 := 0) dX11_wanders_71 rfl rfl rfl rfl rfl rfl (by decide) rfl (by decide) (ok_X11_draw hR  g25) ?_
        show mr X _ _ 74 _ [.long q24.1] (MM RR q24.2) _
        refine mr_iload_n (pc' := 75) dX11_wanders_74 rfl rfl ?_
        refine mr_i2l (pc' := 76) dX11_wanders_75 rfl ?_
        obtain ⟨a27, g28, h29⟩ := Option.bind_eq_some_iff.mp h26
        refine mr_lrem (pc' := 77) dX11_wanders_76 rfl g28 ?_
        refine mr_l2i (pc' := 78) dX11_wanders_77 rfl ?_
        refine mr_istore (pc' := 80) (lv' := [(4, .int (Int64.toInt32 a27)), (0, .ref 145), (1, .int v1), (2, .int q1), (3, .int u20)]) dX11_wanders_78 rfl (by decide) rfl ?_
        refine mr_iconst (pc' := 81) (v := (0 : Int32)) dX11_wanders_80 rfl (by decide) ?_
        refine mr_istore (pc' := 83) (lv' := [(5, .int (0 : Int32)), (4, .int (Int64.toInt32 a27)), (0, .ref 145), (1, .int v1), (2, .int q1), (3, .int u20)]) dX11_wanders_81 rfl (by decide) rfl ?_
        refine mr_sub [(0, .ref 145), (1, .int v1), (2, .int q1), (4, .int (Int64.toInt32 a27)), (5, .int (0 : Int32))] ⟨rfl, rfl, rfl, rfl, rfl, trivial⟩ rfl ?_
        refine ok_lp_X11_wanders_83 hR  (fun u43 S44 h45 => ?_) FU _ _ _  h29
        refine mr_aload_n (pc' := 125) dX11_wanders_124 rfl rfl ?_
        refine mr_iload_n (pc' := 126) dX11_wanders_125 rfl rfl ?_
        refine mr_iload (pc' := 128) dX11_wanders_126 rfl rfl ?_
        obtain ⟨q46, g47, h48⟩ := Option.bind_eq_some_iff.mp h45
        refine mr_cv (pc' := 131) (a := 145) (d1 := 2) dX11_wanders_128 rfl rfl rfl rfl rfl rfl (by decide) rfl (by decide) (ok_X11_setsOff hR  g47) ?_
        show mr X _ _ 131 _ [] (MM RR q46) _
        obtain rfl := Option.some.inj h48
        exact mr_return dX11_wanders_131 rfl
    · rw [if_neg c11] at h10
      refine mr_lcmp_eq_f (t := 25) (pc' := 24) dX11_wanders_20 rfl dX11_wanders_21 (by decide) rfl c11 ?_
      obtain rfl := Option.some.inj h10
      exact mr_return dX11_wanders_24 rfl
def lp_X11_meetings_105 (p1 : Int32) (p2 : Int32) (p3 : Int32) (p4 : Int32) (p5 : Int32) (p6 : Int32) (p7 : Int32) (p8 : Int32) (p9 : Int32) (p10 : Int32) (K : fS → Option (Int32 × fS)) : Nat → Int32 → fS → Option (Int32 × fS)
  | 0, _, _ => none
  | n + 1, p11, S0 =>
    (gI S0 157 158 (2 : Int32)).bind fun a33 =>
    if a33 ≤ p11 then (K S0) else
    ((f_X11_wanders p11 S0).bind fun q37 =>
    lp_X11_meetings_105 p1 p2 p3 p4 p5 p6 p7 p8 p9 p10 K n (p11 + (1 : Int32)) q37)
set_option maxHeartbeats 4000000 in
set_option maxRecDepth 100000 in
theorem ok_lp_X11_meetings_105 {X : mm_C} {RR : Nat → Nat → Option Nat} (hR : RRok RR) {p1 : Int32} {p2 : Int32} {p3 : Int32} {p4 : Int32} {p5 : Int32} {p6 : Int32} {p7 : Int32} {p8 : Int32} {p9 : Int32} {p10 : Int32}  {K : fS → Option (Int32 × fS)} {r : Int32 × fS} (hK : ∀ (Sk : fS), K Sk = some r → mr X 4 mY_X11_meetings 128 [(0, .ref 145), (1, .int p1), (2, .int p2), (3, .int p3), (4, .int p4), (5, .int p5), (6, .int p6), (7, .int p7), (8, .int p8), (9, .int p9), (10, .int p10)] [] (MM RR Sk) (some (.int r.1), MM RR r.2)) : ∀ (n : Nat) (p11 : Int32) (S0 : fS), lp_X11_meetings_105 p1 p2 p3 p4 p5 p6 p7 p8 p9 p10 K n p11 S0 = some r → mr X 4 mY_X11_meetings 105 [(0, .ref 145), (1, .int p1), (2, .int p2), (3, .int p3), (4, .int p4), (5, .int p5), (6, .int p6), (7, .int p7), (8, .int p8), (9, .int p9), (10, .int p10), (11, .int p11)] [] (MM RR S0) (some (.int r.1), MM RR r.2) := by
  intro n
  induction n with
  | zero => intro p11 S0 h; exact mm_no h
  | succ n ih =>
    intro p11 S0 h
    unfold lp_X11_meetings_105 at h
    refine mr_iload (pc' := 107) dX11_meetings_105 rfl rfl ?_
    refine mr_aload_n (pc' := 108) dX11_meetings_107 rfl rfl ?_
    refine mr_getR (pc' := 111) (ci := 11) (j := 25) (b := 157) hR dX11_meetings_108 rfl rfl rfl (by decide) (by decide) (by decide) rfl rfl ?_
    refine mr_iconst (pc' := 112) (v := (2 : Int32)) dX11_meetings_111 rfl (by decide) ?_
    obtain ⟨a33, g34, h35⟩ := Option.bind_eq_some_iff.mp h
    refine mr_iald (pc' := 113) dX11_meetings_112 rfl rfl rfl g34 ?_
    by_cases c36 : a33 ≤ p11
    · rw [if_pos c36] at h35
      refine mr_icmp_ge_t (t := 128) dX11_meetings_113 (by decide) c36 ?_
      exact mr_sub [(0, .ref 145), (1, .int p1), (2, .int p2), (3, .int p3), (4, .int p4), (5, .int p5), (6, .int p6), (7, .int p7), (8, .int p8), (9, .int p9), (10, .int p10)] ⟨rfl, rfl, rfl, rfl, rfl, rfl, rfl, rfl, rfl, rfl, rfl, trivial⟩ rfl (hK _  h35)
    · rw [if_neg c36] at h35
      refine mr_icmp_ge_f (t := 128) (pc' := 116) dX11_meetings_113 (by decide) rfl c36 ?_
      refine mr_aload_n (pc' := 117) dX11_meetings_116 rfl rfl ?_
      refine mr_iload (pc' := 119) dX11_meetings_117 rfl rfl ?_
      obtain ⟨q37, g38, h39⟩ := Option.bind_eq_some_iff.mp h35
      refine mr_cv (pc' := 122) (a := 145) (d1 := 3) dX11_meetings_119 rfl rfl rfl rfl rfl rfl (by decide) rfl (by decide) (ok_X11_wanders hR  g38) ?_
      show mr X _ _ 122 _ [] (MM RR q37) _
      refine mr_iinc (pc' := 125) (x' := (p11 + (1 : Int32))) (lv' := [(11, .int (p11 + (1 : Int32))), (0, .ref 145), (1, .int p1), (2, .int p2), (3, .int p3), (4, .int p4), (5, .int p5), (6, .int p6), (7, .int p7), (8, .int p8), (9, .int p9), (10, .int p10)]) dX11_meetings_122 rfl (by decide) rfl rfl rfl ?_
      refine mr_goto (t := 105) dX11_meetings_125 (by decide) ?_
      exact mr_sub [(0, .ref 145), (1, .int p1), (2, .int p2), (3, .int p3), (4, .int p4), (5, .int p5), (6, .int p6), (7, .int p7), (8, .int p8), (9, .int p9), (10, .int p10), (11, .int (p11 + (1 : Int32)))] ⟨rfl, rfl, rfl, rfl, rfl, rfl, rfl, rfl, rfl, rfl, rfl, rfl, trivial⟩ rfl (ih _ _  h39)
def lp_X11_meetings_95 (p1 : Int32) (p2 : Int32) (p3 : Int32) (p4 : Int32) (p5 : Int32) (p6 : Int32) (p7 : Int32) (p8 : Int32) (K : Int32 → fS → Option (Int32 × fS)) : Nat → Int32 → Int32 → fS → Option (Int32 × fS)
  | 0, _, _, _ => none
  | n + 1, p9, p10, S0 =>
    if p4 ≤ p10 then (K p9 S0) else
    (lp_X11_meetings_105 p1 p2 p3 p4 p5 p6 p7 p8 p9 p10 (fun S40 => (f_X11_ageAll  S40).bind fun q42 =>
    (f_X11_thingOf p1 (0 : Int32) q42).bind fun q45 =>
    if q45 < (0 : Int32) then (lp_X11_meetings_95 p1 p2 p3 p4 p5 p6 p7 p8 K n (p9 + (0 : Int32)) (p10 + (1 : Int32)) q42) else
    ((f_X11_thingOf p1 (0 : Int32) q42).bind fun q49 =>
    (f_X11_thingOf p2 (0 : Int32) q42).bind fun q52 =>
    if q49 = q52 then (lp_X11_meetings_95 p1 p2 p3 p4 p5 p6 p7 p8 K n (p9 + (1 : Int32)) (p10 + (1 : Int32)) q42) else
    (lp_X11_meetings_95 p1 p2 p3 p4 p5 p6 p7 p8 K n (p9 + (0 : Int32)) (p10 + (1 : Int32)) q42))) FU (0 : Int32) S0)
set_option maxHeartbeats 4000000 in
set_option maxRecDepth 100000 in
theorem ok_lp_X11_meetings_95 {X : mm_C} {RR : Nat → Nat → Option Nat} (hR : RRok RR) {p1 : Int32} {p2 : Int32} {p3 : Int32} {p4 : Int32} {p5 : Int32} {p6 : Int32} {p7 : Int32} {p8 : Int32}  {K : Int32 → fS → Option (Int32 × fS)} {r : Int32 × fS} (hK : ∀ (k9 : Int32) (Sk : fS), K k9 Sk = some r → mr X 4 mY_X11_meetings 172 [(0, .ref 145), (1, .int p1), (2, .int p2), (3, .int p3), (4, .int p4), (5, .int p5), (6, .int p6), (7, .int p7), (8, .int p8), (9, .int k9)] [] (MM RR Sk) (some (.int r.1), MM RR r.2)) : ∀ (n : Nat) (p9 : Int32) (p10 : Int32) (S0 : fS), lp_X11_meetings_95 p1 p2 p3 p4 p5 p6 p7 p8 K n p9 p10 S0 = some r → mr X 4 mY_X11_meetings 95 [(0, .ref 145), (1, .int p1), (2, .int p2), (3, .int p3), (4, .int p4), (5, .int p5), (6, .int p6), (7, .int p7), (8, .int p8), (9, .int p9), (10, .int p10)] [] (MM RR S0) (some (.int r.1), MM RR r.2) := by
  intro n
  induction n with
  | zero => intro p9 p10 S0 h; exact mm_no h
  | succ n ih =>
    intro p9 p10 S0 h
    unfold lp_X11_meetings_95 at h
    refine mr_iload (pc' := 97) dX11_meetings_95 rfl rfl ?_
    refine mr_iload (pc' := 99) dX11_meetings_97 rfl rfl ?_
    by_cases c32 : p4 ≤ p10
    · rw [if_pos c32] at h
      refine mr_icmp_ge_t (t := 172) dX11_meetings_99 (by decide) c32 ?_
      exact mr_sub [(0, .ref 145), (1, .int p1), (2, .int p2), (3, .int p3), (4, .int p4), (5, .int p5), (6, .int p6), (7, .int p7), (8, .int p8), (9, .int p9)] ⟨rfl, rfl, rfl, rfl, rfl, rfl, rfl, rfl, rfl, rfl, trivial⟩ rfl (hK _ _  h)
    · rw [if_neg c32] at h
      refine mr_icmp_ge_f (t := 172) (pc' := 102) dX11_meetings_99 (by decide) rfl c32 ?_
      refine mr_iconst (pc' := 103) (v := (0 : Int32)) dX11_meetings_102 rfl (by decide) ?_
      refine mr_istore (pc' := 105) (lv' := [(11, .int (0 : Int32)), (0, .ref 145), (1, .int p1), (2, .int p2), (3, .int p3), (4, .int p4), (5, .int p5), (6, .int p6), (7, .int p7), (8, .int p8), (9, .int p9), (10, .int p10)]) dX11_meetings_103 rfl (by decide) rfl ?_
      refine mr_sub [(0, .ref 145), (1, .int p1), (2, .int p2), (3, .int p3), (4, .int p4), (5, .int p5), (6, .int p6), (7, .int p7), (8, .int p8), (9, .int p9), (10, .int p10), (11, .int (0 : Int32))] ⟨rfl, rfl, rfl, rfl, rfl, rfl, rfl, rfl, rfl, rfl, rfl, rfl, trivial⟩ rfl ?_
      refine ok_lp_X11_meetings_105 hR  (fun S40 h41 => ?_) FU _ _  h
      refine mr_aload_n (pc' := 129) dX11_meetings_128 rfl rfl ?_
      obtain ⟨q42, g43, h44⟩ := Option.bind_eq_some_iff.mp h41
      refine mr_cv (pc' := 132) (a := 145) (d1 := 2) dX11_meetings_129 rfl rfl rfl rfl rfl rfl (by decide) rfl (by decide) (ok_X11_ageAll hR  g43) ?_
      show mr X _ _ 132 _ [] (MM RR q42) _
      refine mr_iload (pc' := 134) dX11_meetings_132 rfl rfl ?_
      refine mr_aload_n (pc' := 135) dX11_meetings_134 rfl rfl ?_
      refine mr_iload_n (pc' := 136) dX11_meetings_135 rfl rfl ?_
      refine mr_iconst (pc' := 137) (v := (0 : Int32)) dX11_meetings_136 rfl (by decide) ?_
      obtain ⟨q45, g46, h47⟩ := Option.bind_eq_some_iff.mp h44
      refine mr_cv (pc' := 140) (a := 145) (d1 := 0) dX11_meetings_137 rfl rfl rfl rfl rfl rfl (by decide) rfl (by decide) (ok_X11_thingOf hR  g46) ?_
      show mr X _ _ 140 _ [.int q45, .int p9] (MM RR q42) _
      by_cases c48 : q45 < (0 : Int32)
      · rw [if_pos c48] at h47
        refine mr_if_lt_t (t := 162) dX11_meetings_140 (by decide) c48 ?_
        refine mr_iconst (pc' := 163) (v := (0 : Int32)) dX11_meetings_162 rfl (by decide) ?_
        refine mr_iadd (pc' := 164) dX11_meetings_163 rfl ?_
        refine mr_istore (pc' := 166) (lv' := [(9, .int (p9 + (0 : Int32))), (0, .ref 145), (1, .int p1), (2, .int p2), (3, .int p3), (4, .int p4), (5, .int p5), (6, .int p6), (7, .int p7), (8, .int p8), (10, .int p10)]) dX11_meetings_164 rfl (by decide) rfl ?_
        refine mr_iinc (pc' := 169) (x' := (p10 + (1 : Int32))) (lv' := [(10, .int (p10 + (1 : Int32))), (9, .int (p9 + (0 : Int32))), (0, .ref 145), (1, .int p1), (2, .int p2), (3, .int p3), (4, .int p4), (5, .int p5), (6, .int p6), (7, .int p7), (8, .int p8)]) dX11_meetings_166 rfl (by decide) rfl rfl rfl ?_
        refine mr_goto (t := 95) dX11_meetings_169 (by decide) ?_
        exact mr_sub [(0, .ref 145), (1, .int p1), (2, .int p2), (3, .int p3), (4, .int p4), (5, .int p5), (6, .int p6), (7, .int p7), (8, .int p8), (9, .int (p9 + (0 : Int32))), (10, .int (p10 + (1 : Int32)))] ⟨rfl, rfl, rfl, rfl, rfl, rfl, rfl, rfl, rfl, rfl, rfl, trivial⟩ rfl (ih _ _ _  h47)
      · rw [if_neg c48] at h47
        refine mr_if_lt_f (t := 162) (pc' := 143) dX11_meetings_140 (by decide) rfl c48 ?_
        refine mr_aload_n (pc' := 144) dX11_meetings_143 rfl rfl ?_
        refine mr_iload_n (pc' := 145) dX11_meetings_144 rfl rfl ?_
        refine mr_iconst (pc' := 146) (v := (0 : Int32)) dX11_meetings_145 rfl (by decide) ?_
        obtain ⟨q49, g50, h51⟩ := Option.bind_eq_some_iff.mp h47
        refine mr_cv (pc' := 149) (a := 145) (d1 := 0) dX11_meetings_146 rfl rfl rfl rfl rfl rfl (by decide) rfl (by decide) (ok_X11_thingOf hR  g50) ?_
        show mr X _ _ 149 _ [.int q49, .int p9] (MM RR q42) _
        refine mr_aload_n (pc' := 150) dX11_meetings_149 rfl rfl ?_
        refine mr_iload_n (pc' := 151) dX11_meetings_150 rfl rfl ?_
        refine mr_iconst (pc' := 152) (v := (0 : Int32)) dX11_meetings_151 rfl (by decide) ?_
        obtain ⟨q52, g53, h54⟩ := Option.bind_eq_some_iff.mp h51
        refine mr_cv (pc' := 155) (a := 145) (d1 := 0) dX11_meetings_152 rfl rfl rfl rfl rfl rfl (by decide) rfl (by decide) (ok_X11_thingOf hR  g53) ?_
        show mr X _ _ 155 _ [.int q52, .int q49, .int p9] (MM RR q42) _
        by_cases c55 : q49 = q52
        · rw [if_pos c55] at h54
          refine mr_icmp_ne_f (t := 162) (pc' := 158) dX11_meetings_155 (by decide) rfl (not_not_intro c55) ?_
          refine mr_iconst (pc' := 159) (v := (1 : Int32)) dX11_meetings_158 rfl (by decide) ?_
          refine mr_goto (t := 163) dX11_meetings_159 (by decide) ?_
          refine mr_iadd (pc' := 164) dX11_meetings_163 rfl ?_
          refine mr_istore (pc' := 166) (lv' := [(9, .int (p9 + (1 : Int32))), (0, .ref 145), (1, .int p1), (2, .int p2), (3, .int p3), (4, .int p4), (5, .int p5), (6, .int p6), (7, .int p7), (8, .int p8), (10, .int p10)]) dX11_meetings_164 rfl (by decide) rfl ?_
          refine mr_iinc (pc' := 169) (x' := (p10 + (1 : Int32))) (lv' := [(10, .int (p10 + (1 : Int32))), (9, .int (p9 + (1 : Int32))), (0, .ref 145), (1, .int p1), (2, .int p2), (3, .int p3), (4, .int p4), (5, .int p5), (6, .int p6), (7, .int p7), (8, .int p8)]) dX11_meetings_166 rfl (by decide) rfl rfl rfl ?_
          refine mr_goto (t := 95) dX11_meetings_169 (by decide) ?_
          exact mr_sub [(0, .ref 145), (1, .int p1), (2, .int p2), (3, .int p3), (4, .int p4), (5, .int p5), (6, .int p6), (7, .int p7), (8, .int p8), (9, .int (p9 + (1 : Int32))), (10, .int (p10 + (1 : Int32)))] ⟨rfl, rfl, rfl, rfl, rfl, rfl, rfl, rfl, rfl, rfl, rfl, trivial⟩ rfl (ih _ _ _  h54)
        · rw [if_neg c55] at h54
          refine mr_icmp_ne_t (t := 162) dX11_meetings_155 (by decide) c55 ?_
          refine mr_iconst (pc' := 163) (v := (0 : Int32)) dX11_meetings_162 rfl (by decide) ?_
          refine mr_iadd (pc' := 164) dX11_meetings_163 rfl ?_
          refine mr_istore (pc' := 166) (lv' := [(9, .int (p9 + (0 : Int32))), (0, .ref 145), (1, .int p1), (2, .int p2), (3, .int p3), (4, .int p4), (5, .int p5), (6, .int p6), (7, .int p7), (8, .int p8), (10, .int p10)]) dX11_meetings_164 rfl (by decide) rfl ?_
          refine mr_iinc (pc' := 169) (x' := (p10 + (1 : Int32))) (lv' := [(10, .int (p10 + (1 : Int32))), (9, .int (p9 + (0 : Int32))), (0, .ref 145), (1, .int p1), (2, .int p2), (3, .int p3), (4, .int p4), (5, .int p5), (6, .int p6), (7, .int p7), (8, .int p8)]) dX11_meetings_166 rfl (by decide) rfl rfl rfl ?_
          refine mr_goto (t := 95) dX11_meetings_169 (by decide) ?_
          exact mr_sub [(0, .ref 145), (1, .int p1), (2, .int p2), (3, .int p3), (4, .int p4), (5, .int p5), (6, .int p6), (7, .int p7), (8, .int p8), (9, .int (p9 + (0 : Int32))), (10, .int (p10 + (1 : Int32)))] ⟨rfl, rfl, rfl, rfl, rfl, rfl, rfl, rfl, rfl, rfl, rfl, trivial⟩ rfl (ih _ _ _  h54)
def lp_X11_meetings_83 (p1 : Int32) (p2 : Int32) (p3 : Int32) (p4 : Int32) (p5 : Int32) (K : Int32 → Int32 → fS → Option (Int32 × fS)) : Nat → Int32 → Int32 → Int32 → fS → Option (Int32 × fS)
  | 0, _, _, _, _ => none
  | n + 1, p6, p7, p8, S0 =>
    if p3 ≤ p8 then (K p6 p7 S0) else
    (lp_X11_meetings_95 p1 p2 p3 p4 p5 p6 p7 p8 (fun u56 S57 => if u56 ≤ (0 : Int32) then ((f_X11_putsBack  S57).bind fun q60 =>
    lp_X11_meetings_83 p1 p2 p3 p4 p5 K n (p6 + u56) (p7 + (0 : Int32)) (p8 + (1 : Int32)) q60) else
    ((f_X11_putsBack  S57).bind fun q63 =>
    lp_X11_meetings_83 p1 p2 p3 p4 p5 K n (p6 + u56) (p7 + (1 : Int32)) (p8 + (1 : Int32)) q63)) FU (0 : Int32) (0 : Int32) S0)
set_option maxHeartbeats 4000000 in
set_option maxRecDepth 100000 in
theorem ok_lp_X11_meetings_83 {X : mm_C} {RR : Nat → Nat → Option Nat} (hR : RRok RR) {p1 : Int32} {p2 : Int32} {p3 : Int32} {p4 : Int32} {p5 : Int32}  {K : Int32 → Int32 → fS → Option (Int32 × fS)} {r : Int32 × fS} (hK : ∀ (k6 : Int32) (k7 : Int32) (Sk : fS), K k6 k7 Sk = some r → mr X 4 mY_X11_meetings 204 [(5, .int p5), (6, .int k6), (7, .int k7)] [] (MM RR Sk) (some (.int r.1), MM RR r.2)) : ∀ (n : Nat) (p6 : Int32) (p7 : Int32) (p8 : Int32) (S0 : fS), lp_X11_meetings_83 p1 p2 p3 p4 p5 K n p6 p7 p8 S0 = some r → mr X 4 mY_X11_meetings 83 [(0, .ref 145), (1, .int p1), (2, .int p2), (3, .int p3), (4, .int p4), (5, .int p5), (6, .int p6), (7, .int p7), (8, .int p8)] [] (MM RR S0) (some (.int r.1), MM RR r.2) := by
  intro n
  induction n with
  | zero => intro p6 p7 p8 S0 h; exact mm_no h
  | succ n ih =>
    intro p6 p7 p8 S0 h
    unfold lp_X11_meetings_83 at h
    refine mr_iload (pc' := 85) dX11_meetings_83 rfl rfl ?_
    refine mr_iload_n (pc' := 86) dX11_meetings_85 rfl rfl ?_
    by_cases c31 : p3 ≤ p8
    · rw [if_pos c31] at h
      refine mr_icmp_ge_t (t := 204) dX11_meetings_86 (by decide) c31 ?_
      exact mr_sub [(5, .int p5), (6, .int p6), (7, .int p7)] ⟨rfl, rfl, rfl, trivial⟩ rfl (hK _ _ _  h)
    · rw [if_neg c31] at h
      refine mr_icmp_ge_f (t := 204) (pc' := 89) dX11_meetings_86 (by decide) rfl c31 ?_
      refine mr_iconst (pc' := 90) (v := (0 : Int32)) dX11_meetings_89 rfl (by decide) ?_
      refine mr_istore (pc' := 92) (lv' := [(9, .int (0 : Int32)), (0, .ref 145), (1, .int p1), (2, .int p2), (3, .int p3), (4, .int p4), (5, .int p5), (6, .int p6), (7, .int p7), (8, .int p8)]) dX11_meetings_90 rfl (by decide) rfl ?_
      refine mr_iconst (pc' := 93) (v := (0 : Int32)) dX11_meetings_92 rfl (by decide) ?_
      refine mr_istore (pc' := 95) (lv' := [(10, .int (0 : Int32)), (9, .int (0 : Int32)), (0, .ref 145), (1, .int p1), (2, .int p2), (3, .int p3), (4, .int p4), (5, .int p5), (6, .int p6), (7, .int p7), (8, .int p8)]) dX11_meetings_93 rfl (by decide) rfl ?_
      refine mr_sub [(0, .ref 145), (1, .int p1), (2, .int p2), (3, .int p3), (4, .int p4), (5, .int p5), (6, .int p6), (7, .int p7), (8, .int p8), (9, .int (0 : Int32)), (10, .int (0 : Int32))] ⟨rfl, rfl, rfl, rfl, rfl, rfl, rfl, rfl, rfl, rfl, rfl, trivial⟩ rfl ?_
      refine ok_lp_X11_meetings_95 hR  (fun u56 S57 h58 => ?_) FU _ _ _  h
      refine mr_iload (pc' := 174) dX11_meetings_172 rfl rfl ?_
      refine mr_iload (pc' := 176) dX11_meetings_174 rfl rfl ?_
      refine mr_iadd (pc' := 177) dX11_meetings_176 rfl ?_
      refine mr_istore (pc' := 179) (lv' := [(6, .int (p6 + u56)), (0, .ref 145), (1, .int p1), (2, .int p2), (3, .int p3), (4, .int p4), (5, .int p5), (7, .int p7), (8, .int p8), (9, .int u56)]) dX11_meetings_177 rfl (by decide) rfl ?_
      refine mr_iload (pc' := 181) dX11_meetings_179 rfl rfl ?_
      refine mr_iload (pc' := 183) dX11_meetings_181 rfl rfl ?_
      by_cases c59 : u56 ≤ (0 : Int32)
      · rw [if_pos c59] at h58
        refine mr_if_le_t (t := 190) dX11_meetings_183 (by decide) c59 ?_
        refine mr_iconst (pc' := 191) (v := (0 : Int32)) dX11_meetings_190 rfl (by decide) ?_
        refine mr_iadd (pc' := 192) dX11_meetings_191 rfl ?_
        refine mr_istore (pc' := 194) (lv' := [(7, .int (p7 + (0 : Int32))), (6, .int (p6 + u56)), (0, .ref 145), (1, .int p1), (2, .int p2), (3, .int p3), (4, .int p4), (5, .int p5), (8, .int p8), (9, .int u56)]) dX11_meetings_192 rfl (by decide) rfl ?_
        refine mr_aload_n (pc' := 195) dX11_meetings_194 rfl rfl ?_
        obtain ⟨q60, g61, h62⟩ := Option.bind_eq_some_iff.mp h58
        refine mr_cv (pc' := 198) (a := 145) (d1 := 0) dX11_meetings_195 rfl rfl rfl rfl rfl rfl (by decide) rfl (by decide) (ok_X11_putsBack hR  g61) ?_
        show mr X _ _ 198 _ [] (MM RR q60) _
        refine mr_iinc (pc' := 201) (x' := (p8 + (1 : Int32))) (lv' := [(8, .int (p8 + (1 : Int32))), (7, .int (p7 + (0 : Int32))), (6, .int (p6 + u56)), (0, .ref 145), (1, .int p1), (2, .int p2), (3, .int p3), (4, .int p4), (5, .int p5), (9, .int u56)]) dX11_meetings_198 rfl (by decide) rfl rfl rfl ?_
        refine mr_goto (t := 83) dX11_meetings_201 (by decide) ?_
        exact mr_sub [(0, .ref 145), (1, .int p1), (2, .int p2), (3, .int p3), (4, .int p4), (5, .int p5), (6, .int (p6 + u56)), (7, .int (p7 + (0 : Int32))), (8, .int (p8 + (1 : Int32)))] ⟨rfl, rfl, rfl, rfl, rfl, rfl, rfl, rfl, rfl, trivial⟩ rfl (ih _ _ _ _  h62)
      · rw [if_neg c59] at h58
        refine mr_if_le_f (t := 190) (pc' := 186) dX11_meetings_183 (by decide) rfl c59 ?_
        refine mr_iconst (pc' := 187) (v := (1 : Int32)) dX11_meetings_186 rfl (by decide) ?_
        refine mr_goto (t := 191) dX11_meetings_187 (by decide) ?_
        refine mr_iadd (pc' := 192) dX11_meetings_191 rfl ?_
        refine mr_istore (pc' := 194) (lv' := [(7, .int (p7 + (1 : Int32))), (6, .int (p6 + u56)), (0, .ref 145), (1, .int p1), (2, .int p2), (3, .int p3), (4, .int p4), (5, .int p5), (8, .int p8), (9, .int u56)]) dX11_meetings_192 rfl (by decide) rfl ?_
        refine mr_aload_n (pc' := 195) dX11_meetings_194 rfl rfl ?_
        obtain ⟨q63, g64, h65⟩ := Option.bind_eq_some_iff.mp h58
        refine mr_cv (pc' := 198) (a := 145) (d1 := 0) dX11_meetings_195 rfl rfl rfl rfl rfl rfl (by decide) rfl (by decide) (ok_X11_putsBack hR  g64) ?_
        show mr X _ _ 198 _ [] (MM RR q63) _
        refine mr_iinc (pc' := 201) (x' := (p8 + (1 : Int32))) (lv' := [(8, .int (p8 + (1 : Int32))), (7, .int (p7 + (1 : Int32))), (6, .int (p6 + u56)), (0, .ref 145), (1, .int p1), (2, .int p2), (3, .int p3), (4, .int p4), (5, .int p5), (9, .int u56)]) dX11_meetings_198 rfl (by decide) rfl rfl rfl ?_
        refine mr_goto (t := 83) dX11_meetings_201 (by decide) ?_
        exact mr_sub [(0, .ref 145), (1, .int p1), (2, .int p2), (3, .int p3), (4, .int p4), (5, .int p5), (6, .int (p6 + u56)), (7, .int (p7 + (1 : Int32))), (8, .int (p8 + (1 : Int32)))] ⟨rfl, rfl, rfl, rfl, rfl, rfl, rfl, rfl, rfl, trivial⟩ rfl (ih _ _ _ _  h65)
def f_X11_meetings (v1 : Int32) (v2 : Int32) (v3 : Int32) (v4 : Int32) (v5 : Int32) (S : fS) : Option (Int32 × fS) :=
  (f_X11_isThing v1 S).bind fun q1 =>
  if q1 = (0 : Int32) then (some ((-1 : Int32), S)) else
  ((f_X11_isThing v2 S).bind fun q5 =>
  if q5 = (0 : Int32) then (some ((-1 : Int32), S)) else
  (if v1 = v2 then (some ((-1 : Int32), S)) else
  ((f_X11_in (Int32.toInt64 v3) (1 : Int64) (20 : Int64) S).bind fun q10 =>
  if q10 = (0 : Int32) then (some ((-1 : Int32), S)) else
  ((f_X11_in (Int32.toInt64 v4) (1 : Int64) (200 : Int64) S).bind fun q14 =>
  if q14 = (0 : Int32) then (some ((-1 : Int32), S)) else
  ((f_X11_in (Int32.toInt64 v5) (0 : Int64) (1 : Int64) S).bind fun q18 =>
  if q18 = (0 : Int32) then (some ((-1 : Int32), S)) else
  ((f_X11_keeps  S).bind fun q22 =>
  (gI q22 157 158 (5 : Int32)).bind fun a25 =>
  (some (pL q22 145 37 (Int32.toInt64 a25))).bind fun S28 =>
  lp_X11_meetings_83 v1 v2 v3 v4 v5 (fun u66 u67 S68 => if v5 = (0 : Int32) then (some (u66, S68)) else
  (some (u67, S68))) FU (0 : Int32) (0 : Int32) (0 : Int32) S28))))))
set_option maxHeartbeats 4000000 in
set_option maxRecDepth 100000 in
theorem ok_X11_meetings {X : mm_C} {RR : Nat → Nat → Option Nat} (hR : RRok RR) {v1 : Int32} {v2 : Int32} {v3 : Int32} {v4 : Int32} {v5 : Int32}  {S : fS} {r : Int32 × fS} (h : f_X11_meetings v1 v2 v3 v4 v5 S = some r) : mr X 4 mY_X11_meetings 0 (lv_args 0 [.ref 145, .int v1, .int v2, .int v3, .int v4, .int v5]) [] (MM RR S) (some (.int r.1), MM RR r.2) := by
  unfold f_X11_meetings at h
  show mr X _ _ 0 [(0, .ref 145), (1, .int v1), (2, .int v2), (3, .int v3), (4, .int v4), (5, .int v5)] [] (MM RR S) _
  refine mr_aload_n (pc' := 1) dX11_meetings_0 rfl rfl ?_
  refine mr_iload_n (pc' := 2) dX11_meetings_1 rfl rfl ?_
  obtain ⟨q1, g2, h3⟩ := Option.bind_eq_some_iff.mp h
  refine mr_cv (pc' := 5) (a := 145) (d1 := 0) dX11_meetings_2 rfl rfl rfl rfl rfl rfl (by decide) rfl (by decide) (ok_X11_isThing hR  g2) ?_
  show mr X _ _ 5 _ [.int q1] (MM RR S) _
  by_cases c4 : q1 = (0 : Int32)
  · rw [if_pos c4] at h3
    refine mr_if_eq_t (t := 57) dX11_meetings_5 (by decide) c4 ?_
    refine mr_iconst (pc' := 58) (v := (-1 : Int32)) dX11_meetings_57 rfl (by decide) ?_
    obtain rfl := Option.some.inj h3
    exact mr_ireturn dX11_meetings_58 rfl
  · rw [if_neg c4] at h3
    refine mr_if_eq_f (t := 57) (pc' := 8) dX11_meetings_5 (by decide) rfl c4 ?_
    refine mr_aload_n (pc' := 9) dX11_meetings_8 rfl rfl ?_
    refine mr_iload_n (pc' := 10) dX11_meetings_9 rfl rfl ?_
    obtain ⟨q5, g6, h7⟩ := Option.bind_eq_some_iff.mp h3
    refine mr_cv (pc' := 13) (a := 145) (d1 := 0) dX11_meetings_10 rfl rfl rfl rfl rfl rfl (by decide) rfl (by decide) (ok_X11_isThing hR  g6) ?_
    show mr X _ _ 13 _ [.int q5] (MM RR S) _
    by_cases c8 : q5 = (0 : Int32)
    · rw [if_pos c8] at h7
      refine mr_if_eq_t (t := 57) dX11_meetings_13 (by decide) c8 ?_
      refine mr_iconst (pc' := 58) (v := (-1 : Int32)) dX11_meetings_57 rfl (by decide) ?_
      obtain rfl := Option.some.inj h7
      exact mr_ireturn dX11_meetings_58 rfl
    · rw [if_neg c8] at h7
      refine mr_if_eq_f (t := 57) (pc' := 16) dX11_meetings_13 (by decide) rfl c8 ?_
      refine mr_iload_n (pc' := 17) dX11_meetings_16 rfl rfl ?_
      refine mr_iload_n (pc' := 18) dX11_meetings_17 rfl rfl ?_
      by_cases c9 : v1 = v2
      · rw [if_pos c9] at h7
        refine mr_icmp_eq_t (t := 57) dX11_meetings_18 (by decide) c9 ?_
        refine mr_iconst (pc' := 58) (v := (-1 : Int32)) dX11_meetings_57 rfl (by decide) ?_
        obtain rfl := Option.some.inj h7
        exact mr_ireturn dX11_meetings_58 rfl
      · rw [if_neg c9] at h7
        refine mr_icmp_eq_f (t := 57) (pc' := 21) dX11_meetings_18 (by decide) rfl c9 ?_
        refine mr_iload_n (pc' := 22) dX11_meetings_21 rfl rfl ?_
        refine mr_i2l (pc' := 23) dX11_meetings_22 rfl ?_
        refine mr_lconst (pc' := 24) (v := (1 : Int64)) dX11_meetings_23 rfl (by decide) ?_
        refine mr_ldc2 (pc' := 27) (v := (20 : Int64)) dX11_meetings_24 rfl rfl ?_
        obtain ⟨q10, g11, h12⟩ := Option.bind_eq_some_iff.mp h7
        refine mr_cs (pc' := 30) (d1 := 0) dX11_meetings_27 rfl rfl rfl rfl (by decide) (Nat.le_of_ble_eq_true rfl) rfl rfl rfl (by decide) (ok_X11_in hR  g11) ?_
        show mr X _ _ 30 _ [.int q10] (MM RR S) _
        by_cases c13 : q10 = (0 : Int32)
        · rw [if_pos c13] at h12
          refine mr_if_eq_t (t := 57) dX11_meetings_30 (by decide) c13 ?_
          refine mr_iconst (pc' := 58) (v := (-1 : Int32)) dX11_meetings_57 rfl (by decide) ?_
          obtain rfl := Option.some.inj h12
          exact mr_ireturn dX11_meetings_58 rfl
        · rw [if_neg c13] at h12
          refine mr_if_eq_f (t := 57) (pc' := 33) dX11_meetings_30 (by decide) rfl c13 ?_
          refine mr_iload (pc' := 35) dX11_meetings_33 rfl rfl ?_
          refine mr_i2l (pc' := 36) dX11_meetings_35 rfl ?_
          refine mr_lconst (pc' := 37) (v := (1 : Int64)) dX11_meetings_36 rfl (by decide) ?_
          refine mr_ldc2 (pc' := 40) (v := (200 : Int64)) dX11_meetings_37 rfl rfl ?_
          obtain ⟨q14, g15, h16⟩ := Option.bind_eq_some_iff.mp h12
          refine mr_cs (pc' := 43) (d1 := 0) dX11_meetings_40 rfl rfl rfl rfl (by decide) (Nat.le_of_ble_eq_true rfl) rfl rfl rfl (by decide) (ok_X11_in hR  g15) ?_
          show mr X _ _ 43 _ [.int q14] (MM RR S) _
          by_cases c17 : q14 = (0 : Int32)
          · rw [if_pos c17] at h16
            refine mr_if_eq_t (t := 57) dX11_meetings_43 (by decide) c17 ?_
            refine mr_iconst (pc' := 58) (v := (-1 : Int32)) dX11_meetings_57 rfl (by decide) ?_
            obtain rfl := Option.some.inj h16
            exact mr_ireturn dX11_meetings_58 rfl
          · rw [if_neg c17] at h16
            refine mr_if_eq_f (t := 57) (pc' := 46) dX11_meetings_43 (by decide) rfl c17 ?_
            refine mr_iload (pc' := 48) dX11_meetings_46 rfl rfl ?_
            refine mr_i2l (pc' := 49) dX11_meetings_48 rfl ?_
            refine mr_lconst (pc' := 50) (v := (0 : Int64)) dX11_meetings_49 rfl (by decide) ?_
            refine mr_lconst (pc' := 51) (v := (1 : Int64)) dX11_meetings_50 rfl (by decide) ?_
            obtain ⟨q18, g19, h20⟩ := Option.bind_eq_some_iff.mp h16
            refine mr_cs (pc' := 54) (d1 := 0) dX11_meetings_51 rfl rfl rfl rfl (by decide) (Nat.le_of_ble_eq_true rfl) rfl rfl rfl (by decide) (ok_X11_in hR  g19) ?_
            show mr X _ _ 54 _ [.int q18] (MM RR S) _
            by_cases c21 : q18 = (0 : Int32)
            · rw [if_pos c21] at h20
              refine mr_if_ne_f (t := 59) (pc' := 57) dX11_meetings_54 (by decide) rfl (not_not_intro c21) ?_
              refine mr_iconst (pc' := 58) (v := (-1 : Int32)) dX11_meetings_57 rfl (by decide) ?_
              obtain rfl := Option.some.inj h20
              exact mr_ireturn dX11_meetings_58 rfl
            · rw [if_neg c21] at h20
              refine mr_if_ne_t (t := 59) dX11_meetings_54 (by decide) c21 ?_
              refine mr_aload_n (pc' := 60) dX11_meetings_59 rfl rfl ?_
              obtain ⟨q22, g23, h24⟩ := Option.bind_eq_some_iff.mp h20
              refine mr_cv (pc' := 63) (a := 145) (d1 := 0) dX11_meetings_60 rfl rfl rfl rfl rfl rfl (by decide) rfl (by decide) (ok_X11_keeps hR  g23) ?_
              show mr X _ _ 63 _ [] (MM RR q22) _
              refine mr_aload_n (pc' := 64) dX11_meetings_63 rfl rfl ?_
              refine mr_aload_n (pc' := 65) dX11_meetings_64 rfl rfl ?_
              refine mr_getR (pc' := 68) (ci := 11) (j := 25) (b := 157) hR dX11_meetings_65 rfl rfl rfl (by decide) (by decide) (by decide) rfl rfl ?_
              refine mr_iconst (pc' := 69) (v := (5 : Int32)) dX11_meetings_68 rfl (by decide) ?_
              obtain ⟨a25, g26, h27⟩ := Option.bind_eq_some_iff.mp h24
              refine mr_iald (pc' := 70) dX11_meetings_69 rfl rfl rfl g26 ?_
              refine mr_i2l (pc' := 71) dX11_meetings_70 rfl ?_
              obtain ⟨S28, g29, h30⟩ := Option.bind_eq_some_iff.mp h27
              refine mr_putL (pc' := 74) (ci := 11) (j := 37) dX11_meetings_71 rfl rfl rfl (by decide) (by decide) rfl rfl ?_
              rw [Option.some.inj g29]
              refine mr_iconst (pc' := 75) (v := (0 : Int32)) dX11_meetings_74 rfl (by decide) ?_
              refine mr_istore (pc' := 77) (lv' := [(6, .int (0 : Int32)), (0, .ref 145), (1, .int v1), (2, .int v2), (3, .int v3), (4, .int v4), (5, .int v5)]) dX11_meetings_75 rfl (by decide) rfl ?_
              refine mr_iconst (pc' := 78) (v := (0 : Int32)) dX11_meetings_77 rfl (by decide) ?_
              refine mr_istore (pc' := 80) (lv' := [(7, .int (0 : Int32)), (6, .int (0 : Int32)), (0, .ref 145), (1, .int v1), (2, .int v2), (3, .int v3), (4, .int v4), (5, .int v5)]) dX11_meetings_78 rfl (by decide) rfl ?_
              refine mr_iconst (pc' := 81) (v := (0 : Int32)) dX11_meetings_80 rfl (by decide) ?_
              refine mr_istore (pc' := 83) (lv' := [(8, .int (0 : Int32)), (7, .int (0 : Int32)), (6, .int (0 : Int32)), (0, .ref 145), (1, .int v1), (2, .int v2), (3, .int v3), (4, .int v4), (5, .int v5)]) dX11_meetings_81 rfl (by decide) rfl ?_
              refine mr_sub [(0, .ref 145), (1, .int v1), (2, .int v2), (3, .int v3), (4, .int v4), (5, .int v5), (6, .int (0 : Int32)), (7, .int (0 : Int32)), (8, .int (0 : Int32))] ⟨rfl, rfl, rfl, rfl, rfl, rfl, rfl, rfl, rfl, trivial⟩ rfl ?_
              refine ok_lp_X11_meetings_83 hR  (fun u66 u67 S68 h69 => ?_) FU _ _ _ _  h30
              refine mr_iload (pc' := 206) dX11_meetings_204 rfl rfl ?_
              by_cases c70 : v5 = (0 : Int32)
              · rw [if_pos c70] at h69
                refine mr_if_ne_f (t := 214) (pc' := 209) dX11_meetings_206 (by decide) rfl (not_not_intro c70) ?_
                refine mr_iload (pc' := 211) dX11_meetings_209 rfl rfl ?_
                refine mr_goto (t := 216) dX11_meetings_211 (by decide) ?_
                obtain rfl := Option.some.inj h69
                exact mr_ireturn dX11_meetings_216 rfl
              · rw [if_neg c70] at h69
                refine mr_if_ne_t (t := 214) dX11_meetings_206 (by decide) c70 ?_
                refine mr_iload (pc' := 216) dX11_meetings_214 rfl rfl ?_
                obtain rfl := Option.some.inj h69
                exact mr_ireturn dX11_meetings_216 rfl
def lp_X11_count_79  (S : fS) (K : Int32 → Option (Int32)) : Nat → Int32 → Int32 → Option (Int32)
  | 0, _, _ => none
  | n + 1, p2, p3 =>
    (gI S 157 158 (4 : Int32)).bind fun a23 =>
    if a23 ≤ p3 then (K p2) else
    ((f_X11_isEarly p3 S).bind fun q27 =>
    if q27 = (0 : Int32) then (lp_X11_count_79  S K n (p2 + (0 : Int32)) (p3 + (1 : Int32))) else
    (lp_X11_count_79  S K n (p2 + (1 : Int32)) (p3 + (1 : Int32))))
set_option maxHeartbeats 4000000 in
set_option maxRecDepth 100000 in
theorem ok_lp_X11_count_79 {X : mm_C} {RR : Nat → Nat → Option Nat} (hR : RRok RR)   {S : fS} {K : Int32 → Option (Int32)} {r : Int32} (hK : ∀ (k2 : Int32), K k2 = some r → mr X 3 mY_X11_count 111 [(2, .int k2)] [] (MM RR S) (some (.int r), MM RR S)) : ∀ (n : Nat) (p2 : Int32) (p3 : Int32), lp_X11_count_79  S K n p2 p3 = some r → mr X 3 mY_X11_count 79 [(0, .ref 145), (2, .int p2), (3, .int p3)] [] (MM RR S) (some (.int r), MM RR S) := by
  intro n
  induction n with
  | zero => intro p2 p3 h; exact mm_no h
  | succ n ih =>
    intro p2 p3 h
    unfold lp_X11_count_79 at h
    refine mr_iload_n (pc' := 80) dX11_count_79 rfl rfl ?_
    refine mr_aload_n (pc' := 81) dX11_count_80 rfl rfl ?_
    refine mr_getR (pc' := 84) (ci := 11) (j := 25) (b := 157) hR dX11_count_81 rfl rfl rfl (by decide) (by decide) (by decide) rfl rfl ?_
    refine mr_iconst (pc' := 85) (v := (4 : Int32)) dX11_count_84 rfl (by decide) ?_
    obtain ⟨a23, g24, h25⟩ := Option.bind_eq_some_iff.mp h
    refine mr_iald (pc' := 86) dX11_count_85 rfl rfl rfl g24 ?_
    by_cases c26 : a23 ≤ p3
    · rw [if_pos c26] at h25
      refine mr_icmp_ge_t (t := 111) dX11_count_86 (by decide) c26 ?_
      exact mr_sub [(2, .int p2)] ⟨rfl, trivial⟩ rfl (hK _  h25)
    · rw [if_neg c26] at h25
      refine mr_icmp_ge_f (t := 111) (pc' := 89) dX11_count_86 (by decide) rfl c26 ?_
      refine mr_iload_n (pc' := 90) dX11_count_89 rfl rfl ?_
      refine mr_aload_n (pc' := 91) dX11_count_90 rfl rfl ?_
      refine mr_iload_n (pc' := 92) dX11_count_91 rfl rfl ?_
      obtain ⟨q27, g28, h29⟩ := Option.bind_eq_some_iff.mp h25
      refine mr_cv (pc' := 95) (a := 145) (d1 := 2) dX11_count_92 rfl rfl rfl rfl rfl rfl (by decide) rfl (by decide) (ok_X11_isEarly hR  g28) ?_
      show mr X _ _ 95 _ [.int q27, .int p2] (MM RR S) _
      by_cases c30 : q27 = (0 : Int32)
      · rw [if_pos c30] at h29
        refine mr_if_eq_t (t := 102) dX11_count_95 (by decide) c30 ?_
        refine mr_iconst (pc' := 103) (v := (0 : Int32)) dX11_count_102 rfl (by decide) ?_
        refine mr_iadd (pc' := 104) dX11_count_103 rfl ?_
        refine mr_istore_n (pc' := 105) (lv' := [(2, .int (p2 + (0 : Int32))), (0, .ref 145), (3, .int p3)]) dX11_count_104 rfl (by decide) rfl ?_
        refine mr_iinc (pc' := 108) (x' := (p3 + (1 : Int32))) (lv' := [(3, .int (p3 + (1 : Int32))), (2, .int (p2 + (0 : Int32))), (0, .ref 145)]) dX11_count_105 rfl (by decide) rfl rfl rfl ?_
        refine mr_goto (t := 79) dX11_count_108 (by decide) ?_
        exact mr_sub [(0, .ref 145), (2, .int (p2 + (0 : Int32))), (3, .int (p3 + (1 : Int32)))] ⟨rfl, rfl, rfl, trivial⟩ rfl (ih _ _  h29)
      · rw [if_neg c30] at h29
        refine mr_if_eq_f (t := 102) (pc' := 98) dX11_count_95 (by decide) rfl c30 ?_
        refine mr_iconst (pc' := 99) (v := (1 : Int32)) dX11_count_98 rfl (by decide) ?_
        refine mr_goto (t := 103) dX11_count_99 (by decide) ?_
        refine mr_iadd (pc' := 104) dX11_count_103 rfl ?_
        refine mr_istore_n (pc' := 105) (lv' := [(2, .int (p2 + (1 : Int32))), (0, .ref 145), (3, .int p3)]) dX11_count_104 rfl (by decide) rfl ?_
        refine mr_iinc (pc' := 108) (x' := (p3 + (1 : Int32))) (lv' := [(3, .int (p3 + (1 : Int32))), (2, .int (p2 + (1 : Int32))), (0, .ref 145)]) dX11_count_105 rfl (by decide) rfl rfl rfl ?_
        refine mr_goto (t := 79) dX11_count_108 (by decide) ?_
        exact mr_sub [(0, .ref 145), (2, .int (p2 + (1 : Int32))), (3, .int (p3 + (1 : Int32)))] ⟨rfl, rfl, rfl, trivial⟩ rfl (ih _ _  h29)
def lp_X11_count_115  (S : fS) (K : Int32 → Option (Int32)) : Nat → Int32 → Int32 → Option (Int32)
  | 0, _, _ => none
  | n + 1, p2, p3 =>
    (gI S 157 158 (2 : Int32)).bind fun a34 =>
    if a34 ≤ p3 then (K p2) else
    ((f_X11_thingOf p3 (0 : Int32) S).bind fun q38 =>
    if (0 : Int32) ≤ q38 then (lp_X11_count_115  S K n (p2 + (0 : Int32)) (p3 + (1 : Int32))) else
    (lp_X11_count_115  S K n (p2 + (1 : Int32)) (p3 + (1 : Int32))))
set_option maxHeartbeats 4000000 in
set_option maxRecDepth 100000 in
theorem ok_lp_X11_count_115 {X : mm_C} {RR : Nat → Nat → Option Nat} (hR : RRok RR)   {S : fS} {K : Int32 → Option (Int32)} {r : Int32} (hK : ∀ (k2 : Int32), K k2 = some r → mr X 3 mY_X11_count 148 [(2, .int k2)] [] (MM RR S) (some (.int r), MM RR S)) : ∀ (n : Nat) (p2 : Int32) (p3 : Int32), lp_X11_count_115  S K n p2 p3 = some r → mr X 3 mY_X11_count 115 [(0, .ref 145), (2, .int p2), (3, .int p3)] [] (MM RR S) (some (.int r), MM RR S) := by
  intro n
  induction n with
  | zero => intro p2 p3 h; exact mm_no h
  | succ n ih =>
    intro p2 p3 h
    unfold lp_X11_count_115 at h
    refine mr_iload_n (pc' := 116) dX11_count_115 rfl rfl ?_
    refine mr_aload_n (pc' := 117) dX11_count_116 rfl rfl ?_
    refine mr_getR (pc' := 120) (ci := 11) (j := 25) (b := 157) hR dX11_count_117 rfl rfl rfl (by decide) (by decide) (by decide) rfl rfl ?_
    refine mr_iconst (pc' := 121) (v := (2 : Int32)) dX11_count_120 rfl (by decide) ?_
    obtain ⟨a34, g35, h36⟩ := Option.bind_eq_some_iff.mp h
    refine mr_iald (pc' := 122) dX11_count_121 rfl rfl rfl g35 ?_
    by_cases c37 : a34 ≤ p3
    · rw [if_pos c37] at h36
      refine mr_icmp_ge_t (t := 148) dX11_count_122 (by decide) c37 ?_
      exact mr_sub [(2, .int p2)] ⟨rfl, trivial⟩ rfl (hK _  h36)
    · rw [if_neg c37] at h36
      refine mr_icmp_ge_f (t := 148) (pc' := 125) dX11_count_122 (by decide) rfl c37 ?_
      refine mr_iload_n (pc' := 126) dX11_count_125 rfl rfl ?_
      refine mr_aload_n (pc' := 127) dX11_count_126 rfl rfl ?_
      refine mr_iload_n (pc' := 128) dX11_count_127 rfl rfl ?_
      refine mr_iconst (pc' := 129) (v := (0 : Int32)) dX11_count_128 rfl (by decide) ?_
      obtain ⟨q38, g39, h40⟩ := Option.bind_eq_some_iff.mp h36
      refine mr_cv (pc' := 132) (a := 145) (d1 := 0) dX11_count_129 rfl rfl rfl rfl rfl rfl (by decide) rfl (by decide) (ok_X11_thingOf hR  g39) ?_
      show mr X _ _ 132 _ [.int q38, .int p2] (MM RR S) _
      by_cases c41 : (0 : Int32) ≤ q38
      · rw [if_pos c41] at h40
        refine mr_if_ge_t (t := 139) dX11_count_132 (by decide) c41 ?_
        refine mr_iconst (pc' := 140) (v := (0 : Int32)) dX11_count_139 rfl (by decide) ?_
        refine mr_iadd (pc' := 141) dX11_count_140 rfl ?_
        refine mr_istore_n (pc' := 142) (lv' := [(2, .int (p2 + (0 : Int32))), (0, .ref 145), (3, .int p3)]) dX11_count_141 rfl (by decide) rfl ?_
        refine mr_iinc (pc' := 145) (x' := (p3 + (1 : Int32))) (lv' := [(3, .int (p3 + (1 : Int32))), (2, .int (p2 + (0 : Int32))), (0, .ref 145)]) dX11_count_142 rfl (by decide) rfl rfl rfl ?_
        refine mr_goto (t := 115) dX11_count_145 (by decide) ?_
        exact mr_sub [(0, .ref 145), (2, .int (p2 + (0 : Int32))), (3, .int (p3 + (1 : Int32)))] ⟨rfl, rfl, rfl, trivial⟩ rfl (ih _ _  h40)
      · rw [if_neg c41] at h40
        refine mr_if_ge_f (t := 139) (pc' := 135) dX11_count_132 (by decide) rfl c41 ?_
        refine mr_iconst (pc' := 136) (v := (1 : Int32)) dX11_count_135 rfl (by decide) ?_
        refine mr_goto (t := 140) dX11_count_136 (by decide) ?_
        refine mr_iadd (pc' := 141) dX11_count_140 rfl ?_
        refine mr_istore_n (pc' := 142) (lv' := [(2, .int (p2 + (1 : Int32))), (0, .ref 145), (3, .int p3)]) dX11_count_141 rfl (by decide) rfl ?_
        refine mr_iinc (pc' := 145) (x' := (p3 + (1 : Int32))) (lv' := [(3, .int (p3 + (1 : Int32))), (2, .int (p2 + (1 : Int32))), (0, .ref 145)]) dX11_count_142 rfl (by decide) rfl rfl rfl ?_
        refine mr_goto (t := 115) dX11_count_145 (by decide) ?_
        exact mr_sub [(0, .ref 145), (2, .int (p2 + (1 : Int32))), (3, .int (p3 + (1 : Int32)))] ⟨rfl, rfl, rfl, trivial⟩ rfl (ih _ _  h40)
def f_X11_count (v1 : Int32) (S : fS) : Option (Int32) :=
  if v1 = (0 : Int32) then ((gI S 157 158 v1).bind fun a2 =>
  some a2) else
  if v1 = (1 : Int32) then ((gI S 157 158 v1).bind fun a6 =>
  some a6) else
  if v1 = (2 : Int32) then ((gI S 157 158 v1).bind fun a10 =>
  some a10) else
  if v1 = (3 : Int32) then (some (S.1 145 2)) else
  if v1 = (4 : Int32) then ((gI S 157 158 (v1 - (1 : Int32))).bind fun a15 =>
  some a15) else
  if v1 = (5 : Int32) then ((gI S 157 158 (v1 - (1 : Int32))).bind fun a19 =>
  some a19) else
  if v1 = (6 : Int32) then (lp_X11_count_79  S (fun u31 => some u31) FU (0 : Int32) (0 : Int32)) else
  if v1 = (7 : Int32) then (lp_X11_count_115  S (fun u42 => some u42) FU (0 : Int32) (0 : Int32)) else
  if v1 = (8 : Int32) then ((gI S 157 158 (5 : Int32)).bind fun a45 =>
  some a45) else
  if v1 = (9 : Int32) then (some (S.1 145 1)) else
  (some (-1 : Int32))
set_option maxHeartbeats 4000000 in
set_option maxRecDepth 100000 in
theorem ok_X11_count {X : mm_C} {RR : Nat → Nat → Option Nat} (hR : RRok RR) {v1 : Int32}  {S : fS} {r : Int32} (h : f_X11_count v1 S = some r) : mr X 3 mY_X11_count 0 (lv_args 0 [.ref 145, .int v1]) [] (MM RR S) (some (.int r), MM RR S) := by
  unfold f_X11_count at h
  show mr X _ _ 0 [(0, .ref 145), (1, .int v1)] [] (MM RR S) _
  refine mr_iconst (pc' := 1) (v := (0 : Int32)) dX11_count_0 rfl (by decide) ?_
  refine mr_istore_n (pc' := 2) (lv' := [(2, .int (0 : Int32)), (0, .ref 145), (1, .int v1)]) dX11_count_1 rfl (by decide) rfl ?_
  refine mr_iload_n (pc' := 3) dX11_count_2 rfl rfl ?_
  by_cases c1 : v1 = (0 : Int32)
  · rw [if_pos c1] at h
    refine mr_sw_in (t := 56) (v := (0 : Int32)) dX11_count_3 c1 rfl ?_
    refine mr_aload_n (pc' := 57) dX11_count_56 rfl rfl ?_
    refine mr_getR (pc' := 60) (ci := 11) (j := 25) (b := 157) hR dX11_count_57 rfl rfl rfl (by decide) (by decide) (by decide) rfl rfl ?_
    refine mr_iload_n (pc' := 61) dX11_count_60 rfl rfl ?_
    obtain ⟨a2, g3, h4⟩ := Option.bind_eq_some_iff.mp h
    refine mr_iald (pc' := 62) dX11_count_61 rfl rfl rfl g3 ?_
    obtain rfl := Option.some.inj h4
    exact mr_ireturn dX11_count_62 rfl
  rw [if_neg c1] at h
  by_cases c5 : v1 = (1 : Int32)
  · rw [if_pos c5] at h
    refine mr_sw_in (t := 56) (v := (1 : Int32)) dX11_count_3 c5 rfl ?_
    refine mr_aload_n (pc' := 57) dX11_count_56 rfl rfl ?_
    refine mr_getR (pc' := 60) (ci := 11) (j := 25) (b := 157) hR dX11_count_57 rfl rfl rfl (by decide) (by decide) (by decide) rfl rfl ?_
    refine mr_iload_n (pc' := 61) dX11_count_60 rfl rfl ?_
    obtain ⟨a6, g7, h8⟩ := Option.bind_eq_some_iff.mp h
    refine mr_iald (pc' := 62) dX11_count_61 rfl rfl rfl g7 ?_
    obtain rfl := Option.some.inj h8
    exact mr_ireturn dX11_count_62 rfl
  rw [if_neg c5] at h
  by_cases c9 : v1 = (2 : Int32)
  · rw [if_pos c9] at h
    refine mr_sw_in (t := 56) (v := (2 : Int32)) dX11_count_3 c9 rfl ?_
    refine mr_aload_n (pc' := 57) dX11_count_56 rfl rfl ?_
    refine mr_getR (pc' := 60) (ci := 11) (j := 25) (b := 157) hR dX11_count_57 rfl rfl rfl (by decide) (by decide) (by decide) rfl rfl ?_
    refine mr_iload_n (pc' := 61) dX11_count_60 rfl rfl ?_
    obtain ⟨a10, g11, h12⟩ := Option.bind_eq_some_iff.mp h
    refine mr_iald (pc' := 62) dX11_count_61 rfl rfl rfl g11 ?_
    obtain rfl := Option.some.inj h12
    exact mr_ireturn dX11_count_62 rfl
  rw [if_neg c9] at h
  by_cases c13 : v1 = (3 : Int32)
  · rw [if_pos c13] at h
    refine mr_sw_in (t := 63) (v := (3 : Int32)) dX11_count_3 c13 rfl ?_
    refine mr_aload_n (pc' := 64) dX11_count_63 rfl rfl ?_
    refine mr_getI (pc' := 67) (ci := 11) (j := 2) dX11_count_64 rfl rfl rfl (by decide) (by decide) rfl ?_
    obtain rfl := Option.some.inj h
    exact mr_ireturn dX11_count_67 rfl
  rw [if_neg c13] at h
  by_cases c14 : v1 = (4 : Int32)
  · rw [if_pos c14] at h
    refine mr_sw_in (t := 68) (v := (4 : Int32)) dX11_count_3 c14 rfl ?_
    refine mr_aload_n (pc' := 69) dX11_count_68 rfl rfl ?_
    refine mr_getR (pc' := 72) (ci := 11) (j := 25) (b := 157) hR dX11_count_69 rfl rfl rfl (by decide) (by decide) (by decide) rfl rfl ?_
    refine mr_iload_n (pc' := 73) dX11_count_72 rfl rfl ?_
    refine mr_iconst (pc' := 74) (v := (1 : Int32)) dX11_count_73 rfl (by decide) ?_
    refine mr_isub (pc' := 75) dX11_count_74 rfl ?_
    obtain ⟨a15, g16, h17⟩ := Option.bind_eq_some_iff.mp h
    refine mr_iald (pc' := 76) dX11_count_75 rfl rfl rfl g16 ?_
    obtain rfl := Option.some.inj h17
    exact mr_ireturn dX11_count_76 rfl
  rw [if_neg c14] at h
  by_cases c18 : v1 = (5 : Int32)
  · rw [if_pos c18] at h
    refine mr_sw_in (t := 68) (v := (5 : Int32)) dX11_count_3 c18 rfl ?_
    refine mr_aload_n (pc' := 69) dX11_count_68 rfl rfl ?_
    refine mr_getR (pc' := 72) (ci := 11) (j := 25) (b := 157) hR dX11_count_69 rfl rfl rfl (by decide) (by decide) (by decide) rfl rfl ?_
    refine mr_iload_n (pc' := 73) dX11_count_72 rfl rfl ?_
    refine mr_iconst (pc' := 74) (v := (1 : Int32)) dX11_count_73 rfl (by decide) ?_
    refine mr_isub (pc' := 75) dX11_count_74 rfl ?_
    obtain ⟨a19, g20, h21⟩ := Option.bind_eq_some_iff.mp h
    refine mr_iald (pc' := 76) dX11_count_75 rfl rfl rfl g20 ?_
    obtain rfl := Option.some.inj h21
    exact mr_ireturn dX11_count_76 rfl
  rw [if_neg c18] at h
  by_cases c22 : v1 = (6 : Int32)
  · rw [if_pos c22] at h
    refine mr_sw_in (t := 77) (v := (6 : Int32)) dX11_count_3 c22 rfl ?_
    refine mr_iconst (pc' := 78) (v := (0 : Int32)) dX11_count_77 rfl (by decide) ?_
    refine mr_istore_n (pc' := 79) (lv' := [(3, .int (0 : Int32)), (2, .int (0 : Int32)), (0, .ref 145), (1, .int v1)]) dX11_count_78 rfl (by decide) rfl ?_
    refine mr_sub [(0, .ref 145), (2, .int (0 : Int32)), (3, .int (0 : Int32))] ⟨rfl, rfl, rfl, trivial⟩ rfl ?_
    refine ok_lp_X11_count_79 hR  (fun u31 h32 => ?_) FU _ _  h
    refine mr_iload_n (pc' := 112) dX11_count_111 rfl rfl ?_
    obtain rfl := Option.some.inj h32
    exact mr_ireturn dX11_count_112 rfl
  rw [if_neg c22] at h
  by_cases c33 : v1 = (7 : Int32)
  · rw [if_pos c33] at h
    refine mr_sw_in (t := 113) (v := (7 : Int32)) dX11_count_3 c33 rfl ?_
    refine mr_iconst (pc' := 114) (v := (0 : Int32)) dX11_count_113 rfl (by decide) ?_
    refine mr_istore_n (pc' := 115) (lv' := [(3, .int (0 : Int32)), (2, .int (0 : Int32)), (0, .ref 145), (1, .int v1)]) dX11_count_114 rfl (by decide) rfl ?_
    refine mr_sub [(0, .ref 145), (2, .int (0 : Int32)), (3, .int (0 : Int32))] ⟨rfl, rfl, rfl, trivial⟩ rfl ?_
    refine ok_lp_X11_count_115 hR  (fun u42 h43 => ?_) FU _ _  h
    refine mr_iload_n (pc' := 149) dX11_count_148 rfl rfl ?_
    obtain rfl := Option.some.inj h43
    exact mr_ireturn dX11_count_149 rfl
  rw [if_neg c33] at h
  by_cases c44 : v1 = (8 : Int32)
  · rw [if_pos c44] at h
    refine mr_sw_in (t := 150) (v := (8 : Int32)) dX11_count_3 c44 rfl ?_
    refine mr_aload_n (pc' := 151) dX11_count_150 rfl rfl ?_
    refine mr_getR (pc' := 154) (ci := 11) (j := 25) (b := 157) hR dX11_count_151 rfl rfl rfl (by decide) (by decide) (by decide) rfl rfl ?_
    refine mr_iconst (pc' := 155) (v := (5 : Int32)) dX11_count_154 rfl (by decide) ?_
    obtain ⟨a45, g46, h47⟩ := Option.bind_eq_some_iff.mp h
    refine mr_iald (pc' := 156) dX11_count_155 rfl rfl rfl g46 ?_
    obtain rfl := Option.some.inj h47
    exact mr_ireturn dX11_count_156 rfl
  rw [if_neg c44] at h
  by_cases c48 : v1 = (9 : Int32)
  · rw [if_pos c48] at h
    refine mr_sw_in (t := 157) (v := (9 : Int32)) dX11_count_3 c48 rfl ?_
    refine mr_aload_n (pc' := 158) dX11_count_157 rfl rfl ?_
    refine mr_getI (pc' := 161) (ci := 11) (j := 1) dX11_count_158 rfl rfl rfl (by decide) (by decide) rfl ?_
    obtain rfl := Option.some.inj h
    exact mr_ireturn dX11_count_161 rfl
  rw [if_neg c48] at h
  refine mr_sw_out (t := 162) dX11_count_3 (by have := i32ne c1 (k := 0) (by decide); have := i32ne c5 (k := 1) (by decide); have := i32ne c9 (k := 2) (by decide); have := i32ne c13 (k := 3) (by decide); have := i32ne c14 (k := 4) (by decide); have := i32ne c18 (k := 5) (by decide); have := i32ne c22 (k := 6) (by decide); have := i32ne c33 (k := 7) (by decide); have := i32ne c44 (k := 8) (by decide); have := i32ne c48 (k := 9) (by decide); omega) (by decide) ?_
  refine mr_iconst (pc' := 163) (v := (-1 : Int32)) dX11_count_162 rfl (by decide) ?_
  obtain rfl := Option.some.inj h
  exact mr_ireturn dX11_count_163 rfl
