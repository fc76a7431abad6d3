def f_X11_isBetter (v1 : Int64) (v3 : Int64) (v5 : Int32) (S : fS) : Option (Int32) :=
  if v3 < (0 : Int64) then (some (1 : Int32)) else
  (if v5 = (0 : Int32) then (if v3 ≤ v1 then (some (0 : Int32)) else
  (some (1 : Int32))) else
  (if v1 ≤ v3 then (some (0 : Int32)) else
  (some (1 : Int32))))
set_option maxHeartbeats 4000000 in
set_option maxRecDepth 100000 in
theorem ok_X11_isBetter {X : mm_C} {RR : Nat → Nat → Option Nat} (hR : RRok RR) {v1 : Int64} {v3 : Int64} {v5 : Int32}  {S : fS} {r : Int32} (h : f_X11_isBetter v1 v3 v5 S = some r) : mr X 0 mY_X11_isBetter 0 (lv_args 0 [.ref 145, .long v1, .long v3, .int v5]) [] (MM RR S) (some (.int r), MM RR S) := by
  unfold f_X11_isBetter at h
  show mr X _ _ 0 [(0, .ref 145), (1, .long v1), (3, .long v3), (5, .int v5)] [] (MM RR S) _
  refine mr_lload_n (pc' := 1) dX11_isBetter_0 rfl rfl ?_
  refine mr_lconst (pc' := 2) (v := (0 : Int64)) dX11_isBetter_1 rfl (by decide) ?_
  by_cases c1 : v3 < (0 : Int64)
  · rw [if_pos c1] at h
    refine mr_lcmp_lt_t (t := 26) dX11_isBetter_2 rfl dX11_isBetter_3 (by decide) c1 ?_
    refine mr_iconst (pc' := 27) (v := (1 : Int32)) dX11_isBetter_26 rfl (by decide) ?_
    refine mr_goto (t := 31) dX11_isBetter_27 (by decide) ?_
    obtain rfl := Option.some.inj h
    exact mr_zreturn dX11_isBetter_31 rfl (by decide)
  · rw [if_neg c1] at h
    refine mr_lcmp_lt_f (t := 26) (pc' := 6) dX11_isBetter_2 rfl dX11_isBetter_3 (by decide) rfl c1 ?_
    refine mr_iload (pc' := 8) dX11_isBetter_6 rfl rfl ?_
    by_cases c2 : v5 = (0 : Int32)
    · rw [if_pos c2] at h
      refine mr_if_eq_t (t := 20) dX11_isBetter_8 (by decide) c2 ?_
      refine mr_lload_n (pc' := 21) dX11_isBetter_20 rfl rfl ?_
      refine mr_lload_n (pc' := 22) dX11_isBetter_21 rfl rfl ?_
      by_cases c3 : v3 ≤ v1
      · rw [if_pos c3] at h
        refine mr_lcmp_ge_t (t := 30) dX11_isBetter_22 rfl dX11_isBetter_23 (by decide) c3 ?_
        refine mr_iconst (pc' := 31) (v := (0 : Int32)) dX11_isBetter_30 rfl (by decide) ?_
        obtain rfl := Option.some.inj h
        exact mr_zreturn dX11_isBetter_31 rfl (by decide)
      · rw [if_neg c3] at h
        refine mr_lcmp_ge_f (t := 30) (pc' := 26) dX11_isBetter_22 rfl dX11_isBetter_23 (by decide) rfl c3 ?_
        refine mr_iconst (pc' := 27) (v := (1 : Int32)) dX11_isBetter_26 rfl (by decide) ?_
        refine mr_goto (t := 31) dX11_isBetter_27 (by decide) ?_
        obtain rfl := Option.some.inj h
        exact mr_zreturn dX11_isBetter_31 rfl (by decide)
    · rw [if_neg c2] at h
      refine mr_if_eq_f (t := 20) (pc' := 11) dX11_isBetter_8 (by decide) rfl c2 ?_
      refine mr_lload_n (pc' := 12) dX11_isBetter_11 rfl rfl ?_
      refine mr_lload_n (pc' := 13) dX11_isBetter_12 rfl rfl ?_
      by_cases c4 : v1 ≤ v3
      · rw [if_pos c4] at h
        refine mr_lcmp_le_t (t := 30) dX11_isBetter_13 rfl dX11_isBetter_14 (by decide) c4 ?_
        refine mr_iconst (pc' := 31) (v := (0 : Int32)) dX11_isBetter_30 rfl (by decide) ?_
        obtain rfl := Option.some.inj h
        exact mr_zreturn dX11_isBetter_31 rfl (by decide)
      · rw [if_neg c4] at h
        refine mr_lcmp_le_f (t := 30) (pc' := 17) dX11_isBetter_13 rfl dX11_isBetter_14 (by decide) rfl c4 ?_
        refine mr_goto (t := 26) dX11_isBetter_17 (by decide) ?_
        refine mr_iconst (pc' := 27) (v := (1 : Int32)) dX11_isBetter_26 rfl (by decide) ?_
        refine mr_goto (t := 31) dX11_isBetter_27 (by decide) ?_
        obtain rfl := Option.some.inj h
        exact mr_zreturn dX11_isBetter_31 rfl (by decide)
def lp_X11_bestFrom_8 (p1 : Int32) (p2 : Int32) (p3 : Int32) (p4 : Int32) (S : fS) (K : Int64 → Option (Int64)) : Nat → Int64 → Int32 → Option (Int64)
  | 0, _, _ => none
  | n + 1, p5, p7 =>
    (gI S 157 158 (1 : Int32)).bind fun a1 =>
    if a1 ≤ p7 then (K p5) else
    ((f_X11_by p1 p2 p7 p3 S).bind fun q5 =>
    if q5 < (0 : Int64) then (lp_X11_bestFrom_8 p1 p2 p3 p4 S K n p5 (p7 + (1 : Int32))) else
    ((f_X11_isBetter q5 p5 p4 S).bind fun q9 =>
    if q9 = (0 : Int32) then (lp_X11_bestFrom_8 p1 p2 p3 p4 S K n p5 (p7 + (1 : Int32))) else
    (lp_X11_bestFrom_8 p1 p2 p3 p4 S K n q5 (p7 + (1 : Int32)))))
set_option maxHeartbeats 4000000 in
set_option maxRecDepth 100000 in
theorem ok_lp_X11_bestFrom_8 {X : mm_C} {RR : Nat → Nat → Option Nat} (hR : RRok RR) {p1 : Int32} {p2 : Int32} {p3 : Int32} {p4 : Int32}  {S : fS} {K : Int64 → Option (Int64)} {r : Int64} (hK : ∀ (k5 : Int64), K k5 = some r → mr X 3 mY_X11_bestFrom 60 [(5, .long k5)] [] (MM RR S) (some (.long r), MM RR S)) : ∀ (n : Nat) (p5 : Int64) (p7 : Int32), lp_X11_bestFrom_8 p1 p2 p3 p4 S K n p5 p7 = some r → mr X 3 mY_X11_bestFrom 8 [(0, .ref 145), (1, .int p1), (2, .int p2), (3, .int p3), (4, .int p4), (5, .long p5), (7, .int p7)] [] (MM RR S) (some (.long r), MM RR S) := by
  intro n
  induction n with
  | zero => intro p5 p7 h; exact mm_no h
  | succ n ih =>
    intro p5 p7 h
    unfold lp_X11_bestFrom_8 at h
    refine mr_iload (pc' := 10) dX11_bestFrom_8 rfl rfl ?_
    refine mr_aload_n (pc' := 11) dX11_bestFrom_10 rfl rfl ?_
    refine mr_getR (pc' := 14) (ci := 11) (j := 25) (b := 157) hR dX11_bestFrom_11 rfl rfl rfl (by decide) (by decide) (by decide) rfl rfl ?_
    refine mr_iconst (pc' := 15) (v := (1 : Int32)) dX11_bestFrom_14 rfl (by decide) ?_
    obtain ⟨a1, g2, h3⟩ := Option.bind_eq_some_iff.mp h
    refine mr_iald (pc' := 16) dX11_bestFrom_15 rfl rfl rfl g2 ?_
    by_cases c4 : a1 ≤ p7
    · rw [if_pos c4] at h3
      refine mr_icmp_ge_t (t := 60) dX11_bestFrom_16 (by decide) c4 ?_
      exact mr_sub [(5, .long p5)] ⟨rfl, trivial⟩ rfl (hK _  h3)
    · rw [if_neg c4] at h3
      refine mr_icmp_ge_f (t := 60) (pc' := 19) dX11_bestFrom_16 (by decide) rfl c4 ?_
      refine mr_aload_n (pc' := 20) dX11_bestFrom_19 rfl rfl ?_
      refine mr_iload_n (pc' := 21) dX11_bestFrom_20 rfl rfl ?_
      refine mr_iload_n (pc' := 22) dX11_bestFrom_21 rfl rfl ?_
      refine mr_iload (pc' := 24) dX11_bestFrom_22 rfl rfl ?_
      refine mr_iload_n (pc' := 25) dX11_bestFrom_24 rfl rfl ?_
      obtain ⟨q5, g6, h7⟩ := Option.bind_eq_some_iff.mp h3
      refine mr_cv (pc' := 28) (a := 145) (d1 := 2) dX11_bestFrom_25 rfl rfl rfl rfl rfl rfl (by decide) rfl (by decide) (ok_X11_by hR  g6) ?_
      show mr X _ _ 28 _ [.long q5] (MM RR S) _
      refine mr_lstore (pc' := 30) (lv' := [(8, .long q5), (0, .ref 145), (1, .int p1), (2, .int p2), (3, .int p3), (4, .int p4), (5, .long p5), (7, .int p7)]) dX11_bestFrom_28 rfl (by decide) rfl ?_
      refine mr_lload (pc' := 32) dX11_bestFrom_30 rfl rfl ?_
      refine mr_lconst (pc' := 33) (v := (0 : Int64)) dX11_bestFrom_32 rfl (by decide) ?_
      by_cases c8 : q5 < (0 : Int64)
      · rw [if_pos c8] at h7
        refine mr_lcmp_lt_t (t := 54) dX11_bestFrom_33 rfl dX11_bestFrom_34 (by decide) c8 ?_
        refine mr_iinc (pc' := 57) (x' := (p7 + (1 : Int32))) (lv' := [(7, .int (p7 + (1 : Int32))), (8, .long q5), (0, .ref 145), (1, .int p1), (2, .int p2), (3, .int p3), (4, .int p4), (5, .long p5)]) dX11_bestFrom_54 rfl (by decide) rfl rfl rfl ?_
        refine mr_goto (t := 8) dX11_bestFrom_57 (by decide) ?_
        exact mr_sub [(0, .ref 145), (1, .int p1), (2, .int p2), (3, .int p3), (4, .int p4), (5, .long p5), (7, .int (p7 + (1 : Int32)))] ⟨rfl, rfl, rfl, rfl, rfl, rfl, rfl, trivial⟩ rfl (ih _ _  h7)
      · rw [if_neg c8] at h7
        refine mr_lcmp_lt_f (t := 54) (pc' := 37) dX11_bestFrom_33 rfl dX11_bestFrom_34 (by decide) rfl c8 ?_
        refine mr_aload_n (pc' := 38) dX11_bestFrom_37 rfl rfl ?_
        refine mr_lload (pc' := 40) dX11_bestFrom_38 rfl rfl ?_
        refine mr_lload (pc' := 42) dX11_bestFrom_40 rfl rfl ?_
        refine mr_iload (pc' := 44) dX11_bestFrom_42 rfl rfl ?_
        obtain ⟨q9, g10, h11⟩ := Option.bind_eq_some_iff.mp h7
        refine mr_cv (pc' := 47) (a := 145) (d1 := 0) dX11_bestFrom_44 rfl rfl rfl rfl rfl rfl (by decide) rfl (by decide) (ok_X11_isBetter hR  g10) ?_
        show mr X _ _ 47 _ [.int q9] (MM RR S) _
        by_cases c12 : q9 = (0 : Int32)
        · rw [if_pos c12] at h11
          refine mr_if_eq_t (t := 54) dX11_bestFrom_47 (by decide) c12 ?_
          refine mr_iinc (pc' := 57) (x' := (p7 + (1 : Int32))) (lv' := [(7, .int (p7 + (1 : Int32))), (8, .long q5), (0, .ref 145), (1, .int p1), (2, .int p2), (3, .int p3), (4, .int p4), (5, .long p5)]) dX11_bestFrom_54 rfl (by decide) rfl rfl rfl ?_
          refine mr_goto (t := 8) dX11_bestFrom_57 (by decide) ?_
          exact mr_sub [(0, .ref 145), (1, .int p1), (2, .int p2), (3, .int p3), (4, .int p4), (5, .long p5), (7, .int (p7 + (1 : Int32)))] ⟨rfl, rfl, rfl, rfl, rfl, rfl, rfl, trivial⟩ rfl (ih _ _  h11)
        · rw [if_neg c12] at h11
          refine mr_if_eq_f (t := 54) (pc' := 50) dX11_bestFrom_47 (by decide) rfl c12 ?_
          refine mr_lload (pc' := 52) dX11_bestFrom_50 rfl rfl ?_
          refine mr_lstore (pc' := 54) (lv' := [(5, .long q5), (8, .long q5), (0, .ref 145), (1, .int p1), (2, .int p2), (3, .int p3), (4, .int p4), (7, .int p7)]) dX11_bestFrom_52 rfl (by decide) rfl ?_
          refine mr_iinc (pc' := 57) (x' := (p7 + (1 : Int32))) (lv' := [(7, .int (p7 + (1 : Int32))), (5, .long q5), (8, .long q5), (0, .ref 145), (1, .int p1), (2, .int p2), (3, .int p3), (4, .int p4)]) dX11_bestFrom_54 rfl (by decide) rfl rfl rfl ?_
          refine mr_goto (t := 8) dX11_bestFrom_57 (by decide) ?_
          exact mr_sub [(0, .ref 145), (1, .int p1), (2, .int p2), (3, .int p3), (4, .int p4), (5, .long q5), (7, .int (p7 + (1 : Int32)))] ⟨rfl, rfl, rfl, rfl, rfl, rfl, rfl, trivial⟩ rfl (ih _ _  h11)
def f_X11_bestFrom (v1 : Int32) (v2 : Int32) (v3 : Int32) (v4 : Int32) (S : fS) : Option (Int64) :=
  lp_X11_bestFrom_8 v1 v2 v3 v4 S (fun u13 => some u13) FU (-1 : Int64) (-1 : Int32)
set_option maxHeartbeats 4000000 in
set_option maxRecDepth 100000 in
theorem ok_X11_bestFrom {X : mm_C} {RR : Nat → Nat → Option Nat} (hR : RRok RR) {v1 : Int32} {v2 : Int32} {v3 : Int32} {v4 : Int32}  {S : fS} {r : Int64} (h : f_X11_bestFrom v1 v2 v3 v4 S = some r) : mr X 3 mY_X11_bestFrom 0 (lv_args 0 [.ref 145, .int v1, .int v2, .int v3, .int v4]) [] (MM RR S) (some (.long r), MM RR S) := by
  unfold f_X11_bestFrom at h
  show mr X _ _ 0 [(0, .ref 145), (1, .int v1), (2, .int v2), (3, .int v3), (4, .int v4)] [] (MM RR S) _
  refine mr_ldc2 (pc' := 3) (v := (-1 : Int64)) dX11_bestFrom_0 rfl rfl ?_
  refine mr_lstore (pc' := 5) (lv' := [(5, .long (-1 : Int64)), (0, .ref 145), (1, .int v1), (2, .int v2), (3, .int v3), (4, .int v4)]) dX11_bestFrom_3 rfl (by decide) rfl ?_
  refine mr_iconst (pc' := 6) (v := (-1 : Int32)) dX11_bestFrom_5 rfl (by decide) ?_
  refine mr_istore (pc' := 8) (lv' := [(7, .int (-1 : Int32)), (5, .long (-1 : Int64)), (0, .ref 145), (1, .int v1), (2, .int v2), (3, .int v3), (4, .int v4)]) dX11_bestFrom_6 rfl (by decide) rfl ?_
  refine mr_sub [(0, .ref 145), (1, .int v1), (2, .int v2), (3, .int v3), (4, .int v4), (5, .long (-1 : Int64)), (7, .int (-1 : Int32))] ⟨rfl, rfl, rfl, rfl, rfl, rfl, rfl, trivial⟩ rfl ?_
  refine ok_lp_X11_bestFrom_8 hR  (fun u13 h14 => ?_) FU _ _  h
  refine mr_lload (pc' := 62) dX11_bestFrom_60 rfl rfl ?_
  obtain rfl := Option.some.inj h14
  exact mr_lreturn dX11_bestFrom_62 rfl
def lp_X11_plan_57 (p1 : Int32) (p2 : Int32) (p3 : Int32) (p4 : Int32) (p5 : Int32) (K : fS → Option (Int64 × fS)) : Nat → Int32 → fS → Option (Int64 × fS)
  | 0, _, _ => none
  | n + 1, p6, S0 =>
    if (10 : Int32) ≤ p6 then (K S0) else
    (if p6 = p2 then ((sL S0 162 1210 (((10 : Int32) * p3) + p6) (0 : Int64)).bind fun S26 =>
    lp_X11_plan_57 p1 p2 p3 p4 p5 K n (p6 + (1 : Int32)) S26) else
    ((sL S0 162 1210 (((10 : Int32) * p3) + p6) (-1 : Int64)).bind fun S23 =>
    lp_X11_plan_57 p1 p2 p3 p4 p5 K n (p6 + (1 : Int32)) S23))
set_option maxHeartbeats 4000000 in
set_option maxRecDepth 100000 in
theorem ok_lp_X11_plan_57 {X : mm_C} {RR : Nat → Nat → Option Nat} (hR : RRok RR) {p1 : Int32} {p2 : Int32} {p3 : Int32} {p4 : Int32} {p5 : Int32}  {K : fS → Option (Int64 × fS)} {r : Int64 × fS} (hK : ∀ (Sk : fS), K Sk = some r → mr X 4 mY_X11_plan 95 [(0, .ref 145), (1, .int p1), (3, .int p3), (4, .int p4), (5, .int p5)] [] (MM RR Sk) (some (.long r.1), MM RR r.2)) : ∀ (n : Nat) (p6 : Int32) (S0 : fS), lp_X11_plan_57 p1 p2 p3 p4 p5 K n p6 S0 = some r → mr X 4 mY_X11_plan 57 [(0, .ref 145), (1, .int p1), (2, .int p2), (3, .int p3), (4, .int p4), (5, .int p5), (6, .int p6)] [] (MM RR S0) (some (.long r.1), MM RR r.2) := by
  intro n
  induction n with
  | zero => intro p6 S0 h; exact mm_no h
  | succ n ih =>
    intro p6 S0 h
    unfold lp_X11_plan_57 at h
    refine mr_iload (pc' := 59) dX11_plan_57 rfl rfl ?_
    refine mr_bipush (pc' := 61) (v := (10 : Int32)) dX11_plan_59 rfl (by decide) ?_
    by_cases c21 : (10 : Int32) ≤ p6
    · rw [if_pos c21] at h
      refine mr_icmp_ge_t (t := 95) dX11_plan_61 (by decide) c21 ?_
      exact mr_sub [(0, .ref 145), (1, .int p1), (3, .int p3), (4, .int p4), (5, .int p5)] ⟨rfl, rfl, rfl, rfl, rfl, trivial⟩ rfl (hK _  h)
    · rw [if_neg c21] at h
      refine mr_icmp_ge_f (t := 95) (pc' := 64) dX11_plan_61 (by decide) rfl c21 ?_
      refine mr_aload_n (pc' := 65) dX11_plan_64 rfl rfl ?_
      refine mr_getR (pc' := 68) (ci := 11) (j := 30) (b := 162) hR dX11_plan_65 rfl rfl rfl (by decide) (by decide) (by decide) rfl rfl ?_
      refine mr_bipush (pc' := 70) (v := (10 : Int32)) dX11_plan_68 rfl (by decide) ?_
      refine mr_iload_n (pc' := 71) dX11_plan_70 rfl rfl ?_
      refine mr_imul (pc' := 72) dX11_plan_71 rfl ?_
      refine mr_iload (pc' := 74) dX11_plan_72 rfl rfl ?_
      refine mr_iadd (pc' := 75) dX11_plan_74 rfl ?_
      refine mr_iload (pc' := 77) dX11_plan_75 rfl rfl ?_
      refine mr_iload_n (pc' := 78) dX11_plan_77 rfl rfl ?_
      by_cases c22 : p6 = p2
      · rw [if_pos c22] at h
        refine mr_icmp_ne_f (t := 85) (pc' := 81) dX11_plan_78 (by decide) rfl (not_not_intro c22) ?_
        refine mr_lconst (pc' := 82) (v := (0 : Int64)) dX11_plan_81 rfl (by decide) ?_
        refine mr_goto (t := 88) dX11_plan_82 (by decide) ?_
        obtain ⟨S26, g27, h28⟩ := Option.bind_eq_some_iff.mp h
        refine mr_last (pc' := 89) dX11_plan_88 rfl rfl rfl g27 ?_
        refine mr_iinc (pc' := 92) (x' := (p6 + (1 : Int32))) (lv' := [(6, .int (p6 + (1 : Int32))), (0, .ref 145), (1, .int p1), (2, .int p2), (3, .int p3), (4, .int p4), (5, .int p5)]) dX11_plan_89 rfl (by decide) rfl rfl rfl ?_
        refine mr_goto (t := 57) dX11_plan_92 (by decide) ?_
        exact mr_sub [(0, .ref 145), (1, .int p1), (2, .int p2), (3, .int p3), (4, .int p4), (5, .int p5), (6, .int (p6 + (1 : Int32)))] ⟨rfl, rfl, rfl, rfl, rfl, rfl, rfl, trivial⟩ rfl (ih _ _  h28)
      · rw [if_neg c22] at h
        refine mr_icmp_ne_t (t := 85) dX11_plan_78 (by decide) c22 ?_
        refine mr_ldc2 (pc' := 88) (v := (-1 : Int64)) dX11_plan_85 rfl rfl ?_
        obtain ⟨S23, g24, h25⟩ := Option.bind_eq_some_iff.mp h
        refine mr_last (pc' := 89) dX11_plan_88 rfl rfl rfl g24 ?_
        refine mr_iinc (pc' := 92) (x' := (p6 + (1 : Int32))) (lv' := [(6, .int (p6 + (1 : Int32))), (0, .ref 145), (1, .int p1), (2, .int p2), (3, .int p3), (4, .int p4), (5, .int p5)]) dX11_plan_89 rfl (by decide) rfl rfl rfl ?_
        refine mr_goto (t := 57) dX11_plan_92 (by decide) ?_
        exact mr_sub [(0, .ref 145), (1, .int p1), (2, .int p2), (3, .int p3), (4, .int p4), (5, .int p5), (6, .int (p6 + (1 : Int32)))] ⟨rfl, rfl, rfl, rfl, rfl, rfl, rfl, trivial⟩ rfl (ih _ _  h25)
def lp_X11_plan_108 (p1 : Int32) (p3 : Int32) (p4 : Int32) (p5 : Int32) (p6 : Int32) (K : fS → Option (Int64 × fS)) : Nat → Int32 → fS → Option (Int64 × fS)
  | 0, _, _ => none
  | n + 1, p7, S0 =>
    (gI S0 157 158 (0 : Int32)).bind fun a32 =>
    if a32 ≤ p7 then (K S0) else
    ((f_X11_bestFrom p7 p6 p3 p4 S0).bind fun q36 =>
    (sL S0 162 1210 (((10 : Int32) * p6) + p7) q36).bind fun S39 =>
    lp_X11_plan_108 p1 p3 p4 p5 p6 K n (p7 + (1 : Int32)) S39)
set_option maxHeartbeats 4000000 in
set_option maxRecDepth 100000 in
theorem ok_lp_X11_plan_108 {X : mm_C} {RR : Nat → Nat → Option Nat} (hR : RRok RR) {p1 : Int32} {p3 : Int32} {p4 : Int32} {p5 : Int32} {p6 : Int32}  {K : fS → Option (Int64 × fS)} {r : Int64 × fS} (hK : ∀ (Sk : fS), K Sk = some r → mr X 4 mY_X11_plan 149 [(0, .ref 145), (1, .int p1), (3, .int p3), (4, .int p4), (5, .int p5), (6, .int p6)] [] (MM RR Sk) (some (.long r.1), MM RR r.2)) : ∀ (n : Nat) (p7 : Int32) (S0 : fS), lp_X11_plan_108 p1 p3 p4 p5 p6 K n p7 S0 = some r → mr X 4 mY_X11_plan 108 [(0, .ref 145), (1, .int p1), (3, .int p3), (4, .int p4), (5, .int p5), (6, .int p6), (7, .int p7)] [] (MM RR S0) (some (.long r.1), MM RR r.2) := by
  intro n
  induction n with
  | zero => intro p7 S0 h; exact mm_no h
  | succ n ih =>
    intro p7 S0 h
    unfold lp_X11_plan_108 at h
    refine mr_iload (pc' := 110) dX11_plan_108 rfl rfl ?_
    refine mr_aload_n (pc' := 111) dX11_plan_110 rfl rfl ?_
    refine mr_getR (pc' := 114) (ci := 11) (j := 25) (b := 157) hR dX11_plan_111 rfl rfl rfl (by decide) (by decide) (by decide) rfl rfl ?_
    refine mr_iconst (pc' := 115) (v := (0 : Int32)) dX11_plan_114 rfl (by decide) ?_
    obtain ⟨a32, g33, h34⟩ := Option.bind_eq_some_iff.mp h
    refine mr_iald (pc' := 116) dX11_plan_115 rfl rfl rfl g33 ?_
    by_cases c35 : a32 ≤ p7
    · rw [if_pos c35] at h34
      refine mr_icmp_ge_t (t := 149) dX11_plan_116 (by decide) c35 ?_
      exact mr_sub [(0, .ref 145), (1, .int p1), (3, .int p3), (4, .int p4), (5, .int p5), (6, .int p6)] ⟨rfl, rfl, rfl, rfl, rfl, rfl, trivial⟩ rfl (hK _  h34)
    · rw [if_neg c35] at h34
      refine mr_icmp_ge_f (t := 149) (pc' := 119) dX11_plan_116 (by decide) rfl c35 ?_
      refine mr_aload_n (pc' := 120) dX11_plan_119 rfl rfl ?_
      refine mr_getR (pc' := 123) (ci := 11) (j := 30) (b := 162) hR dX11_plan_120 rfl rfl rfl (by decide) (by decide) (by decide) rfl rfl ?_
      refine mr_bipush (pc' := 125) (v := (10 : Int32)) dX11_plan_123 rfl (by decide) ?_
      refine mr_iload (pc' := 127) dX11_plan_125 rfl rfl ?_
      refine mr_imul (pc' := 128) dX11_plan_127 rfl ?_
      refine mr_iload (pc' := 130) dX11_plan_128 rfl rfl ?_
      refine mr_iadd (pc' := 131) dX11_plan_130 rfl ?_
      refine mr_aload_n (pc' := 132) dX11_plan_131 rfl rfl ?_
      refine mr_iload (pc' := 134) dX11_plan_132 rfl rfl ?_
      refine mr_iload (pc' := 136) dX11_plan_134 rfl rfl ?_
      refine mr_iload_n (pc' := 137) dX11_plan_136 rfl rfl ?_
      refine mr_iload (pc' := 139) dX11_plan_137 rfl rfl ?_
      obtain ⟨q36, g37, h38⟩ := Option.bind_eq_some_iff.mp h34
      refine mr_cv (pc' := 142) (a := 145) (d1 := 3) dX11_plan_139 rfl rfl rfl rfl rfl rfl (by decide) rfl (by decide) (ok_X11_bestFrom hR  g37) ?_
      show mr X _ _ 142 _ [.long q36, .int (((10 : Int32) * p6) + p7), .ref 162] (MM RR S0) _
      obtain ⟨S39, g40, h41⟩ := Option.bind_eq_some_iff.mp h38
      refine mr_last (pc' := 143) dX11_plan_142 rfl rfl rfl g40 ?_
      refine mr_iinc (pc' := 146) (x' := (p7 + (1 : Int32))) (lv' := [(7, .int (p7 + (1 : Int32))), (0, .ref 145), (1, .int p1), (3, .int p3), (4, .int p4), (5, .int p5), (6, .int p6)]) dX11_plan_143 rfl (by decide) rfl rfl rfl ?_
      refine mr_goto (t := 108) dX11_plan_146 (by decide) ?_
      exact mr_sub [(0, .ref 145), (1, .int p1), (3, .int p3), (4, .int p4), (5, .int p5), (6, .int p6), (7, .int (p7 + (1 : Int32)))] ⟨rfl, rfl, rfl, rfl, rfl, rfl, rfl, trivial⟩ rfl (ih _ _  h41)
def lp_X11_plan_100 (p1 : Int32) (p3 : Int32) (p4 : Int32) (p5 : Int32) (K : fS → Option (Int64 × fS)) : Nat → Int32 → fS → Option (Int64 × fS)
  | 0, _, _ => none
  | n + 1, p6, S0 =>
    if p6 < (0 : Int32) then (K S0) else
    (lp_X11_plan_108 p1 p3 p4 p5 p6 (fun S42 => lp_X11_plan_100 p1 p3 p4 p5 K n (p6 + (-1 : Int32)) S42) FU (0 : Int32) S0)
set_option maxHeartbeats 4000000 in
set_option maxRecDepth 100000 in
theorem ok_lp_X11_plan_100 {X : mm_C} {RR : Nat → Nat → Option Nat} (hR : RRok RR) {p1 : Int32} {p3 : Int32} {p4 : Int32} {p5 : Int32}  {K : fS → Option (Int64 × fS)} {r : Int64 × fS} (hK : ∀ (Sk : fS), K Sk = some r → mr X 4 mY_X11_plan 155 [(0, .ref 145), (1, .int p1), (3, .int p3), (5, .int p5)] [] (MM RR Sk) (some (.long r.1), MM RR r.2)) : ∀ (n : Nat) (p6 : Int32) (S0 : fS), lp_X11_plan_100 p1 p3 p4 p5 K n p6 S0 = some r → mr X 4 mY_X11_plan 100 [(0, .ref 145), (1, .int p1), (3, .int p3), (4, .int p4), (5, .int p5), (6, .int p6)] [] (MM RR S0) (some (.long r.1), MM RR r.2) := by
  intro n
  induction n with
  | zero => intro p6 S0 h; exact mm_no h
  | succ n ih =>
    intro p6 S0 h
    unfold lp_X11_plan_100 at h
    refine mr_iload (pc' := 102) dX11_plan_100 rfl rfl ?_
    by_cases c31 : p6 < (0 : Int32)
    · rw [if_pos c31] at h
      refine mr_if_lt_t (t := 155) dX11_plan_102 (by decide) c31 ?_
      exact mr_sub [(0, .ref 145), (1, .int p1), (3, .int p3), (5, .int p5)] ⟨rfl, rfl, rfl, rfl, trivial⟩ rfl (hK _  h)
    · rw [if_neg c31] at h
      refine mr_if_lt_f (t := 155) (pc' := 105) dX11_plan_102 (by decide) rfl c31 ?_
      refine mr_iconst (pc' := 106) (v := (0 : Int32)) dX11_plan_105 rfl (by decide) ?_
      refine mr_istore (pc' := 108) (lv' := [(7, .int (0 : Int32)), (0, .ref 145), (1, .int p1), (3, .int p3), (4, .int p4), (5, .int p5), (6, .int p6)]) dX11_plan_106 rfl (by decide) rfl ?_
      refine mr_sub [(0, .ref 145), (1, .int p1), (3, .int p3), (4, .int p4), (5, .int p5), (6, .int p6), (7, .int (0 : Int32))] ⟨rfl, rfl, rfl, rfl, rfl, rfl, rfl, trivial⟩ rfl ?_
      refine ok_lp_X11_plan_108 hR  (fun S42 h43 => ?_) FU _ _  h
      refine mr_iinc (pc' := 152) (x' := (p6 + (-1 : Int32))) (lv' := [(6, .int (p6 + (-1 : Int32))), (0, .ref 145), (1, .int p1), (3, .int p3), (4, .int p4), (5, .int p5)]) dX11_plan_149 rfl (by decide) rfl rfl rfl ?_
      refine mr_goto (t := 100) dX11_plan_152 (by decide) ?_
      exact mr_sub [(0, .ref 145), (1, .int p1), (3, .int p3), (4, .int p4), (5, .int p5), (6, .int (p6 + (-1 : Int32)))] ⟨rfl, rfl, rfl, rfl, rfl, rfl, trivial⟩ rfl (ih _ _  h43)
def lp_X11_plan_218 (p3 : Int32) (p6 : Int32) (p7 : Int64) (K : Int32 → fS → Option (Int64 × fS)) : Nat → Int32 → fS → Option (Int64 × fS)
  | 0, _, _ => none
  | n + 1, p9, S0 =>
    (f_X11_by p6 (0 : Int32) p9 p3 S0).bind fun q55 =>
    if q55 = p7 then (K p9 S0) else
    (lp_X11_plan_218 p3 p6 p7 K n (p9 + (1 : Int32)) S0)
set_option maxHeartbeats 4000000 in
set_option maxRecDepth 100000 in
theorem ok_lp_X11_plan_218 {X : mm_C} {RR : Nat → Nat → Option Nat} (hR : RRok RR) {p3 : Int32} {p6 : Int32} {p7 : Int64}  {K : Int32 → fS → Option (Int64 × fS)} {r : Int64 × fS} (hK : ∀ (k9 : Int32) (Sk : fS), K k9 Sk = some r → mr X 4 mY_X11_plan 240 [(9, .int k9)] [] (MM RR Sk) (some (.long r.1), MM RR r.2)) : ∀ (n : Nat) (p9 : Int32) (S0 : fS), lp_X11_plan_218 p3 p6 p7 K n p9 S0 = some r → mr X 4 mY_X11_plan 218 [(0, .ref 145), (3, .int p3), (6, .int p6), (7, .long p7), (9, .int p9)] [] (MM RR S0) (some (.long r.1), MM RR r.2) := by
  intro n
  induction n with
  | zero => intro p9 S0 h; exact mm_no h
  | succ n ih =>
    intro p9 S0 h
    unfold lp_X11_plan_218 at h
    refine mr_aload_n (pc' := 219) dX11_plan_218 rfl rfl ?_
    refine mr_iload (pc' := 221) dX11_plan_219 rfl rfl ?_
    refine mr_iconst (pc' := 222) (v := (0 : Int32)) dX11_plan_221 rfl (by decide) ?_
    refine mr_iload (pc' := 224) dX11_plan_222 rfl rfl ?_
    refine mr_iload_n (pc' := 225) dX11_plan_224 rfl rfl ?_
    obtain ⟨q55, g56, h57⟩ := Option.bind_eq_some_iff.mp h
    refine mr_cv (pc' := 228) (a := 145) (d1 := 2) dX11_plan_225 rfl rfl rfl rfl rfl rfl (by decide) rfl (by decide) (ok_X11_by hR  g56) ?_
    show mr X _ _ 228 _ [.long q55] (MM RR S0) _
    refine mr_lload (pc' := 230) dX11_plan_228 rfl rfl ?_
    by_cases c58 : q55 = p7
    · rw [if_pos c58] at h57
      refine mr_lcmp_eq_t (t := 240) dX11_plan_230 rfl dX11_plan_231 (by decide) c58 ?_
      exact mr_sub [(9, .int p9)] ⟨rfl, trivial⟩ rfl (hK _ _  h57)
    · rw [if_neg c58] at h57
      refine mr_lcmp_eq_f (t := 240) (pc' := 234) dX11_plan_230 rfl dX11_plan_231 (by decide) rfl c58 ?_
      refine mr_iinc (pc' := 237) (x' := (p9 + (1 : Int32))) (lv' := [(9, .int (p9 + (1 : Int32))), (0, .ref 145), (3, .int p3), (6, .int p6), (7, .long p7)]) dX11_plan_234 rfl (by decide) rfl rfl rfl ?_
      refine mr_goto (t := 218) dX11_plan_237 (by decide) ?_
      exact mr_sub [(0, .ref 145), (3, .int p3), (6, .int p6), (7, .long p7), (9, .int (p9 + (1 : Int32)))] ⟨rfl, rfl, rfl, rfl, rfl, trivial⟩ rfl (ih _ _  h57)
def f_X11_plan (v1 : Int32) (v2 : Int32) (v3 : Int32) (v4 : Int32) (v5 : Int32) (S : fS) : Option (Int64 × fS) :=
  (f_X11_isThing v1 S).bind fun q1 =>
  if q1 = (0 : Int32) then (some ((-1 : Int64), S)) else
  ((f_X11_thingOf v1 (0 : Int32) S).bind fun q5 =>
  if q5 < (0 : Int32) then (some ((-1 : Int64), S)) else
  ((f_X11_isFloor v2 S).bind fun q9 =>
  if q9 = (0 : Int32) then (some ((-1 : Int64), S)) else
  ((f_X11_in (Int32.toInt64 v3) (0 : Int64) (120 : Int64) S).bind fun q13 =>
  if q13 = (0 : Int32) then (some ((-1 : Int64), S)) else
  ((f_X11_in (Int32.toInt64 v5) (0 : Int64) (2 : Int64) S).bind fun q17 =>
  if q17 = (0 : Int32) then (some ((-1 : Int64), S)) else
  (lp_X11_plan_57 v1 v2 v3 v4 v5 (fun S29 => lp_X11_plan_100 v1 v3 v4 v5 (fun S44 => (f_X11_thingOf v1 (0 : Int32) S44).bind fun q46 =>
  (gL S44 162 1210 q46).bind fun a49 =>
  if (0 : Int64) ≤ a49 then (if (2 : Int32) ≤ v5 then (if v3 = (0 : Int32) then (some ((-4 : Int64), S44)) else
  (lp_X11_plan_218 v3 q46 a49 (fun u59 S60 => if (0 : Int32) ≤ u59 then (some ((Int32.toInt64 u59), S60)) else
  (some ((-3 : Int64), S60))) FU (-1 : Int32) S44)) else
  ((gL S44 158 8 v1).bind fun a63 =>
  (f_X11_lowest (a63 + a49) (232792560 : Int64) v5 S44).bind fun q66 =>
  some (q66, S44))) else
  (some ((-2 : Int64), S44))) FU (v3 - (1 : Int32)) S29) FU (0 : Int32) S)))))
set_option maxHeartbeats 4000000 in
set_option maxRecDepth 100000 in
theorem ok_X11_plan {X : mm_C} {RR : Nat → Nat → Option Nat} (hR : RRok RR) {v1 : Int32} {v2 : Int32} {v3 : Int32} {v4 : Int32} {v5 : Int32}  {S : fS} {r : Int64 × fS} (h : f_X11_plan v1 v2 v3 v4 v5 S = some r) : mr X 4 mY_X11_plan 0 (lv_args 0 [.ref 145, .int v1, .int v2, .int v3, .int v4, .int v5]) [] (MM RR S) (some (.long r.1), MM RR r.2) := by
  unfold f_X11_plan at h
  show mr X _ _ 0 [(0, .ref 145), (1, .int v1), (2, .int v2), (3, .int v3), (4, .int v4), (5, .int v5)] [] (MM RR S) _
  refine mr_aload_n (pc' := 1) dX11_plan_0 rfl rfl ?_
  refine mr_iload_n (pc' := 2) dX11_plan_1 rfl rfl ?_
  obtain ⟨q1, g2, h3⟩ := Option.bind_eq_some_iff.mp h
  refine mr_cv (pc' := 5) (a := 145) (d1 := 0) dX11_plan_2 rfl rfl rfl rfl rfl rfl (by decide) rfl (by decide) (ok_X11_isThing hR  g2) ?_
  show mr X _ _ 5 _ [.int q1] (MM RR S) _
  by_cases c4 : q1 = (0 : Int32)
  · rw [if_pos c4] at h3
    refine mr_if_eq_t (t := 50) dX11_plan_5 (by decide) c4 ?_
    refine mr_ldc2 (pc' := 53) (v := (-1 : Int64)) dX11_plan_50 rfl rfl ?_
    obtain rfl := Option.some.inj h3
    exact mr_lreturn dX11_plan_53 rfl
  · rw [if_neg c4] at h3
    refine mr_if_eq_f (t := 50) (pc' := 8) dX11_plan_5 (by decide) rfl c4 ?_
    refine mr_aload_n (pc' := 9) dX11_plan_8 rfl rfl ?_
    refine mr_iload_n (pc' := 10) dX11_plan_9 rfl rfl ?_
    refine mr_iconst (pc' := 11) (v := (0 : Int32)) dX11_plan_10 rfl (by decide) ?_
    obtain ⟨q5, g6, h7⟩ := Option.bind_eq_some_iff.mp h3
    refine mr_cv (pc' := 14) (a := 145) (d1 := 0) dX11_plan_11 rfl rfl rfl rfl rfl rfl (by decide) rfl (by decide) (ok_X11_thingOf hR  g6) ?_
    show mr X _ _ 14 _ [.int q5] (MM RR S) _
    by_cases c8 : q5 < (0 : Int32)
    · rw [if_pos c8] at h7
      refine mr_if_lt_t (t := 50) dX11_plan_14 (by decide) c8 ?_
      refine mr_ldc2 (pc' := 53) (v := (-1 : Int64)) dX11_plan_50 rfl rfl ?_
      obtain rfl := Option.some.inj h7
      exact mr_lreturn dX11_plan_53 rfl
    · rw [if_neg c8] at h7
      refine mr_if_lt_f (t := 50) (pc' := 17) dX11_plan_14 (by decide) rfl c8 ?_
      refine mr_aload_n (pc' := 18) dX11_plan_17 rfl rfl ?_
      refine mr_iload_n (pc' := 19) dX11_plan_18 rfl rfl ?_
      obtain ⟨q9, g10, h11⟩ := Option.bind_eq_some_iff.mp h7
      refine mr_cv (pc' := 22) (a := 145) (d1 := 0) dX11_plan_19 rfl rfl rfl rfl rfl rfl (by decide) rfl (by decide) (ok_X11_isFloor hR  g10) ?_
      show mr X _ _ 22 _ [.int q9] (MM RR S) _
      by_cases c12 : q9 = (0 : Int32)
      · rw [if_pos c12] at h11
        refine mr_if_eq_t (t := 50) dX11_plan_22 (by decide) c12 ?_
        refine mr_ldc2 (pc' := 53) (v := (-1 : Int64)) dX11_plan_50 rfl rfl ?_
        obtain rfl := Option.some.inj h11
        exact mr_lreturn dX11_plan_53 rfl
      · rw [if_neg c12] at h11
        refine mr_if_eq_f (t := 50) (pc' := 25) dX11_plan_22 (by decide) rfl c12 ?_
        refine mr_iload_n (pc' := 26) dX11_plan_25 rfl rfl ?_
        refine mr_i2l (pc' := 27) dX11_plan_26 rfl ?_
        refine mr_lconst (pc' := 28) (v := (0 : Int64)) dX11_plan_27 rfl (by decide) ?_
        refine mr_ldc2 (pc' := 31) (v := (120 : Int64)) dX11_plan_28 rfl rfl ?_
        obtain ⟨q13, g14, h15⟩ := Option.bind_eq_some_iff.mp h11
        refine mr_cs (pc' := 34) (d1 := 0) dX11_plan_31 rfl rfl rfl rfl (by decide) (Nat.le_of_ble_eq_true rfl) rfl rfl rfl (by decide) (ok_X11_in hR  g14) ?_
        show mr X _ _ 34 _ [.int q13] (MM RR S) _
        by_cases c16 : q13 = (0 : Int32)
        · rw [if_pos c16] at h15
          refine mr_if_eq_t (t := 50) dX11_plan_34 (by decide) c16 ?_
          refine mr_ldc2 (pc' := 53) (v := (-1 : Int64)) dX11_plan_50 rfl rfl ?_
          obtain rfl := Option.some.inj h15
          exact mr_lreturn dX11_plan_53 rfl
        · rw [if_neg c16] at h15
          refine mr_if_eq_f (t := 50) (pc' := 37) dX11_plan_34 (by decide) rfl c16 ?_
          refine mr_iload (pc' := 39) dX11_plan_37 rfl rfl ?_
          refine mr_i2l (pc' := 40) dX11_plan_39 rfl ?_
          refine mr_lconst (pc' := 41) (v := (0 : Int64)) dX11_plan_40 rfl (by decide) ?_
          refine mr_ldc2 (pc' := 44) (v := (2 : Int64)) dX11_plan_41 rfl rfl ?_
          obtain ⟨q17, g18, h19⟩ := Option.bind_eq_some_iff.mp h15
          refine mr_cs (pc' := 47) (d1 := 0) dX11_plan_44 rfl rfl rfl rfl (by decide) (Nat.le_of_ble_eq_true rfl) rfl rfl rfl (by decide) (ok_X11_in hR  g18) ?_
          show mr X _ _ 47 _ [.int q17] (MM RR S) _
          by_cases c20 : q17 = (0 : Int32)
          · rw [if_pos c20] at h19
            refine mr_if_ne_f (t := 54) (pc' := 50) dX11_plan_47 (by decide) rfl (not_not_intro c20) ?_
            refine mr_ldc2 (pc' := 53) (v := (-1 : Int64)) dX11_plan_50 rfl rfl ?_
            obtain rfl := Option.some.inj h19
            exact mr_lreturn dX11_plan_53 rfl
          · rw [if_neg c20] at h19
            refine mr_if_ne_t (t := 54) dX11_plan_47 (by decide) c20 ?_
            refine mr_iconst (pc' := 55) (v := (0 : Int32)) dX11_plan_54 rfl (by decide) ?_
            refine mr_istore (pc' := 57) (lv' := [(6, .int (0 : Int32)), (0, .ref 145), (1, .int v1), (2, .int v2), (3, .int v3), (4, .int v4), (5, .int v5)]) dX11_plan_55 rfl (by decide) rfl ?_
            refine mr_sub [(0, .ref 145), (1, .int v1), (2, .int v2), (3, .int v3), (4, .int v4), (5, .int v5), (6, .int (0 : Int32))] ⟨rfl, rfl, rfl, rfl, rfl, rfl, rfl, trivial⟩ rfl ?_
            refine ok_lp_X11_plan_57 hR  (fun S29 h30 => ?_) FU _ _  h19
            refine mr_iload_n (pc' := 96) dX11_plan_95 rfl rfl ?_
            refine mr_iconst (pc' := 97) (v := (1 : Int32)) dX11_plan_96 rfl (by decide) ?_
            refine mr_isub (pc' := 98) dX11_plan_97 rfl ?_
            refine mr_istore (pc' := 100) (lv' := [(6, .int (v3 - (1 : Int32))), (0, .ref 145), (1, .int v1), (3, .int v3), (4, .int v4), (5, .int v5)]) dX11_plan_98 rfl (by decide) rfl ?_
            refine mr_sub [(0, .ref 145), (1, .int v1), (3, .int v3), (4, .int v4), (5, .int v5), (6, .int (v3 - (1 : Int32)))] ⟨rfl, rfl, rfl, rfl, rfl, rfl, trivial⟩ rfl ?_
            refine ok_lp_X11_plan_100 hR  (fun S44 h45 => ?_) FU _ _  h30
            refine mr_aload_n (pc' := 156) dX11_plan_155 rfl rfl ?_
            refine mr_iload_n (pc' := 157) dX11_plan_156 rfl rfl ?_
            refine mr_iconst (pc' := 158) (v := (0 : Int32)) dX11_plan_157 rfl (by decide) ?_
            obtain ⟨q46, g47, h48⟩ := Option.bind_eq_some_iff.mp h45
            refine mr_cv (pc' := 161) (a := 145) (d1 := 0) dX11_plan_158 rfl rfl rfl rfl rfl rfl (by decide) rfl (by decide) (ok_X11_thingOf hR  g47) ?_
            show mr X _ _ 161 _ [.int q46] (MM RR S44) _
            refine mr_istore (pc' := 163) (lv' := [(6, .int q46), (0, .ref 145), (1, .int v1), (3, .int v3), (5, .int v5)]) dX11_plan_161 rfl (by decide) rfl ?_
            refine mr_aload_n (pc' := 164) dX11_plan_163 rfl rfl ?_
            refine mr_getR (pc' := 167) (ci := 11) (j := 30) (b := 162) hR dX11_plan_164 rfl rfl rfl (by decide) (by decide) (by decide) rfl rfl ?_
            refine mr_iload (pc' := 169) dX11_plan_167 rfl rfl ?_
            obtain ⟨a49, g50, h51⟩ := Option.bind_eq_some_iff.mp h48
            refine mr_lald (pc' := 170) dX11_plan_169 rfl rfl rfl g50 ?_
            refine mr_lstore (pc' := 172) (lv' := [(7, .long a49), (6, .int q46), (0, .ref 145), (1, .int v1), (3, .int v3), (5, .int v5)]) dX11_plan_170 rfl (by decide) rfl ?_
            refine mr_lload (pc' := 174) dX11_plan_172 rfl rfl ?_
            refine mr_lconst (pc' := 175) (v := (0 : Int64)) dX11_plan_174 rfl (by decide) ?_
            by_cases c52 : (0 : Int64) ≤ a49
            · rw [if_pos c52] at h51
              refine mr_lcmp_ge_t (t := 183) dX11_plan_175 rfl dX11_plan_176 (by decide) c52 ?_
              refine mr_iload (pc' := 185) dX11_plan_183 rfl rfl ?_
              refine mr_iconst (pc' := 186) (v := (2 : Int32)) dX11_plan_185 rfl (by decide) ?_
              by_cases c53 : (2 : Int32) ≤ v5
              · rw [if_pos c53] at h51
                refine mr_icmp_ge_t (t := 207) dX11_plan_186 (by decide) c53 ?_
                refine mr_iload_n (pc' := 208) dX11_plan_207 rfl rfl ?_
                by_cases c54 : v3 = (0 : Int32)
                · rw [if_pos c54] at h51
                  refine mr_if_ne_f (t := 215) (pc' := 211) dX11_plan_208 (by decide) rfl (not_not_intro c54) ?_
                  refine mr_ldc2 (pc' := 214) (v := (-4 : Int64)) dX11_plan_211 rfl rfl ?_
                  obtain rfl := Option.some.inj h51
                  exact mr_lreturn dX11_plan_214 rfl
                · rw [if_neg c54] at h51
                  refine mr_if_ne_t (t := 215) dX11_plan_208 (by decide) c54 ?_
                  refine mr_iconst (pc' := 216) (v := (-1 : Int32)) dX11_plan_215 rfl (by decide) ?_
                  refine mr_istore (pc' := 218) (lv' := [(9, .int (-1 : Int32)), (7, .long a49), (6, .int q46), (0, .ref 145), (1, .int v1), (3, .int v3), (5, .int v5)]) dX11_plan_216 rfl (by decide) rfl ?_
                  refine mr_sub [(0, .ref 145), (3, .int v3), (6, .int q46), (7, .long a49), (9, .int (-1 : Int32))] ⟨rfl, rfl, rfl, rfl, rfl, trivial⟩ rfl ?_
                  refine ok_lp_X11_plan_218 hR  (fun u59 S60 h61 => ?_) FU _ _  h51
                  refine mr_iload (pc' := 242) dX11_plan_240 rfl rfl ?_
                  by_cases c62 : (0 : Int32) ≤ u59
                  · rw [if_pos c62] at h61
                    refine mr_if_ge_t (t := 251) dX11_plan_242 (by decide) c62 ?_
                    refine mr_iload (pc' := 253) dX11_plan_251 rfl rfl ?_
                    refine mr_i2l (pc' := 254) dX11_plan_253 rfl ?_
                    obtain rfl := Option.some.inj h61
                    exact mr_lreturn dX11_plan_254 rfl
                  · rw [if_neg c62] at h61
                    refine mr_if_ge_f (t := 251) (pc' := 245) dX11_plan_242 (by decide) rfl c62 ?_
                    refine mr_ldc2 (pc' := 248) (v := (-3 : Int64)) dX11_plan_245 rfl rfl ?_
                    refine mr_goto (t := 254) dX11_plan_248 (by decide) ?_
                    obtain rfl := Option.some.inj h61
                    exact mr_lreturn dX11_plan_254 rfl
              · rw [if_neg c53] at h51
                refine mr_icmp_ge_f (t := 207) (pc' := 189) dX11_plan_186 (by decide) rfl c53 ?_
                refine mr_aload_n (pc' := 190) dX11_plan_189 rfl rfl ?_
                refine mr_getR (pc' := 193) (ci := 11) (j := 26) (b := 158) hR dX11_plan_190 rfl rfl rfl (by decide) (by decide) (by decide) rfl rfl ?_
                refine mr_iload_n (pc' := 194) dX11_plan_193 rfl rfl ?_
                obtain ⟨a63, g64, h65⟩ := Option.bind_eq_some_iff.mp h51
                refine mr_lald (pc' := 195) dX11_plan_194 rfl rfl rfl g64 ?_
                refine mr_lload (pc' := 197) dX11_plan_195 rfl rfl ?_
                refine mr_ladd (pc' := 198) dX11_plan_197 rfl ?_
                refine mr_ldc2 (pc' := 201) (v := (232792560 : Int64)) dX11_plan_198 rfl rfl ?_
                refine mr_iload (pc' := 203) dX11_plan_201 rfl rfl ?_
                obtain ⟨q66, g67, h68⟩ := Option.bind_eq_some_iff.mp h65
                refine mr_cs (pc' := 206) (d1 := 1) dX11_plan_203 rfl rfl rfl rfl (by decide) (Nat.le_of_ble_eq_true rfl) rfl rfl rfl (by decide) (ok_X11_lowest hR  g67) ?_
                show mr X _ _ 206 _ [.long q66] (MM RR S44) _
                obtain rfl := Option.some.inj h68
                exact mr_lreturn dX11_plan_206 rfl
            · rw [if_neg c52] at h51
              refine mr_lcmp_ge_f (t := 183) (pc' := 179) dX11_plan_175 rfl dX11_plan_176 (by decide) rfl c52 ?_
              refine mr_ldc2 (pc' := 182) (v := (-2 : Int64)) dX11_plan_179 rfl rfl ?_
              obtain rfl := Option.some.inj h51
              exact mr_lreturn dX11_plan_182 rfl
def f_X11_even (v1 : Int32) (v2 : Int32) (v3 : Int32) (v4 : Int32) (v5 : Int32) (S : fS) : Option (Int64) :=
  (f_X11_isThing v1 S).bind fun q1 =>
  if q1 = (0 : Int32) then (some (-1 : Int64)) else
  ((f_X11_isThing v2 S).bind fun q5 =>
  if q5 = (0 : Int32) then (some (-1 : Int64)) else
  (if v1 = v2 then (some (-1 : Int64)) else
  ((f_X11_isFloor v3 S).bind fun q10 =>
  if q10 = (0 : Int32) then (some (-1 : Int64)) else
  ((f_X11_isFloor v4 S).bind fun q14 =>
  if q14 = (0 : Int32) then (some (-1 : Int64)) else
  ((f_X11_in (Int32.toInt64 v5) (0 : Int64) (1 : Int64) S).bind fun q18 =>
  if q18 = (0 : Int32) then (some (-1 : Int64)) else
  ((gL S 158 8 v2).bind fun a22 =>
  (gL S 158 8 v1).bind fun a25 =>
  (f_X11_floorParts v3 S).bind fun q28 =>
  (f_X11_floorParts v4 S).bind fun q31 =>
  if (a22 - a25) = (0 : Int64) then (some (Int32.toInt64 v5)) else
  (if (q28 - q31) = (0 : Int64) then (some (-2 : Int64)) else
  (if (a22 - a25) ≤ (0 : Int64) then (if (q28 - q31) ≤ (0 : Int64) then (if (0 : Int32) = (0 : Int32) then ((f_X11_divisor (a22 - a25) (q28 - q31) S).bind fun q39 =>
  if v5 = (0 : Int32) then ((dL (a22 - a25) q39).bind fun a47 =>
  if (0 : Int64) ≤ a47 then (some a47) else
  (some (-a47))) else
  ((dL (q28 - q31) q39).bind fun a43 =>
  if (0 : Int64) ≤ a43 then (some a43) else
  (some (-a43)))) else
  (some (-2 : Int64))) else
  (if (0 : Int32) = (1 : Int32) then ((f_X11_divisor (a22 - a25) (q28 - q31) S).bind fun q52 =>
  if v5 = (0 : Int32) then ((dL (a22 - a25) q52).bind fun a60 =>
  if (0 : Int64) ≤ a60 then (some a60) else
  (some (-a60))) else
  ((dL (q28 - q31) q52).bind fun a56 =>
  if (0 : Int64) ≤ a56 then (some a56) else
  (some (-a56)))) else
  (some (-2 : Int64)))) else
  (if (q28 - q31) ≤ (0 : Int64) then (if (1 : Int32) = (0 : Int32) then ((f_X11_divisor (a22 - a25) (q28 - q31) S).bind fun q66 =>
  if v5 = (0 : Int32) then ((dL (a22 - a25) q66).bind fun a74 =>
  if (0 : Int64) ≤ a74 then (some a74) else
  (some (-a74))) else
  ((dL (q28 - q31) q66).bind fun a70 =>
  if (0 : Int64) ≤ a70 then (some a70) else
  (some (-a70)))) else
  (some (-2 : Int64))) else
  (if (1 : Int32) = (1 : Int32) then ((f_X11_divisor (a22 - a25) (q28 - q31) S).bind fun q79 =>
  if v5 = (0 : Int32) then ((dL (a22 - a25) q79).bind fun a87 =>
  if (0 : Int64) ≤ a87 then (some a87) else
  (some (-a87))) else
  ((dL (q28 - q31) q79).bind fun a83 =>
  if (0 : Int64) ≤ a83 then (some a83) else
  (some (-a83)))) else
  (some (-2 : Int64))))))))))))
set_option maxHeartbeats 4000000 in
set_option maxRecDepth 100000 in
theorem ok_X11_even {X : mm_C} {RR : Nat → Nat → Option Nat} (hR : RRok RR) {v1 : Int32} {v2 : Int32} {v3 : Int32} {v4 : Int32} {v5 : Int32}  {S : fS} {r : Int64} (h : f_X11_even v1 v2 v3 v4 v5 S = some r) : mr X 1 mY_X11_even 0 (lv_args 0 [.ref 145, .int v1, .int v2, .int v3, .int v4, .int v5]) [] (MM RR S) (some (.long r), MM RR S) := by
  unfold f_X11_even at h
  show mr X _ _ 0 [(0, .ref 145), (1, .int v1), (2, .int v2), (3, .int v3), (4, .int v4), (5, .int v5)] [] (MM RR S) _
  refine mr_aload_n (pc' := 1) dX11_even_0 rfl rfl ?_
  refine mr_iload_n (pc' := 2) dX11_even_1 rfl rfl ?_
  obtain ⟨q1, g2, h3⟩ := Option.bind_eq_some_iff.mp h
  refine mr_cv (pc' := 5) (a := 145) (d1 := 0) dX11_even_2 rfl rfl rfl rfl rfl rfl (by decide) rfl (by decide) (ok_X11_isThing hR  g2) ?_
  show mr X _ _ 5 _ [.int q1] (MM RR S) _
  by_cases c4 : q1 = (0 : Int32)
  · rw [if_pos c4] at h3
    refine mr_if_eq_t (t := 49) dX11_even_5 (by decide) c4 ?_
    refine mr_ldc2 (pc' := 52) (v := (-1 : Int64)) dX11_even_49 rfl rfl ?_
    obtain rfl := Option.some.inj h3
    exact mr_lreturn dX11_even_52 rfl
  · rw [if_neg c4] at h3
    refine mr_if_eq_f (t := 49) (pc' := 8) dX11_even_5 (by decide) rfl c4 ?_
    refine mr_aload_n (pc' := 9) dX11_even_8 rfl rfl ?_
    refine mr_iload_n (pc' := 10) dX11_even_9 rfl rfl ?_
    obtain ⟨q5, g6, h7⟩ := Option.bind_eq_some_iff.mp h3
    refine mr_cv (pc' := 13) (a := 145) (d1 := 0) dX11_even_10 rfl rfl rfl rfl rfl rfl (by decide) rfl (by decide) (ok_X11_isThing hR  g6) ?_
    show mr X _ _ 13 _ [.int q5] (MM RR S) _
    by_cases c8 : q5 = (0 : Int32)
    · rw [if_pos c8] at h7
      refine mr_if_eq_t (t := 49) dX11_even_13 (by decide) c8 ?_
      refine mr_ldc2 (pc' := 52) (v := (-1 : Int64)) dX11_even_49 rfl rfl ?_
      obtain rfl := Option.some.inj h7
      exact mr_lreturn dX11_even_52 rfl
    · rw [if_neg c8] at h7
      refine mr_if_eq_f (t := 49) (pc' := 16) dX11_even_13 (by decide) rfl c8 ?_
      refine mr_iload_n (pc' := 17) dX11_even_16 rfl rfl ?_
      refine mr_iload_n (pc' := 18) dX11_even_17 rfl rfl ?_
      by_cases c9 : v1 = v2
      · rw [if_pos c9] at h7
        refine mr_icmp_eq_t (t := 49) dX11_even_18 (by decide) c9 ?_
        refine mr_ldc2 (pc' := 52) (v := (-1 : Int64)) dX11_even_49 rfl rfl ?_
        obtain rfl := Option.some.inj h7
        exact mr_lreturn dX11_even_52 rfl
      · rw [if_neg c9] at h7
        refine mr_icmp_eq_f (t := 49) (pc' := 21) dX11_even_18 (by decide) rfl c9 ?_
        refine mr_aload_n (pc' := 22) dX11_even_21 rfl rfl ?_
        refine mr_iload_n (pc' := 23) dX11_even_22 rfl rfl ?_
        obtain ⟨q10, g11, h12⟩ := Option.bind_eq_some_iff.mp h7
        refine mr_cv (pc' := 26) (a := 145) (d1 := 0) dX11_even_23 rfl rfl rfl rfl rfl rfl (by decide) rfl (by decide) (ok_X11_isFloor hR  g11) ?_
        show mr X _ _ 26 _ [.int q10] (MM RR S) _
        by_cases c13 : q10 = (0 : Int32)
        · rw [if_pos c13] at h12
          refine mr_if_eq_t (t := 49) dX11_even_26 (by decide) c13 ?_
          refine mr_ldc2 (pc' := 52) (v := (-1 : Int64)) dX11_even_49 rfl rfl ?_
          obtain rfl := Option.some.inj h12
          exact mr_lreturn dX11_even_52 rfl
        · rw [if_neg c13] at h12
          refine mr_if_eq_f (t := 49) (pc' := 29) dX11_even_26 (by decide) rfl c13 ?_
          refine mr_aload_n (pc' := 30) dX11_even_29 rfl rfl ?_
          refine mr_iload (pc' := 32) dX11_even_30 rfl rfl ?_
          obtain ⟨q14, g15, h16⟩ := Option.bind_eq_some_iff.mp h12
          refine mr_cv (pc' := 35) (a := 145) (d1 := 0) dX11_even_32 rfl rfl rfl rfl rfl rfl (by decide) rfl (by decide) (ok_X11_isFloor hR  g15) ?_
          show mr X _ _ 35 _ [.int q14] (MM RR S) _
          by_cases c17 : q14 = (0 : Int32)
          · rw [if_pos c17] at h16
            refine mr_if_eq_t (t := 49) dX11_even_35 (by decide) c17 ?_
            refine mr_ldc2 (pc' := 52) (v := (-1 : Int64)) dX11_even_49 rfl rfl ?_
            obtain rfl := Option.some.inj h16
            exact mr_lreturn dX11_even_52 rfl
          · rw [if_neg c17] at h16
            refine mr_if_eq_f (t := 49) (pc' := 38) dX11_even_35 (by decide) rfl c17 ?_
            refine mr_iload (pc' := 40) dX11_even_38 rfl rfl ?_
            refine mr_i2l (pc' := 41) dX11_even_40 rfl ?_
            refine mr_lconst (pc' := 42) (v := (0 : Int64)) dX11_even_41 rfl (by decide) ?_
            refine mr_lconst (pc' := 43) (v := (1 : Int64)) dX11_even_42 rfl (by decide) ?_
            obtain ⟨q18, g19, h20⟩ := Option.bind_eq_some_iff.mp h16
            refine mr_cs (pc' := 46) (d1 := 0) dX11_even_43 rfl rfl rfl rfl (by decide) (Nat.le_of_ble_eq_true rfl) rfl rfl rfl (by decide) (ok_X11_in hR  g19) ?_
            show mr X _ _ 46 _ [.int q18] (MM RR S) _
            by_cases c21 : q18 = (0 : Int32)
            · rw [if_pos c21] at h20
              refine mr_if_ne_f (t := 53) (pc' := 49) dX11_even_46 (by decide) rfl (not_not_intro c21) ?_
              refine mr_ldc2 (pc' := 52) (v := (-1 : Int64)) dX11_even_49 rfl rfl ?_
              obtain rfl := Option.some.inj h20
              exact mr_lreturn dX11_even_52 rfl
            · rw [if_neg c21] at h20
              refine mr_if_ne_t (t := 53) dX11_even_46 (by decide) c21 ?_
              refine mr_aload_n (pc' := 54) dX11_even_53 rfl rfl ?_
              refine mr_getR (pc' := 57) (ci := 11) (j := 26) (b := 158) hR dX11_even_54 rfl rfl rfl (by decide) (by decide) (by decide) rfl rfl ?_
              refine mr_iload_n (pc' := 58) dX11_even_57 rfl rfl ?_
              obtain ⟨a22, g23, h24⟩ := Option.bind_eq_some_iff.mp h20
              refine mr_lald (pc' := 59) dX11_even_58 rfl rfl rfl g23 ?_
              refine mr_aload_n (pc' := 60) dX11_even_59 rfl rfl ?_
              refine mr_getR (pc' := 63) (ci := 11) (j := 26) (b := 158) hR dX11_even_60 rfl rfl rfl (by decide) (by decide) (by decide) rfl rfl ?_
              refine mr_iload_n (pc' := 64) dX11_even_63 rfl rfl ?_
              obtain ⟨a25, g26, h27⟩ := Option.bind_eq_some_iff.mp h24
              refine mr_lald (pc' := 65) dX11_even_64 rfl rfl rfl g26 ?_
              refine mr_lsub (pc' := 66) dX11_even_65 rfl ?_
              refine mr_lstore (pc' := 68) (lv' := [(6, .long (a22 - a25)), (0, .ref 145), (1, .int v1), (2, .int v2), (3, .int v3), (4, .int v4), (5, .int v5)]) dX11_even_66 rfl (by decide) rfl ?_
              refine mr_aload_n (pc' := 69) dX11_even_68 rfl rfl ?_
              refine mr_iload_n (pc' := 70) dX11_even_69 rfl rfl ?_
              obtain ⟨q28, g29, h30⟩ := Option.bind_eq_some_iff.mp h27
              refine mr_cv (pc' := 73) (a := 145) (d1 := 0) dX11_even_70 rfl rfl rfl rfl rfl rfl (by decide) rfl (by decide) (ok_X11_floorParts hR  g29) ?_
              show mr X _ _ 73 _ [.long q28] (MM RR S) _
              refine mr_aload_n (pc' := 74) dX11_even_73 rfl rfl ?_
              refine mr_iload (pc' := 76) dX11_even_74 rfl rfl ?_
              obtain ⟨q31, g32, h33⟩ := Option.bind_eq_some_iff.mp h30
              refine mr_cv (pc' := 79) (a := 145) (d1 := 0) dX11_even_76 rfl rfl rfl rfl rfl rfl (by decide) rfl (by decide) (ok_X11_floorParts hR  g32) ?_
              show mr X _ _ 79 _ [.long q31, .long q28] (MM RR S) _
              refine mr_lsub (pc' := 80) dX11_even_79 rfl ?_
              refine mr_lstore (pc' := 82) (lv' := [(8, .long (q28 - q31)), (6, .long (a22 - a25)), (0, .ref 145), (1, .int v1), (2, .int v2), (3, .int v3), (4, .int v4), (5, .int v5)]) dX11_even_80 rfl (by decide) rfl ?_
              refine mr_lload (pc' := 84) dX11_even_82 rfl rfl ?_
              refine mr_lconst (pc' := 85) (v := (0 : Int64)) dX11_even_84 rfl (by decide) ?_
              by_cases c34 : (a22 - a25) = (0 : Int64)
              · rw [if_pos c34] at h33
                refine mr_lcmp_ne_f (t := 93) (pc' := 89) dX11_even_85 rfl dX11_even_86 (by decide) rfl (not_not_intro c34) ?_
                refine mr_iload (pc' := 91) dX11_even_89 rfl rfl ?_
                refine mr_i2l (pc' := 92) dX11_even_91 rfl ?_
                obtain rfl := Option.some.inj h33
                exact mr_lreturn dX11_even_92 rfl
              · rw [if_neg c34] at h33
                refine mr_lcmp_ne_t (t := 93) dX11_even_85 rfl dX11_even_86 (by decide) c34 ?_
                refine mr_lload (pc' := 95) dX11_even_93 rfl rfl ?_
                refine mr_lconst (pc' := 96) (v := (0 : Int64)) dX11_even_95 rfl (by decide) ?_
                by_cases c35 : (q28 - q31) = (0 : Int64)
                · rw [if_pos c35] at h33
                  refine mr_lcmp_eq_t (t := 127) dX11_even_96 rfl dX11_even_97 (by decide) c35 ?_
                  refine mr_ldc2 (pc' := 130) (v := (-2 : Int64)) dX11_even_127 rfl rfl ?_
                  obtain rfl := Option.some.inj h33
                  exact mr_lreturn dX11_even_130 rfl
                · rw [if_neg c35] at h33
                  refine mr_lcmp_eq_f (t := 127) (pc' := 100) dX11_even_96 rfl dX11_even_97 (by decide) rfl c35 ?_
                  refine mr_lload (pc' := 102) dX11_even_100 rfl rfl ?_
                  refine mr_lconst (pc' := 103) (v := (0 : Int64)) dX11_even_102 rfl (by decide) ?_
                  by_cases c36 : (a22 - a25) ≤ (0 : Int64)
                  · rw [if_pos c36] at h33
                    refine mr_lcmp_le_t (t := 111) dX11_even_103 rfl dX11_even_104 (by decide) c36 ?_
                    refine mr_iconst (pc' := 112) (v := (0 : Int32)) dX11_even_111 rfl (by decide) ?_
                    refine mr_lload (pc' := 114) dX11_even_112 rfl rfl ?_
                    refine mr_lconst (pc' := 115) (v := (0 : Int64)) dX11_even_114 rfl (by decide) ?_
                    by_cases c37 : (q28 - q31) ≤ (0 : Int64)
                    · rw [if_pos c37] at h33
                      refine mr_lcmp_le_t (t := 123) dX11_even_115 rfl dX11_even_116 (by decide) c37 ?_
                      refine mr_iconst (pc' := 124) (v := (0 : Int32)) dX11_even_123 rfl (by decide) ?_
                      by_cases c38 : (0 : Int32) = (0 : Int32)
                      · rw [if_pos c38] at h33
                        refine mr_icmp_eq_t (t := 131) dX11_even_124 (by decide) c38 ?_
                        refine mr_lload (pc' := 133) dX11_even_131 rfl rfl ?_
                        refine mr_lload (pc' := 135) dX11_even_133 rfl rfl ?_
                        obtain ⟨q39, g40, h41⟩ := Option.bind_eq_some_iff.mp h33
                        refine mr_cs (pc' := 138) (d1 := 0) dX11_even_135 rfl rfl rfl rfl (by decide) (Nat.le_of_ble_eq_true rfl) rfl rfl rfl (by decide) (ok_X11_divisor hR  g40) ?_
                        show mr X _ _ 138 _ [.long q39] (MM RR S) _
                        refine mr_lstore (pc' := 140) (lv' := [(10, .long q39), (8, .long (q28 - q31)), (6, .long (a22 - a25)), (0, .ref 145), (1, .int v1), (2, .int v2), (3, .int v3), (4, .int v4), (5, .int v5)]) dX11_even_138 rfl (by decide) rfl ?_
                        refine mr_iload (pc' := 142) dX11_even_140 rfl rfl ?_
                        by_cases c42 : v5 = (0 : Int32)
                        · rw [if_pos c42] at h41
                          refine mr_if_ne_f (t := 150) (pc' := 145) dX11_even_142 (by decide) rfl (not_not_intro c42) ?_
                          refine mr_lload (pc' := 147) dX11_even_145 rfl rfl ?_
                          refine mr_goto (t := 152) dX11_even_147 (by decide) ?_
                          refine mr_lload (pc' := 154) dX11_even_152 rfl rfl ?_
                          obtain ⟨a47, g48, h49⟩ := Option.bind_eq_some_iff.mp h41
                          refine mr_ldiv (pc' := 155) dX11_even_154 rfl g48 ?_
                          refine mr_lstore (pc' := 157) (lv' := [(12, .long a47), (10, .long q39), (8, .long (q28 - q31)), (6, .long (a22 - a25)), (0, .ref 145), (1, .int v1), (2, .int v2), (3, .int v3), (4, .int v4), (5, .int v5)]) dX11_even_155 rfl (by decide) rfl ?_
                          refine mr_lload (pc' := 159) dX11_even_157 rfl rfl ?_
                          refine mr_lconst (pc' := 160) (v := (0 : Int64)) dX11_even_159 rfl (by decide) ?_
                          by_cases c50 : (0 : Int64) ≤ a47
                          · rw [if_pos c50] at h49
                            refine mr_lcmp_ge_t (t := 170) dX11_even_160 rfl dX11_even_161 (by decide) c50 ?_
                            refine mr_lload (pc' := 172) dX11_even_170 rfl rfl ?_
                            obtain rfl := Option.some.inj h49
                            exact mr_lreturn dX11_even_172 rfl
                          · rw [if_neg c50] at h49
                            refine mr_lcmp_ge_f (t := 170) (pc' := 164) dX11_even_160 rfl dX11_even_161 (by decide) rfl c50 ?_
                            refine mr_lload (pc' := 166) dX11_even_164 rfl rfl ?_
                            refine mr_lneg (pc' := 167) dX11_even_166 rfl ?_
                            refine mr_goto (t := 172) dX11_even_167 (by decide) ?_
                            obtain rfl := Option.some.inj h49
                            exact mr_lreturn dX11_even_172 rfl
                        · rw [if_neg c42] at h41
                          refine mr_if_ne_t (t := 150) dX11_even_142 (by decide) c42 ?_
                          refine mr_lload (pc' := 152) dX11_even_150 rfl rfl ?_
                          refine mr_lload (pc' := 154) dX11_even_152 rfl rfl ?_
                          obtain ⟨a43, g44, h45⟩ := Option.bind_eq_some_iff.mp h41
                          refine mr_ldiv (pc' := 155) dX11_even_154 rfl g44 ?_
                          refine mr_lstore (pc' := 157) (lv' := [(12, .long a43), (10, .long q39), (8, .long (q28 - q31)), (6, .long (a22 - a25)), (0, .ref 145), (1, .int v1), (2, .int v2), (3, .int v3), (4, .int v4), (5, .int v5)]) dX11_even_155 rfl (by decide) rfl ?_
                          refine mr_lload (pc' := 159) dX11_even_157 rfl rfl ?_
                          refine mr_lconst (pc' := 160) (v := (0 : Int64)) dX11_even_159 rfl (by decide) ?_
                          by_cases c46 : (0 : Int64) ≤ a43
                          · rw [if_pos c46] at h45
                            refine mr_lcmp_ge_t (t := 170) dX11_even_160 rfl dX11_even_161 (by decide) c46 ?_
                            refine mr_lload (pc' := 172) dX11_even_170 rfl rfl ?_
                            obtain rfl := Option.some.inj h45
                            exact mr_lreturn dX11_even_172 rfl
                          · rw [if_neg c46] at h45
                            refine mr_lcmp_ge_f (t := 170) (pc' := 164) dX11_even_160 rfl dX11_even_161 (by decide) rfl c46 ?_
                            refine mr_lload (pc' := 166) dX11_even_164 rfl rfl ?_
                            refine mr_lneg (pc' := 167) dX11_even_166 rfl ?_
                            refine mr_goto (t := 172) dX11_even_167 (by decide) ?_
                            obtain rfl := Option.some.inj h45
                            exact mr_lreturn dX11_even_172 rfl
                      · rw [if_neg c38] at h33
                        refine mr_icmp_eq_f (t := 131) (pc' := 127) dX11_even_124 (by decide) rfl c38 ?_
                        refine mr_ldc2 (pc' := 130) (v := (-2 : Int64)) dX11_even_127 rfl rfl ?_
                        obtain rfl := Option.some.inj h33
                        exact mr_lreturn dX11_even_130 rfl
                    · rw [if_neg c37] at h33
                      refine mr_lcmp_le_f (t := 123) (pc' := 119) dX11_even_115 rfl dX11_even_116 (by decide) rfl c37 ?_
                      refine mr_iconst (pc' := 120) (v := (1 : Int32)) dX11_even_119 rfl (by decide) ?_
                      refine mr_goto (t := 124) dX11_even_120 (by decide) ?_
                      by_cases c51 : (0 : Int32) = (1 : Int32)
                      · rw [if_pos c51] at h33
                        refine mr_icmp_eq_t (t := 131) dX11_even_124 (by decide) c51 ?_
                        refine mr_lload (pc' := 133) dX11_even_131 rfl rfl ?_
                        refine mr_lload (pc' := 135) dX11_even_133 rfl rfl ?_
                        obtain ⟨q52, g53, h54⟩ := Option.bind_eq_some_iff.mp h33
                        refine mr_cs (pc' := 138) (d1 := 0) dX11_even_135 rfl rfl rfl rfl (by decide) (Nat.le_of_ble_eq_true rfl) rfl rfl rfl (by decide) (ok_X11_divisor hR  g53) ?_
                        show mr X _ _ 138 _ [.long q52] (MM RR S) _
                        refine mr_lstore (pc' := 140) (lv' := [(10, .long q52), (8, .long (q28 - q31)), (6, .long (a22 - a25)), (0, .ref 145), (1, .int v1), (2, .int v2), (3, .int v3), (4, .int v4), (5, .int v5)]) dX11_even_138 rfl (by decide) rfl ?_
                        refine mr_iload (pc' := 142) dX11_even_140 rfl rfl ?_
                        by_cases c55 : v5 = (0 : Int32)
                        · rw [if_pos c55] at h54
                          refine mr_if_ne_f (t := 150) (pc' := 145) dX11_even_142 (by decide) rfl (not_not_intro c55) ?_
                          refine mr_lload (pc' := 147) dX11_even_145 rfl rfl ?_
                          refine mr_goto (t := 152) dX11_even_147 (by decide) ?_
                          refine mr_lload (pc' := 154) dX11_even_152 rfl rfl ?_
                          obtain ⟨a60, g61, h62⟩ := Option.bind_eq_some_iff.mp h54
                          refine mr_ldiv (pc' := 155) dX11_even_154 rfl g61 ?_
                          refine mr_lstore (pc' := 157) (lv' := [(12, .long a60), (10, .long q52), (8, .long (q28 - q31)), (6, .long (a22 - a25)), (0, .ref 145), (1, .int v1), (2, .int v2), (3, .int v3), (4, .int v4), (5, .int v5)]) dX11_even_155 rfl (by decide) rfl ?_
                          refine mr_lload (pc' := 159) dX11_even_157 rfl rfl ?_
                          refine mr_lconst (pc' := 160) (v := (0 : Int64)) dX11_even_159 rfl (by decide) ?_
                          by_cases c63 : (0 : Int64) ≤ a60
                          · rw [if_pos c63] at h62
                            refine mr_lcmp_ge_t (t := 170) dX11_even_160 rfl dX11_even_161 (by decide) c63 ?_
                            refine mr_lload (pc' := 172) dX11_even_170 rfl rfl ?_
                            obtain rfl := Option.some.inj h62
                            exact mr_lreturn dX11_even_172 rfl
                          · rw [if_neg c63] at h62
                            refine mr_lcmp_ge_f (t := 170) (pc' := 164) dX11_even_160 rfl dX11_even_161 (by decide) rfl c63 ?_
                            refine mr_lload (pc' := 166) dX11_even_164 rfl rfl ?_
                            refine mr_lneg (pc' := 167) dX11_even_166 rfl ?_
                            refine mr_goto (t := 172) dX11_even_167 (by decide) ?_
                            obtain rfl := Option.some.inj h62
                            exact mr_lreturn dX11_even_172 rfl
                        · rw [if_neg c55] at h54
                          refine mr_if_ne_t (t := 150) dX11_even_142 (by decide) c55 ?_
                          refine mr_lload (pc' := 152) dX11_even_150 rfl rfl ?_
                          refine mr_lload (pc' := 154) dX11_even_152 rfl rfl ?_
                          obtain ⟨a56, g57, h58⟩ := Option.bind_eq_some_iff.mp h54
                          refine mr_ldiv (pc' := 155) dX11_even_154 rfl g57 ?_
                          refine mr_lstore (pc' := 157) (lv' := [(12, .long a56), (10, .long q52), (8, .long (q28 - q31)), (6, .long (a22 - a25)), (0, .ref 145), (1, .int v1), (2, .int v2), (3, .int v3), (4, .int v4), (5, .int v5)]) dX11_even_155 rfl (by decide) rfl ?_
                          refine mr_lload (pc' := 159) dX11_even_157 rfl rfl ?_
                          refine mr_lconst (pc' := 160) (v := (0 : Int64)) dX11_even_159 rfl (by decide) ?_
                          by_cases c59 : (0 : Int64) ≤ a56
                          · rw [if_pos c59] at h58
                            refine mr_lcmp_ge_t (t := 170) dX11_even_160 rfl dX11_even_161 (by decide) c59 ?_
                            refine mr_lload (pc' := 172) dX11_even_170 rfl rfl ?_
                            obtain rfl := Option.some.inj h58
                            exact mr_lreturn dX11_even_172 rfl
                          · rw [if_neg c59] at h58
                            refine mr_lcmp_ge_f (t := 170) (pc' := 164) dX11_even_160 rfl dX11_even_161 (by decide) rfl c59 ?_
                            refine mr_lload (pc' := 166) dX11_even_164 rfl rfl ?_
                            refine mr_lneg (pc' := 167) dX11_even_166 rfl ?_
                            refine mr_goto (t := 172) dX11_even_167 (by decide) ?_
                            obtain rfl := Option.some.inj h58
                            exact mr_lreturn dX11_even_172 rfl
                      · rw [if_neg c51] at h33
                        refine mr_icmp_eq_f (t := 131) (pc' := 127) dX11_even_124 (by decide) rfl c51 ?_
                        refine mr_ldc2 (pc' := 130) (v := (-2 : Int64)) dX11_even_127 rfl rfl ?_
                        obtain rfl := Option.some.inj h33
                        exact mr_lreturn dX11_even_130 rfl
                  · rw [if_neg c36] at h33
                    refine mr_lcmp_le_f (t := 111) (pc' := 107) dX11_even_103 rfl dX11_even_104 (by decide) rfl c36 ?_
                    refine mr_iconst (pc' := 108) (v := (1 : Int32)) dX11_even_107 rfl (by decide) ?_
                    refine mr_goto (t := 112) dX11_even_108 (by decide) ?_
                    refine mr_lload (pc' := 114) dX11_even_112 rfl rfl ?_
                    refine mr_lconst (pc' := 115) (v := (0 : Int64)) dX11_even_114 rfl (by decide) ?_
                    by_cases c64 : (q28 - q31) ≤ (0 : Int64)
                    · rw [if_pos c64] at h33
                      refine mr_lcmp_le_t (t := 123) dX11_even_115 rfl dX11_even_116 (by decide) c64 ?_
                      refine mr_iconst (pc' := 124) (v := (0 : Int32)) dX11_even_123 rfl (by decide) ?_
                      by_cases c65 : (1 : Int32) = (0 : Int32)
                      · rw [if_pos c65] at h33
                        refine mr_icmp_eq_t (t := 131) dX11_even_124 (by decide) c65 ?_
                        refine mr_lload (pc' := 133) dX11_even_131 rfl rfl ?_
                        refine mr_lload (pc' := 135) dX11_even_133 rfl rfl ?_
                        obtain ⟨q66, g67, h68⟩ := Option.bind_eq_some_iff.mp h33
                        refine mr_cs (pc' := 138) (d1 := 0) dX11_even_135 rfl rfl rfl rfl (by decide) (Nat.le_of_ble_eq_true rfl) rfl rfl rfl (by decide) (ok_X11_divisor hR  g67) ?_
                        show mr X _ _ 138 _ [.long q66] (MM RR S) _
                        refine mr_lstore (pc' := 140) (lv' := [(10, .long q66), (8, .long (q28 - q31)), (6, .long (a22 - a25)), (0, .ref 145), (1, .int v1), (2, .int v2), (3, .int v3), (4, .int v4), (5, .int v5)]) dX11_even_138 rfl (by decide) rfl ?_
                        refine mr_iload (pc' := 142) dX11_even_140 rfl rfl ?_
                        by_cases c69 : v5 = (0 : Int32)
                        · rw [if_pos c69] at h68
                          refine mr_if_ne_f (t := 150) (pc' := 145) dX11_even_142 (by decide) rfl (not_not_intro c69) ?_
                          refine mr_lload (pc' := 147) dX11_even_145 rfl rfl ?_
                          refine mr_goto (t := 152) dX11_even_147 (by decide) ?_
                          refine mr_lload (pc' := 154) dX11_even_152 rfl rfl ?_
                          obtain ⟨a74, g75, h76⟩ := Option.bind_eq_some_iff.mp h68
                          refine mr_ldiv (pc' := 155) dX11_even_154 rfl g75 ?_
                          refine mr_lstore (pc' := 157) (lv' := [(12, .long a74), (10, .long q66), (8, .long (q28 - q31)), (6, .long (a22 - a25)), (0, .ref 145), (1, .int v1), (2, .int v2), (3, .int v3), (4, .int v4), (5, .int v5)]) dX11_even_155 rfl (by decide) rfl ?_
                          refine mr_lload (pc' := 159) dX11_even_157 rfl rfl ?_
                          refine mr_lconst (pc' := 160) (v := (0 : Int64)) dX11_even_159 rfl (by decide) ?_
                          by_cases c77 : (0 : Int64) ≤ a74
                          · rw [if_pos c77] at h76
                            refine mr_lcmp_ge_t (t := 170) dX11_even_160 rfl dX11_even_161 (by decide) c77 ?_
                            refine mr_lload (pc' := 172) dX11_even_170 rfl rfl ?_
                            obtain rfl := Option.some.inj h76
                            exact mr_lreturn dX11_even_172 rfl
                          · rw [if_neg c77] at h76
                            refine mr_lcmp_ge_f (t := 170) (pc' := 164) dX11_even_160 rfl dX11_even_161 (by decide) rfl c77 ?_
                            refine mr_lload (pc' := 166) dX11_even_164 rfl rfl ?_
                            refine mr_lneg (pc' := 167) dX11_even_166 rfl ?_
                            refine mr_goto (t := 172) dX11_even_167 (by decide) ?_
                            obtain rfl := Option.some.inj h76
                            exact mr_lreturn dX11_even_172 rfl
                        · rw [if_neg c69] at h68
                          refine mr_if_ne_t (t := 150) dX11_even_142 (by decide) c69 ?_
                          refine mr_lload (pc' := 152) dX11_even_150 rfl rfl ?_
                          refine mr_lload (pc' := 154) dX11_even_152 rfl rfl ?_
                          obtain ⟨a70, g71, h72⟩ := Option.bind_eq_some_iff.mp h68
                          refine mr_ldiv (pc' := 155) dX11_even_154 rfl g71 ?_
                          refine mr_lstore (pc' := 157) (lv' := [(12, .long a70), (10, .long q66), (8, .long (q28 - q31)), (6, .long (a22 - a25)), (0, .ref 145), (1, .int v1), (2, .int v2), (3, .int v3), (4, .int v4), (5, .int v5)]) dX11_even_155 rfl (by decide) rfl ?_
                          refine mr_lload (pc' := 159) dX11_even_157 rfl rfl ?_
                          refine mr_lconst (pc' := 160) (v := (0 : Int64)) dX11_even_159 rfl (by decide) ?_
                          by_cases c73 : (0 : Int64) ≤ a70
                          · rw [if_pos c73] at h72
                            refine mr_lcmp_ge_t (t := 170) dX11_even_160 rfl dX11_even_161 (by decide) c73 ?_
                            refine mr_lload (pc' := 172) dX11_even_170 rfl rfl ?_
                            obtain rfl := Option.some.inj h72
                            exact mr_lreturn dX11_even_172 rfl
                          · rw [if_neg c73] at h72
                            refine mr_lcmp_ge_f (t := 170) (pc' := 164) dX11_even_160 rfl dX11_even_161 (by decide) rfl c73 ?_
                            refine mr_lload (pc' := 166) dX11_even_164 rfl rfl ?_
                            refine mr_lneg (pc' := 167) dX11_even_166 rfl ?_
                            refine mr_goto (t := 172) dX11_even_167 (by decide) ?_
                            obtain rfl := Option.some.inj h72
                            exact mr_lreturn dX11_even_172 rfl
                      · rw [if_neg c65] at h33
                        refine mr_icmp_eq_f (t := 131) (pc' := 127) dX11_even_124 (by decide) rfl c65 ?_
                        refine mr_ldc2 (pc' := 130) (v := (-2 : Int64)) dX11_even_127 rfl rfl ?_
                        obtain rfl := Option.some.inj h33
                        exact mr_lreturn dX11_even_130 rfl
                    · rw [if_neg c64] at h33
                      refine mr_lcmp_le_f (t := 123) (pc' := 119) dX11_even_115 rfl dX11_even_116 (by decide) rfl c64 ?_
                      refine mr_iconst (pc' := 120) (v := (1 : Int32)) dX11_even_119 rfl (by decide) ?_
                      refine mr_goto (t := 124) dX11_even_120 (by decide) ?_
                      by_cases c78 : (1 : Int32) = (1 : Int32)
                      · rw [if_pos c78] at h33
                        refine mr_icmp_eq_t (t := 131) dX11_even_124 (by decide) c78 ?_
                        refine mr_lload (pc' := 133) dX11_even_131 rfl rfl ?_
                        refine mr_lload (pc' := 135) dX11_even_133 rfl rfl ?_
                        obtain ⟨q79, g80, h81⟩ := Option.bind_eq_some_iff.mp h33
                        refine mr_cs (pc' := 138) (d1 := 0) dX11_even_135 rfl rfl rfl rfl (by decide) (Nat.le_of_ble_eq_true rfl) rfl rfl rfl (by decide) (ok_X11_divisor hR  g80) ?_
                        show mr X _ _ 138 _ [.long q79] (MM RR S) _
                        refine mr_lstore (pc' := 140) (lv' := [(10, .long q79), (8, .long (q28 - q31)), (6, .long (a22 - a25)), (0, .ref 145), (1, .int v1), (2, .int v2), (3, .int v3), (4, .int v4), (5, .int v5)]) dX11_even_138 rfl (by decide) rfl ?_
                        refine mr_iload (pc' := 142) dX11_even_140 rfl rfl ?_
                        by_cases c82 : v5 = (0 : Int32)
                        · rw [if_pos c82] at h81
                          refine mr_if_ne_f (t := 150) (pc' := 145) dX11_even_142 (by decide) rfl (not_not_intro c82) ?_
                          refine mr_lload (pc' := 147) dX11_even_145 rfl rfl ?_
                          refine mr_goto (t := 152) dX11_even_147 (by decide) ?_
                          refine mr_lload (pc' := 154) dX11_even_152 rfl rfl ?_
                          obtain ⟨a87, g88, h89⟩ := Option.bind_eq_some_iff.mp h81
                          refine mr_ldiv (pc' := 155) dX11_even_154 rfl g88 ?_
                          refine mr_lstore (pc' := 157) (lv' := [(12, .long a87), (10, .long q79), (8, .long (q28 - q31)), (6, .long (a22 - a25)), (0, .ref 145), (1, .int v1), (2, .int v2), (3, .int v3), (4, .int v4), (5, .int v5)]) dX11_even_155 rfl (by decide) rfl ?_
                          refine mr_lload (pc' := 159) dX11_even_157 rfl rfl ?_
                          refine mr_lconst (pc' := 160) (v := (0 : Int64)) dX11_even_159 rfl (by decide) ?_
                          by_cases c90 : (0 : Int64) ≤ a87
                          · rw [if_pos c90] at h89
                            refine mr_lcmp_ge_t (t := 170) dX11_even_160 rfl dX11_even_161 (by decide) c90 ?_
                            refine mr_lload (pc' := 172) dX11_even_170 rfl rfl ?_
                            obtain rfl := Option.some.inj h89
                            exact mr_lreturn dX11_even_172 rfl
                          · rw [if_neg c90] at h89
                            refine mr_lcmp_ge_f (t := 170) (pc' := 164) dX11_even_160 rfl dX11_even_161 (by decide) rfl c90 ?_
                            refine mr_lload (pc' := 166) dX11_even_164 rfl rfl ?_
                            refine mr_lneg (pc' := 167) dX11_even_166 rfl ?_
                            refine mr_goto (t := 172) dX11_even_167 (by decide) ?_
                            obtain rfl := Option.some.inj h89
                            exact mr_lreturn dX11_even_172 rfl
                        · rw [if_neg c82] at h81
                          refine mr_if_ne_t (t := 150) dX11_even_142 (by decide) c82 ?_
                          refine mr_lload (pc' := 152) dX11_even_150 rfl rfl ?_
                          refine mr_lload (pc' := 154) dX11_even_152 rfl rfl ?_
                          obtain ⟨a83, g84, h85⟩ := Option.bind_eq_some_iff.mp h81
                          refine mr_ldiv (pc' := 155) dX11_even_154 rfl g84 ?_
                          refine mr_lstore (pc' := 157) (lv' := [(12, .long a83), (10, .long q79), (8, .long (q28 - q31)), (6, .long (a22 - a25)), (0, .ref 145), (1, .int v1), (2, .int v2), (3, .int v3), (4, .int v4), (5, .int v5)]) dX11_even_155 rfl (by decide) rfl ?_
                          refine mr_lload (pc' := 159) dX11_even_157 rfl rfl ?_
                          refine mr_lconst (pc' := 160) (v := (0 : Int64)) dX11_even_159 rfl (by decide) ?_
                          by_cases c86 : (0 : Int64) ≤ a83
                          · rw [if_pos c86] at h85
                            refine mr_lcmp_ge_t (t := 170) dX11_even_160 rfl dX11_even_161 (by decide) c86 ?_
                            refine mr_lload (pc' := 172) dX11_even_170 rfl rfl ?_
                            obtain rfl := Option.some.inj h85
                            exact mr_lreturn dX11_even_172 rfl
                          · rw [if_neg c86] at h85
                            refine mr_lcmp_ge_f (t := 170) (pc' := 164) dX11_even_160 rfl dX11_even_161 (by decide) rfl c86 ?_
                            refine mr_lload (pc' := 166) dX11_even_164 rfl rfl ?_
                            refine mr_lneg (pc' := 167) dX11_even_166 rfl ?_
                            refine mr_goto (t := 172) dX11_even_167 (by decide) ?_
                            obtain rfl := Option.some.inj h85
                            exact mr_lreturn dX11_even_172 rfl
                      · rw [if_neg c78] at h33
                        refine mr_icmp_eq_f (t := 131) (pc' := 127) dX11_even_124 (by decide) rfl c78 ?_
                        refine mr_ldc2 (pc' := 130) (v := (-2 : Int64)) dX11_even_127 rfl rfl ?_
                        obtain rfl := Option.some.inj h33
                        exact mr_lreturn dX11_even_130 rfl
