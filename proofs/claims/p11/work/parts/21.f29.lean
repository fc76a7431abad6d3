def f_X11_seed (v1 : Int32) (S : fS) : Option (Int32 × fS) :=
  if (0 : Int32) ≤ v1 then ((gI S 157 158 (5 : Int32)).bind fun a2 =>
  (sI S 157 158 (5 : Int32) v1).bind fun S5 =>
  some (a2, S5)) else
  (some ((-1 : Int32), S))
set_option maxHeartbeats 4000000 in
set_option maxRecDepth 100000 in
theorem ok_X11_seed {X : mm_C} {RR : Nat → Nat → Option Nat} (hR : RRok RR) {v1 : Int32}  {S : fS} {r : Int32 × fS} (h : f_X11_seed v1 S = some r) : mr X 0 mY_X11_seed 0 (lv_args 0 [.ref 145, .int v1]) [] (MM RR S) (some (.int r.1), MM RR r.2) := by
  unfold f_X11_seed at h
  show mr X _ _ 0 [(0, .ref 145), (1, .int v1)] [] (MM RR S) _
  refine mr_iload_n (pc' := 1) dX11_seed_0 rfl rfl ?_
  by_cases c1 : (0 : Int32) ≤ v1
  · rw [if_pos c1] at h
    refine mr_if_ge_t (t := 6) dX11_seed_1 (by decide) c1 ?_
    refine mr_aload_n (pc' := 7) dX11_seed_6 rfl rfl ?_
    refine mr_getR (pc' := 10) (ci := 11) (j := 25) (b := 157) hR dX11_seed_7 rfl rfl rfl (by decide) (by decide) (by decide) rfl rfl ?_
    refine mr_iconst (pc' := 11) (v := (5 : Int32)) dX11_seed_10 rfl (by decide) ?_
    obtain ⟨a2, g3, h4⟩ := Option.bind_eq_some_iff.mp h
    refine mr_iald (pc' := 12) dX11_seed_11 rfl rfl rfl g3 ?_
    refine mr_istore_n (pc' := 13) (lv' := [(2, .int a2), (0, .ref 145), (1, .int v1)]) dX11_seed_12 rfl (by decide) rfl ?_
    refine mr_aload_n (pc' := 14) dX11_seed_13 rfl rfl ?_
    refine mr_getR (pc' := 17) (ci := 11) (j := 25) (b := 157) hR dX11_seed_14 rfl rfl rfl (by decide) (by decide) (by decide) rfl rfl ?_
    refine mr_iconst (pc' := 18) (v := (5 : Int32)) dX11_seed_17 rfl (by decide) ?_
    refine mr_iload_n (pc' := 19) dX11_seed_18 rfl rfl ?_
    obtain ⟨S5, g6, h7⟩ := Option.bind_eq_some_iff.mp h4
    refine mr_iast (pc' := 20) dX11_seed_19 rfl rfl rfl g6 ?_
    refine mr_iload_n (pc' := 21) dX11_seed_20 rfl rfl ?_
    obtain rfl := Option.some.inj h7
    exact mr_ireturn dX11_seed_21 rfl
  · rw [if_neg c1] at h
    refine mr_if_ge_f (t := 6) (pc' := 4) dX11_seed_1 (by decide) rfl c1 ?_
    refine mr_iconst (pc' := 5) (v := (-1 : Int32)) dX11_seed_4 rfl (by decide) ?_
    obtain rfl := Option.some.inj h
    exact mr_ireturn dX11_seed_5 rfl
def f_X11_draw  (S : fS) : Option (Int64 × fS) :=
  (rL (((S.2 145 37) * (1103515245 : Int64)) + (12345 : Int64)) (2147483648 : Int64)).bind fun a1 =>
  (some (pL S 145 37 a1)).bind fun S4 =>
  (dL (S4.2 145 37) (65536 : Int64)).bind fun a7 =>
  some (a7, S4)
set_option maxHeartbeats 4000000 in
set_option maxRecDepth 100000 in
theorem ok_X11_draw {X : mm_C} {RR : Nat → Nat → Option Nat} (hR : RRok RR)   {S : fS} {r : Int64 × fS} (h : f_X11_draw  S = some r) : mr X 0 mY_X11_draw 0 (lv_args 0 [.ref 145]) [] (MM RR S) (some (.long r.1), MM RR r.2) := by
  unfold f_X11_draw at h
  show mr X _ _ 0 [(0, .ref 145)] [] (MM RR S) _
  refine mr_aload_n (pc' := 1) dX11_draw_0 rfl rfl ?_
  refine mr_aload_n (pc' := 2) dX11_draw_1 rfl rfl ?_
  refine mr_getL (pc' := 5) (ci := 11) (j := 37) dX11_draw_2 rfl rfl rfl (by decide) (by decide) rfl ?_
  refine mr_ldc2 (pc' := 8) (v := (1103515245 : Int64)) dX11_draw_5 rfl rfl ?_
  refine mr_lmul (pc' := 9) dX11_draw_8 rfl ?_
  refine mr_ldc2 (pc' := 12) (v := (12345 : Int64)) dX11_draw_9 rfl rfl ?_
  refine mr_ladd (pc' := 13) dX11_draw_12 rfl ?_
  refine mr_ldc2 (pc' := 16) (v := (2147483648 : Int64)) dX11_draw_13 rfl rfl ?_
  obtain ⟨a1, g2, h3⟩ := Option.bind_eq_some_iff.mp h
  refine mr_lrem (pc' := 17) dX11_draw_16 rfl g2 ?_
  obtain ⟨S4, g5, h6⟩ := Option.bind_eq_some_iff.mp h3
  refine mr_putL (pc' := 20) (ci := 11) (j := 37) dX11_draw_17 rfl rfl rfl (by decide) (by decide) rfl rfl ?_
  rw [Option.some.inj g5]
  refine mr_aload_n (pc' := 21) dX11_draw_20 rfl rfl ?_
  refine mr_getL (pc' := 24) (ci := 11) (j := 37) dX11_draw_21 rfl rfl rfl (by decide) (by decide) rfl ?_
  refine mr_ldc2 (pc' := 27) (v := (65536 : Int64)) dX11_draw_24 rfl rfl ?_
  obtain ⟨a7, g8, h9⟩ := Option.bind_eq_some_iff.mp h6
  refine mr_ldiv (pc' := 28) dX11_draw_27 rfl g8 ?_
  obtain rfl := Option.some.inj h9
  exact mr_lreturn dX11_draw_28 rfl
def lp_X11_wanders_30 (p1 : Int32) (p2 : Int32) (K : Int32 → fS → Option (fS)) : Nat → Int32 → Int32 → fS → Option (fS)
  | 0, _, _, _ => none
  | n + 1, p3, p4, S0 =>
    (gI S0 157 158 (1 : Int32)).bind fun a12 =>
    if a12 ≤ p4 then (K p3 S0) else
    ((f_X11_otherEnd p4 p2 S0).bind fun q16 =>
    if q16 < (0 : Int32) then (lp_X11_wanders_30 p1 p2 K n (p3 + (0 : Int32)) (p4 + (1 : Int32)) S0) else
    (lp_X11_wanders_30 p1 p2 K n (p3 + (1 : Int32)) (p4 + (1 : Int32)) S0))
set_option maxHeartbeats 4000000 in
set_option maxRecDepth 100000 in
theorem ok_lp_X11_wanders_30 {X : mm_C} {RR : Nat → Nat → Option Nat} (hR : RRok RR) {p1 : Int32} {p2 : Int32}  {K : Int32 → fS → Option (fS)} {r : fS} (hK : ∀ (k3 : Int32) (Sk : fS), K k3 Sk = some r → mr X 3 mY_X11_wanders 65 [(0, .ref 145), (1, .int p1), (2, .int p2), (3, .int k3)] [] (MM RR Sk) (none, MM RR r)) : ∀ (n : Nat) (p3 : Int32) (p4 : Int32) (S0 : fS), lp_X11_wanders_30 p1 p2 K n p3 p4 S0 = some r → mr X 3 mY_X11_wanders 30 [(0, .ref 145), (1, .int p1), (2, .int p2), (3, .int p3), (4, .int p4)] [] (MM RR S0) (none, MM RR r) := by
  intro n
  induction n with
  | zero => intro p3 p4 S0 h; exact mm_no h
  | succ n ih =>
    intro p3 p4 S0 h
    unfold lp_X11_wanders_30 at h
    refine mr_iload (pc' := 32) dX11_wanders_30 rfl rfl ?_
    refine mr_aload_n (pc' := 33) dX11_wanders_32 rfl rfl ?_
    refine mr_getR (pc' := 36) (ci := 11) (j := 25) (b := 157) hR dX11_wanders_33 rfl rfl rfl (by decide) (by decide) (by decide) rfl rfl ?_
    refine mr_iconst (pc' := 37) (v := (1 : Int32)) dX11_wanders_36 rfl (by decide) ?_
    obtain ⟨a12, g13, h14⟩ := Option.bind_eq_some_iff.mp h
    refine mr_iald (pc' := 38) dX11_wanders_37 rfl rfl rfl g13 ?_
    by_cases c15 : a12 ≤ p4
    · rw [if_pos c15] at h14
      refine mr_icmp_ge_t (t := 65) dX11_wanders_38 (by decide) c15 ?_
      exact mr_sub [(0, .ref 145), (1, .int p1), (2, .int p2), (3, .int p3)] ⟨rfl, rfl, rfl, rfl, trivial⟩ rfl (hK _ _  h14)
    · rw [if_neg c15] at h14
      refine mr_icmp_ge_f (t := 65) (pc' := 41) dX11_wanders_38 (by decide) rfl c15 ?_
      refine mr_iload_n (pc' := 42) dX11_wanders_41 rfl rfl ?_
      refine mr_aload_n (pc' := 43) dX11_wanders_42 rfl rfl ?_
      refine mr_iload (pc' := 45) dX11_wanders_43 rfl rfl ?_
      refine mr_iload_n (pc' := 46) dX11_wanders_45 rfl rfl ?_
      obtain ⟨q16, g17, h18⟩ := Option.bind_eq_some_iff.mp h14
      refine mr_cv (pc' := 49) (a := 145) (d1 := 1) dX11_wanders_46 rfl rfl rfl rfl rfl rfl (by decide) rfl (by decide) (ok_X11_otherEnd hR  g17) ?_
      show mr X _ _ 49 _ [.int q16, .int p3] (MM RR S0) _
      by_cases c19 : q16 < (0 : Int32)
      · rw [if_pos c19] at h18
        refine mr_if_lt_t (t := 56) dX11_wanders_49 (by decide) c19 ?_
        refine mr_iconst (pc' := 57) (v := (0 : Int32)) dX11_wanders_56 rfl (by decide) ?_
        refine mr_iadd (pc' := 58) dX11_wanders_57 rfl ?_
        refine mr_istore_n (pc' := 59) (lv' := [(3, .int (p3 + (0 : Int32))), (0, .ref 145), (1, .int p1), (2, .int p2), (4, .int p4)]) dX11_wanders_58 rfl (by decide) rfl ?_
        refine mr_iinc (pc' := 62) (x' := (p4 + (1 : Int32))) (lv' := [(4, .int (p4 + (1 : Int32))), (3, .int (p3 + (0 : Int32))), (0, .ref 145), (1, .int p1), (2, .int p2)]) dX11_wanders_59 rfl (by decide) rfl rfl rfl ?_
        refine mr_goto (t := 30) dX11_wanders_62 (by decide) ?_
        exact mr_sub [(0, .ref 145), (1, .int p1), (2, .int p2), (3, .int (p3 + (0 : Int32))), (4, .int (p4 + (1 : Int32)))] ⟨rfl, rfl, rfl, rfl, rfl, trivial⟩ rfl (ih _ _ _  h18)
      · rw [if_neg c19] at h18
        refine mr_if_lt_f (t := 56) (pc' := 52) dX11_wanders_49 (by decide) rfl c19 ?_
        refine mr_iconst (pc' := 53) (v := (1 : Int32)) dX11_wanders_52 rfl (by decide) ?_
        refine mr_goto (t := 57) dX11_wanders_53 (by decide) ?_
        refine mr_iadd (pc' := 58) dX11_wanders_57 rfl ?_
        refine mr_istore_n (pc' := 59) (lv' := [(3, .int (p3 + (1 : Int32))), (0, .ref 145), (1, .int p1), (2, .int p2), (4, .int p4)]) dX11_wanders_58 rfl (by decide) rfl ?_
        refine mr_iinc (pc' := 62) (x' := (p4 + (1 : Int32))) (lv' := [(4, .int (p4 + (1 : Int32))), (3, .int (p3 + (1 : Int32))), (0, .ref 145), (1, .int p1), (2, .int p2)]) dX11_wanders_59 rfl (by decide) rfl rfl rfl ?_
        refine mr_goto (t := 30) dX11_wanders_62 (by decide) ?_
        exact mr_sub [(0, .ref 145), (1, .int p1), (2, .int p2), (3, .int (p3 + (1 : Int32))), (4, .int (p4 + (1 : Int32)))] ⟨rfl, rfl, rfl, rfl, rfl, trivial⟩ rfl (ih _ _ _  h18)
def lp_X11_wanders_83 (p1 : Int32) (p2 : Int32) (K : Int32 → fS → Option (fS)) : Nat → Int32 → Int32 → fS → Option (fS)
  | 0, _, _, _ => none
  | n + 1, p4, p5, S0 =>
    (f_X11_otherEnd p5 p2 S0).bind fun q30 =>
    if q30 < (0 : Int32) then ((f_X11_otherEnd p5 p2 S0).bind fun q34 =>
    if q34 < (0 : Int32) then (lp_X11_wanders_83 p1 p2 K n (p4 - (0 : Int32)) (p5 + (1 : Int32)) S0) else
    (lp_X11_wanders_83 p1 p2 K n (p4 - (1 : Int32)) (p5 + (1 : Int32)) S0)) else
    (if p4 ≤ (0 : Int32) then (K p5 S0) else
    ((f_X11_otherEnd p5 p2 S0).bind fun q39 =>
    if q39 < (0 : Int32) then (lp_X11_wanders_83 p1 p2 K n (p4 - (0 : Int32)) (p5 + (1 : Int32)) S0) else
    (lp_X11_wanders_83 p1 p2 K n (p4 - (1 : Int32)) (p5 + (1 : Int32)) S0)))
set_option maxHeartbeats 4000000 in
set_option maxRecDepth 100000 in
theorem ok_lp_X11_wanders_83 {X : mm_C} {RR : Nat → Nat → Option Nat} (hR : RRok RR) {p1 : Int32} {p2 : Int32}  {K : Int32 → fS → Option (fS)} {r : fS} (hK : ∀ (k5 : Int32) (Sk : fS), K k5 Sk = some r → mr X 3 mY_X11_wanders 124 [(0, .ref 145), (1, .int p1), (5, .int k5)] [] (MM RR Sk) (none, MM RR r)) : ∀ (n : Nat) (p4 : Int32) (p5 : Int32) (S0 : fS), lp_X11_wanders_83 p1 p2 K n p4 p5 S0 = some r → mr X 3 mY_X11_wanders 83 [(0, .ref 145), (1, .int p1), (2, .int p2), (4, .int p4), (5, .int p5)] [] (MM RR S0) (none, MM RR r) := by
  intro n
  induction n with
  | zero => intro p4 p5 S0 h; exact mm_no h
  | succ n ih =>
    intro p4 p5 S0 h
    unfold lp_X11_wanders_83 at h
    refine mr_aload_n (pc' := 84) dX11_wanders_83 rfl rfl ?_
    refine mr_iload (pc' := 86) dX11_wanders_84 rfl rfl ?_
    refine mr_iload_n (pc' := 87) dX11_wanders_86 rfl rfl ?_
    obtain ⟨q30, g31, h32⟩ := Option.bind_eq_some_iff.mp h
    refine mr_cv (pc' := 90) (a := 145) (d1 := 1) dX11_wanders_87 rfl rfl rfl rfl rfl rfl (by decide) rfl (by decide) (ok_X11_otherEnd hR  g31) ?_
    show mr X _ _ 90 _ [.int q30] (MM RR S0) _
    by_cases c33 : q30 < (0 : Int32)
    · rw [if_pos c33] at h32
      refine mr_if_lt_t (t := 98) dX11_wanders_90 (by decide) c33 ?_
      refine mr_iload (pc' := 100) dX11_wanders_98 rfl rfl ?_
      refine mr_aload_n (pc' := 101) dX11_wanders_100 rfl rfl ?_
      refine mr_iload (pc' := 103) dX11_wanders_101 rfl rfl ?_
      refine mr_iload_n (pc' := 104) dX11_wanders_103 rfl rfl ?_
      obtain ⟨q34, g35, h36⟩ := Option.bind_eq_some_iff.mp h32
      refine mr_cv (pc' := 107) (a := 145) (d1 := 1) dX11_wanders_104 rfl rfl rfl rfl rfl rfl (by decide) rfl (by decide) (ok_X11_otherEnd hR  g35) ?_
      show mr X _ _ 107 _ [.int q34, .int p4] (MM RR S0) _
      by_cases c37 : q34 < (0 : Int32)
      · rw [if_pos c37] at h36
        refine mr_if_lt_t (t := 114) dX11_wanders_107 (by decide) c37 ?_
        refine mr_iconst (pc' := 115) (v := (0 : Int32)) dX11_wanders_114 rfl (by decide) ?_
        refine mr_isub (pc' := 116) dX11_wanders_115 rfl ?_
        refine mr_istore (pc' := 118) (lv' := [(4, .int (p4 - (0 : Int32))), (0, .ref 145), (1, .int p1), (2, .int p2), (5, .int p5)]) dX11_wanders_116 rfl (by decide) rfl ?_
        refine mr_iinc (pc' := 121) (x' := (p5 + (1 : Int32))) (lv' := [(5, .int (p5 + (1 : Int32))), (4, .int (p4 - (0 : Int32))), (0, .ref 145), (1, .int p1), (2, .int p2)]) dX11_wanders_118 rfl (by decide) rfl rfl rfl ?_
        refine mr_goto (t := 83) dX11_wanders_121 (by decide) ?_
        exact mr_sub [(0, .ref 145), (1, .int p1), (2, .int p2), (4, .int (p4 - (0 : Int32))), (5, .int (p5 + (1 : Int32)))] ⟨rfl, rfl, rfl, rfl, rfl, trivial⟩ rfl (ih _ _ _  h36)
      · rw [if_neg c37] at h36
        refine mr_if_lt_f (t := 114) (pc' := 110) dX11_wanders_107 (by decide) rfl c37 ?_
        refine mr_iconst (pc' := 111) (v := (1 : Int32)) dX11_wanders_110 rfl (by decide) ?_
        refine mr_goto (t := 115) dX11_wanders_111 (by decide) ?_
        refine mr_isub (pc' := 116) dX11_wanders_115 rfl ?_
        refine mr_istore (pc' := 118) (lv' := [(4, .int (p4 - (1 : Int32))), (0, .ref 145), (1, .int p1), (2, .int p2), (5, .int p5)]) dX11_wanders_116 rfl (by decide) rfl ?_
        refine mr_iinc (pc' := 121) (x' := (p5 + (1 : Int32))) (lv' := [(5, .int (p5 + (1 : Int32))), (4, .int (p4 - (1 : Int32))), (0, .ref 145), (1, .int p1), (2, .int p2)]) dX11_wanders_118 rfl (by decide) rfl rfl rfl ?_
        refine mr_goto (t := 83) dX11_wanders_121 (by decide) ?_
        exact mr_sub [(0, .ref 145), (1, .int p1), (2, .int p2), (4, .int (p4 - (1 : Int32))), (5, .int (p5 + (1 : Int32)))] ⟨rfl, rfl, rfl, rfl, rfl, trivial⟩ rfl (ih _ _ _  h36)
    · rw [if_neg c33] at h32
      refine mr_if_lt_f (t := 98) (pc' := 93) dX11_wanders_90 (by decide) rfl c33 ?_
      refine mr_iload (pc' := 95) dX11_wanders_93 rfl rfl ?_
      by_cases c38 : p4 ≤ (0 : Int32)
      · rw [if_pos c38] at h32
        refine mr_if_le_t (t := 124) dX11_wanders_95 (by decide) c38 ?_
        exact mr_sub [(0, .ref 145), (1, .int p1), (5, .int p5)] ⟨rfl, rfl, rfl, trivial⟩ rfl (hK _ _  h32)
      · rw [if_neg c38] at h32
        refine mr_if_le_f (t := 124) (pc' := 98) dX11_wanders_95 (by decide) rfl c38 ?_
        refine mr_iload (pc' := 100) dX11_wanders_98 rfl rfl ?_
        refine mr_aload_n (pc' := 101) dX11_wanders_100 rfl rfl ?_
        refine mr_iload (pc' := 103) dX11_wanders_101 rfl rfl ?_
        refine mr_iload_n (pc' := 104) dX11_wanders_103 rfl rfl ?_
        obtain ⟨q39, g40, h41⟩ := Option.bind_eq_some_iff.mp h32
        refine mr_cv (pc' := 107) (a := 145) (d1 := 1) dX11_wanders_104 rfl rfl rfl rfl rfl rfl (by decide) rfl (by decide) (ok_X11_otherEnd hR  g40) ?_
        show mr X _ _ 107 _ [.int q39, .int p4] (MM RR S0) _
        by_cases c42 : q39 < (0 : Int32)
        · rw [if_pos c42] at h41
          refine mr_if_lt_t (t := 114) dX11_wanders_107 (by decide) c42 ?_
          refine mr_iconst (pc' := 115) (v := (0 : Int32)) dX11_wanders_114 rfl (by decide) ?_
          refine mr_isub (pc' := 116) dX11_wanders_115 rfl ?_
          refine mr_istore (pc' := 118) (lv' := [(4, .int (p4 - (0 : Int32))), (0, .ref 145), (1, .int p1), (2, .int p2), (5, .int p5)]) dX11_wanders_116 rfl (by decide) rfl ?_
          refine mr_iinc (pc' := 121) (x' := (p5 + (1 : Int32))) (lv' := [(5, .int (p5 + (1 : Int32))), (4, .int (p4 - (0 : Int32))), (0, .ref 145), (1, .int p1), (2, .int p2)]) dX11_wanders_118 rfl (by decide) rfl rfl rfl ?_
          refine mr_goto (t := 83) dX11_wanders_121 (by decide) ?_
          exact mr_sub [(0, .ref 145), (1, .int p1), (2, .int p2), (4, .int (p4 - (0 : Int32))), (5, .int (p5 + (1 : Int32)))] ⟨rfl, rfl, rfl, rfl, rfl, trivial⟩ rfl (ih _ _ _  h41)
        · rw [if_neg c42] at h41
          refine mr_if_lt_f (t := 114) (pc' := 110) dX11_wanders_107 (by decide) rfl c42 ?_
          refine mr_iconst (pc' := 111) (v := (1 : Int32)) dX11_wanders_110 rfl (by decide) ?_
          refine mr_goto (t := 115) dX11_wanders_111 (by decide) ?_
          refine mr_isub (pc' := 116) dX11_wanders_115 rfl ?_
          refine mr_istore (pc' := 118) (lv' := [(4, .int (p4 - (1 : Int32))), (0, .ref 145), (1, .int p1), (2, .int p2), (5, .int p5)]) dX11_wanders_116 rfl (by decide) rfl ?_
          refine mr_iinc (pc' := 121) (x' := (p5 + (1 : Int32))) (lv' := [(5, .int (p5 + (1 : Int32))), (4, .int (p4 - (1 : Int32))), (0, .ref 145), (1, .int p1), (2, .int p2)]) dX11_wanders_118 rfl (by decide) rfl rfl rfl ?_
          refine mr_goto (t := 83) dX11_wanders_121 (by decide) ?_
          exact mr_sub [(0, .ref 145), (1, .int p1), (2, .int p2), (4, .int (p4 - (1 : Int32))), (5, .int (p5 + (1 : Int32)))] ⟨rfl, rfl, rfl, rfl, rfl, trivial⟩ rfl (ih _ _ _  h41)
def f_X11_wanders (v1 : Int32) (S : fS) : Option (fS) :=
  (f_X11_thingOf v1 (0 : Int32) S).bind fun q1 =>
  if q1 < (0 : Int32) then (some S) else
  ((f_X11_draw  S).bind fun q5 =>
  (rL q5.1 (4 : Int64)).bind fun a8 =>
  if a8 = (0 : Int64) then (lp_X11_wanders_30 v1 q1 (fun u20 S21 => if u20 = (0 : Int32) then (some S21) else
  ((f_X11_draw  S21).bind fun q24 =>
  (rL q24.1 (Int32.toInt64 u20)).bind fun a27 =>
  lp_X11_wanders_83 v1 q1 (fun u43 S44 => (f_X11_setsOff v1 u43 S44).bind fun q46 =>
  some q46) FU (Int64.toInt32 a27) (0 : Int32) q24.2)) FU (0 : Int32) (0 : Int32) q5.2) else
  (some q5.2))
set_option maxHeartbeats 4000000 in
set_option maxRecDepth 100000 in
theorem ok_X11_wanders {X : mm_C} {RR : Nat → Nat → Option Nat} (hR : RRok RR) {v1 : Int32}  {S : fS} {r : fS} (h : f_X11_wanders v1 S = some r) : mr X 3 mY_X11_wanders 0 (lv_args 0 [.ref 145, .int v1]) [] (MM RR S) (none, MM RR r) := by
  unfold f_X11_wanders at h
  show mr X _ _ 0 [(0, .ref 145), (1, .int v1)] [] (MM RR S) _
  refine mr_aload_n (pc' := 1) dX11_wanders_0 rfl rfl ?_
  refine mr_iload_n (pc' := 2) dX11_wanders_1 rfl rfl ?_
  refine mr_iconst (pc' := 3) (v := (0 : Int32)) dX11_wanders_2 rfl (by decide) ?_
  obtain ⟨q1, g2, h3⟩ := Option.bind_eq_some_iff.mp h
  refine mr_cv (pc' := 6) (a := 145) (d1 := 0) dX11_wanders_3 rfl rfl rfl rfl rfl rfl (by decide) rfl (by decide) (ok_X11_thingOf hR  g2) ?_
  show mr X _ _ 6 _ [.int q1] (MM RR S) _
  refine mr_istore_n (pc' := 7) (lv' := [(2, .int q1), (0, .ref 145), (1, .int v1)]) dX11_wanders_6 rfl (by decide) rfl ?_
  refine mr_iload_n (pc' := 8) dX11_wanders_7 rfl rfl ?_
  by_cases c4 : q1 < (0 : Int32)
  · rw [if_pos c4] at h3
    refine mr_if_lt_t (t := 24) dX11_wanders_8 (by decide) c4 ?_
    obtain rfl := Option.some.inj h3
    exact mr_return dX11_wanders_24 rfl
  · rw [if_neg c4] at h3
    refine mr_if_lt_f (t := 24) (pc' := 11) dX11_wanders_8 (by decide) rfl c4 ?_
    refine mr_aload_n (pc' := 12) dX11_wanders_11 rfl rfl ?_
    obtain ⟨q5, g6, h7⟩ := Option.bind_eq_some_iff.mp h3
    refine mr_cv (pc' := 15) (a := 145) (d1 := 0) dX11_wanders_12 rfl rfl rfl rfl rfl rfl (by decide) rfl (by decide) (ok_X11_draw hR  g6) ?_
    show mr X _ _ 15 _ [.long q5.1] (MM RR q5.2) _
    refine mr_ldc2 (pc' := 18) (v := (4 : Int64)) dX11_wanders_15 rfl rfl ?_
    obtain ⟨a8, g9, h10⟩ := Option.bind_eq_some_iff.mp h7
    refine mr_lrem (pc' := 19) dX11_wanders_18 rfl g9 ?_
    refine mr_lconst (pc' := 20) (v := (0 : Int64)) dX11_wanders_19 rfl (by decide) ?_
    by_cases c11 : a8 = (0 : Int64)
    · rw [if_pos c11] at h10
      refine mr_lcmp_eq_t (t := 25) dX11_wanders_20 rfl dX11_wanders_21 (by decide) c11 ?_
      refine mr_iconst (pc' := 26) (v := (0 : Int32)) dX11_wanders_25 rfl (by decide) ?_
      refine mr_istore_n (pc' := 27) (lv' := [(3, .int (0 : Int32)), (2, .int q1), (0, .ref 145), (1, .int v1)]) dX11_wanders_26 rfl (by decide) rfl ?_
      refine mr_iconst (pc' := 28) (v := (0 : Int32)) dX11_wanders_27 rfl (by decide) ?_
      refine mr_istore (pc' := 30) (lv' := [(4, .int (0 : Int32)), (3, .int (0 : Int32)), (2, .int q1), (0, .ref 145), (1, .int v1)]) dX11_wanders_28 rfl (by decide) rfl ?_
      refine mr_sub [(0, .ref 145), (1, .int v1), (2, .int q1), (3, .int (0 : Int32)), (4, .int (0 : Int32))] ⟨rfl, rfl, rfl, rfl, rfl, trivial⟩ rfl ?_
      refine ok_lp_X11_wanders_30 hR  (fun u20 S21 h22 => ?_) FU _ _ _  h10
      refine mr_iload_n (pc' := 66) dX11_wanders_65 rfl rfl ?_
      by_cases c23 : u20 = (0 : Int32)
      · rw [if_pos c23] at h22
        refine mr_if_ne_f (t := 70) (pc' := 69) dX11_wanders_66 (by decide) rfl (not_not_intro c23) ?_
        obtain rfl := Option.some.inj h22
        exact mr_return dX11_wanders_69 rfl
      · rw [if_neg c23] at h22
        refine mr_if_ne_t (t := 70) dX11_wanders_66 (by decide) c23 ?_
        refine mr_aload_n (pc' := 71) dX11_wanders_70 rfl rfl ?_
        obtain ⟨q24, g25, h26⟩ := Option.bind_eq_some_iff.mp h22
        refine mr_cv (pc' := 74) (a := 145) (d1 := 0) dX11_wanders_71 rfl rfl rfl rfl rfl rfl (by decide) rfl (by decide) (ok_X11_draw hR  g25) ?_
        show mr X _ _ 74 _ [.long q24.1] (MM RR q24.2) _
        refine mr_iload_n (pc' := 75) dX11_wanders_74 rfl rfl ?_
        refine mr_i2l (pc' := 76) dX11_wanders_75 rfl ?_
        obtain ⟨a27, g28, h29⟩ := Option.bind_eq_some_iff.mp h26
        refine mr_lrem (pc' := 77) dX11_wanders_76 rfl g28 ?_
        refine mr_l2i (pc' := 78) dX11_wanders_77 rfl ?_
        refine mr_istore (pc' := 80) (lv' := [(4, .int (Int64.toInt32 a27)), (0, .ref 145), (1, .int v1), (2, .int q1), (3, .int u20)]) dX11_wanders_78 rfl (by decide) rfl ?_
        refine mr_iconst (pc' := 81) (v := (0 : Int32)) dX11_wanders_80 rfl (by decide) ?_
        refine mr_istore (pc' := 83) (lv' := [(5, .int (0 : Int32)), (4, .int (Int64.toInt32 a27)), (0, .ref 145), (1, .int v1), (2, .int q1), (3, .int u20)]) dX11_wanders_81 rfl (by decide) rfl ?_
        refine mr_sub [(0, .ref 145), (1, .int v1), (2, .int q1), (4, .int (Int64.toInt32 a27)), (5, .int (0 : Int32))] ⟨rfl, rfl, rfl, rfl, rfl, trivial⟩ rfl ?_
        refine ok_lp_X11_wanders_83 hR  (fun u43 S44 h45 => ?_) FU _ _ _  h29
        refine mr_aload_n (pc' := 125) dX11_wanders_124 rfl rfl ?_
        refine mr_iload_n (pc' := 126) dX11_wanders_125 rfl rfl ?_
        refine mr_iload (pc' := 128) dX11_wanders_126 rfl rfl ?_
        obtain ⟨q46, g47, h48⟩ := Option.bind_eq_some_iff.mp h45
        refine mr_cv (pc' := 131) (a := 145) (d1 := 2) dX11_wanders_128 rfl rfl rfl rfl rfl rfl (by decide) rfl (by decide) (ok_X11_setsOff hR  g47) ?_
        show mr X _ _ 131 _ [] (MM RR q46) _
        obtain rfl := Option.some.inj h48
        exact mr_return dX11_wanders_131 rfl
    · rw [if_neg c11] at h10
      refine mr_lcmp_eq_f (t := 25) (pc' := 24) dX11_wanders_20 rfl dX11_wanders_21 (by decide) rfl c11 ?_
      obtain rfl := Option.some.inj h10
      exact mr_return dX11_wanders_24 rfl
def lp_X11_meetings_105 (p1 : Int32) (p2 : Int32) (p3 : Int32) (p4 : Int32) (p5 : Int32) (p6 : Int32) (p7 : Int32) (p8 : Int32) (p9 : Int32) (p10 : Int32) (K : fS → Option (Int32 × fS)) : Nat → Int32 → fS → Option (Int32 × fS)
  | 0, _, _ => none
  | n + 1, p11, S0 =>
    (gI S0 157 158 (2 : Int32)).bind fun a33 =>
    if a33 ≤ p11 then (K S0) else
    ((f_X11_wanders p11 S0).bind fun q37 =>
    lp_X11_meetings_105 p1 p2 p3 p4 p5 p6 p7 p8 p9 p10 K n (p11 + (1 : Int32)) q37)
set_option maxHeartbeats 4000000 in
set_option maxRecDepth 100000 in
theorem ok_lp_X11_meetings_105 {X : mm_C} {RR : Nat → Nat → Option Nat} (hR : RRok RR) {p1 : Int32} {p2 : Int32} {p3 : Int32} {p4 : Int32} {p5 : Int32} {p6 : Int32} {p7 : Int32} {p8 : Int32} {p9 : Int32} {p10 : Int32}  {K : fS → Option (Int32 × fS)} {r : Int32 × fS} (hK : ∀ (Sk : fS), K Sk = some r → mr X 4 mY_X11_meetings 128 [(0, .ref 145), (1, .int p1), (2, .int p2), (3, .int p3), (4, .int p4), (5, .int p5), (6, .int p6), (7, .int p7), (8, .int p8), (9, .int p9), (10, .int p10)] [] (MM RR Sk) (some (.int r.1), MM RR r.2)) : ∀ (n : Nat) (p11 : Int32) (S0 : fS), lp_X11_meetings_105 p1 p2 p3 p4 p5 p6 p7 p8 p9 p10 K n p11 S0 = some r → mr X 4 mY_X11_meetings 105 [(0, .ref 145), (1, .int p1), (2, .int p2), (3, .int p3), (4, .int p4), (5, .int p5), (6, .int p6), (7, .int p7), (8, .int p8), (9, .int p9), (10, .int p10), (11, .int p11)] [] (MM RR S0) (some (.int r.1), MM RR r.2) := by
  intro n
  induction n with
  | zero => intro p11 S0 h; exact mm_no h
  | succ n ih =>
    intro p11 S0 h
    unfold lp_X11_meetings_105 at h
    refine mr_iload (pc' := 107) dX11_meetings_105 rfl rfl ?_
    refine mr_aload_n (pc' := 108) dX11_meetings_107 rfl rfl ?_
    refine mr_getR (pc' := 111) (ci := 11) (j := 25) (b := 157) hR dX11_meetings_108 rfl rfl rfl (by decide) (by decide) (by decide) rfl rfl ?_
    refine mr_iconst (pc' := 112) (v := (2 : Int32)) dX11_meetings_111 rfl (by decide) ?_
    obtain ⟨a33, g34, h35⟩ := Option.bind_eq_some_iff.mp h
    refine mr_iald (pc' := 113) dX11_meetings_112 rfl rfl rfl g34 ?_
    by_cases c36 : a33 ≤ p11
    · rw [if_pos c36] at h35
      refine mr_icmp_ge_t (t := 128) dX11_meetings_113 (by decide) c36 ?_
      exact mr_sub [(0, .ref 145), (1, .int p1), (2, .int p2), (3, .int p3), (4, .int p4), (5, .int p5), (6, .int p6), (7, .int p7), (8, .int p8), (9, .int p9), (10, .int p10)] ⟨rfl, rfl, rfl, rfl, rfl, rfl, rfl, rfl, rfl, rfl, rfl, trivial⟩ rfl (hK _  h35)
    · rw [if_neg c36] at h35
      refine mr_icmp_ge_f (t := 128) (pc' := 116) dX11_meetings_113 (by decide) rfl c36 ?_
      refine mr_aload_n (pc' := 117) dX11_meetings_116 rfl rfl ?_
      refine mr_iload (pc' := 119) dX11_meetings_117 rfl rfl ?_
      obtain ⟨q37, g38, h39⟩ := Option.bind_eq_some_iff.mp h35
      refine mr_cv (pc' := 122) (a := 145) (d1 := 3) dX11_meetings_119 rfl rfl rfl rfl rfl rfl (by decide) rfl (by decide) (ok_X11_wanders hR  g38) ?_
      show mr X _ _ 122 _ [] (MM RR q37) _
      refine mr_iinc (pc' := 125) (x' := (p11 + (1 : Int32))) (lv' := [(11, .int (p11 + (1 : Int32))), (0, .ref 145), (1, .int p1), (2, .int p2), (3, .int p3), (4, .int p4), (5, .int p5), (6, .int p6), (7, .int p7), (8, .int p8), (9, .int p9), (10, .int p10)]) dX11_meetings_122 rfl (by decide) rfl rfl rfl ?_
      refine mr_goto (t := 105) dX11_meetings_125 (by decide) ?_
      exact mr_sub [(0, .ref 145), (1, .int p1), (2, .int p2), (3, .int p3), (4, .int p4), (5, .int p5), (6, .int p6), (7, .int p7), (8, .int p8), (9, .int p9), (10, .int p10), (11, .int (p11 + (1 : Int32)))] ⟨rfl, rfl, rfl, rfl, rfl, rfl, rfl, rfl, rfl, rfl, rfl, rfl, trivial⟩ rfl (ih _ _  h39)
def lp_X11_meetings_95 (p1 : Int32) (p2 : Int32) (p3 : Int32) (p4 : Int32) (p5 : Int32) (p6 : Int32) (p7 : Int32) (p8 : Int32) (K : Int32 → fS → Option (Int32 × fS)) : Nat → Int32 → Int32 → fS → Option (Int32 × fS)
  | 0, _, _, _ => none
  | n + 1, p9, p10, S0 =>
    if p4 ≤ p10 then (K p9 S0) else
    (lp_X11_meetings_105 p1 p2 p3 p4 p5 p6 p7 p8 p9 p10 (fun S40 => (f_X11_ageAll  S40).bind fun q42 =>
    (f_X11_thingOf p1 (0 : Int32) q42).bind fun q45 =>
    if q45 < (0 : Int32) then (lp_X11_meetings_95 p1 p2 p3 p4 p5 p6 p7 p8 K n (p9 + (0 : Int32)) (p10 + (1 : Int32)) q42) else
    ((f_X11_thingOf p1 (0 : Int32) q42).bind fun q49 =>
    (f_X11_thingOf p2 (0 : Int32) q42).bind fun q52 =>
    if q49 = q52 then (lp_X11_meetings_95 p1 p2 p3 p4 p5 p6 p7 p8 K n (p9 + (1 : Int32)) (p10 + (1 : Int32)) q42) else
    (lp_X11_meetings_95 p1 p2 p3 p4 p5 p6 p7 p8 K n (p9 + (0 : Int32)) (p10 + (1 : Int32)) q42))) FU (0 : Int32) S0)
set_option maxHeartbeats 4000000 in
set_option maxRecDepth 100000 in
theorem ok_lp_X11_meetings_95 {X : mm_C} {RR : Nat → Nat → Option Nat} (hR : RRok RR) {p1 : Int32} {p2 : Int32} {p3 : Int32} {p4 : Int32} {p5 : Int32} {p6 : Int32} {p7 : Int32} {p8 : Int32}  {K : Int32 → fS → Option (Int32 × fS)} {r : Int32 × fS} (hK : ∀ (k9 : Int32) (Sk : fS), K k9 Sk = some r → mr X 4 mY_X11_meetings 172 [(0, .ref 145), (1, .int p1), (2, .int p2), (3, .int p3), (4, .int p4), (5, .int p5), (6, .int p6), (7, .int p7), (8, .int p8), (9, .int k9)] [] (MM RR Sk) (some (.int r.1), MM RR r.2)) : ∀ (n : Nat) (p9 : Int32) (p10 : Int32) (S0 : fS), lp_X11_meetings_95 p1 p2 p3 p4 p5 p6 p7 p8 K n p9 p10 S0 = some r → mr X 4 mY_X11_meetings 95 [(0, .ref 145), (1, .int p1), (2, .int p2), (3, .int p3), (4, .int p4), (5, .int p5), (6, .int p6), (7, .int p7), (8, .int p8), (9, .int p9), (10, .int p10)] [] (MM RR S0) (some (.int r.1), MM RR r.2) := by
  intro n
  induction n with
  | zero => intro p9 p10 S0 h; exact mm_no h
  | succ n ih =>
    intro p9 p10 S0 h
    unfold lp_X11_meetings_95 at h
    refine mr_iload (pc' := 97) dX11_meetings_95 rfl rfl ?_
    refine mr_iload (pc' := 99) dX11_meetings_97 rfl rfl ?_
    by_cases c32 : p4 ≤ p10
    · rw [if_pos c32] at h
      refine mr_icmp_ge_t (t := 172) dX11_meetings_99 (by decide) c32 ?_
      exact mr_sub [(0, .ref 145), (1, .int p1), (2, .int p2), (3, .int p3), (4, .int p4), (5, .int p5), (6, .int p6), (7, .int p7), (8, .int p8), (9, .int p9)] ⟨rfl, rfl, rfl, rfl, rfl, rfl, rfl, rfl, rfl, rfl, trivial⟩ rfl (hK _ _  h)
    · rw [if_neg c32] at h
      refine mr_icmp_ge_f (t := 172) (pc' := 102) dX11_meetings_99 (by decide) rfl c32 ?_
      refine mr_iconst (pc' := 103) (v := (0 : Int32)) dX11_meetings_102 rfl (by decide) ?_
      refine mr_istore (pc' := 105) (lv' := [(11, .int (0 : Int32)), (0, .ref 145), (1, .int p1), (2, .int p2), (3, .int p3), (4, .int p4), (5, .int p5), (6, .int p6), (7, .int p7), (8, .int p8), (9, .int p9), (10, .int p10)]) dX11_meetings_103 rfl (by decide) rfl ?_
      refine mr_sub [(0, .ref 145), (1, .int p1), (2, .int p2), (3, .int p3), (4, .int p4), (5, .int p5), (6, .int p6), (7, .int p7), (8, .int p8), (9, .int p9), (10, .int p10), (11, .int (0 : Int32))] ⟨rfl, rfl, rfl, rfl, rfl, rfl, rfl, rfl, rfl, rfl, rfl, rfl, trivial⟩ rfl ?_
      refine ok_lp_X11_meetings_105 hR  (fun S40 h41 => ?_) FU _ _  h
      refine mr_aload_n (pc' := 129) dX11_meetings_128 rfl rfl ?_
      obtain ⟨q42, g43, h44⟩ := Option.bind_eq_some_iff.mp h41
      refine mr_cv (pc' := 132) (a := 145) (d1 := 2) dX11_meetings_129 rfl rfl rfl rfl rfl rfl (by decide) rfl (by decide) (ok_X11_ageAll hR  g43) ?_
      show mr X _ _ 132 _ [] (MM RR q42) _
      refine mr_iload (pc' := 134) dX11_meetings_132 rfl rfl ?_
      refine mr_aload_n (pc' := 135) dX11_meetings_134 rfl rfl ?_
      refine mr_iload_n (pc' := 136) dX11_meetings_135 rfl rfl ?_
      refine mr_iconst (pc' := 137) (v := (0 : Int32)) dX11_meetings_136 rfl (by decide) ?_
      obtain ⟨q45, g46, h47⟩ := Option.bind_eq_some_iff.mp h44
      refine mr_cv (pc' := 140) (a := 145) (d1 := 0) dX11_meetings_137 rfl rfl rfl rfl rfl rfl (by decide) rfl (by decide) (ok_X11_thingOf hR  g46) ?_
      show mr X _ _ 140 _ [.int q45, .int p9] (MM RR q42) _
      by_cases c48 : q45 < (0 : Int32)
      · rw [if_pos c48] at h47
        refine mr_if_lt_t (t := 162) dX11_meetings_140 (by decide) c48 ?_
        refine mr_iconst (pc' := 163) (v := (0 : Int32)) dX11_meetings_162 rfl (by decide) ?_
        refine mr_iadd (pc' := 164) dX11_meetings_163 rfl ?_
        refine mr_istore (pc' := 166) (lv' := [(9, .int (p9 + (0 : Int32))), (0, .ref 145), (1, .int p1), (2, .int p2), (3, .int p3), (4, .int p4), (5, .int p5), (6, .int p6), (7, .int p7), (8, .int p8), (10, .int p10)]) dX11_meetings_164 rfl (by decide) rfl ?_
        refine mr_iinc (pc' := 169) (x' := (p10 + (1 : Int32))) (lv' := [(10, .int (p10 + (1 : Int32))), (9, .int (p9 + (0 : Int32))), (0, .ref 145), (1, .int p1), (2, .int p2), (3, .int p3), (4, .int p4), (5, .int p5), (6, .int p6), (7, .int p7), (8, .int p8)]) dX11_meetings_166 rfl (by decide) rfl rfl rfl ?_
        refine mr_goto (t := 95) dX11_meetings_169 (by decide) ?_
        exact mr_sub [(0, .ref 145), (1, .int p1), (2, .int p2), (3, .int p3), (4, .int p4), (5, .int p5), (6, .int p6), (7, .int p7), (8, .int p8), (9, .int (p9 + (0 : Int32))), (10, .int (p10 + (1 : Int32)))] ⟨rfl, rfl, rfl, rfl, rfl, rfl, rfl, rfl, rfl, rfl, rfl, trivial⟩ rfl (ih _ _ _  h47)
      · rw [if_neg c48] at h47
        refine mr_if_lt_f (t := 162) (pc' := 143) dX11_meetings_140 (by decide) rfl c48 ?_
        refine mr_aload_n (pc' := 144) dX11_meetings_143 rfl rfl ?_
        refine mr_iload_n (pc' := 145) dX11_meetings_144 rfl rfl ?_
        refine mr_iconst (pc' := 146) (v := (0 : Int32)) dX11_meetings_145 rfl (by decide) ?_
        obtain ⟨q49, g50, h51⟩ := Option.bind_eq_some_iff.mp h47
        refine mr_cv (pc' := 149) (a := 145) (d1 := 0) dX11_meetings_146 rfl rfl rfl rfl rfl rfl (by decide) rfl (by decide) (ok_X11_thingOf hR  g50) ?_
        show mr X _ _ 149 _ [.int q49, .int p9] (MM RR q42) _
        refine mr_aload_n (pc' := 150) dX11_meetings_149 rfl rfl ?_
        refine mr_iload_n (pc' := 151) dX11_meetings_150 rfl rfl ?_
        refine mr_iconst (pc' := 152) (v := (0 : Int32)) dX11_meetings_151 rfl (by decide) ?_
        obtain ⟨q52, g53, h54⟩ := Option.bind_eq_some_iff.mp h51
        refine mr_cv (pc' := 155) (a := 145) (d1 := 0) dX11_meetings_152 rfl rfl rfl rfl rfl rfl (by decide) rfl (by decide) (ok_X11_thingOf hR  g53) ?_
        show mr X _ _ 155 _ [.int q52, .int q49, .int p9] (MM RR q42) _
        by_cases c55 : q49 = q52
        · rw [if_pos c55] at h54
          refine mr_icmp_ne_f (t := 162) (pc' := 158) dX11_meetings_155 (by decide) rfl (not_not_intro c55) ?_
          refine mr_iconst (pc' := 159) (v := (1 : Int32)) dX11_meetings_158 rfl (by decide) ?_
          refine mr_goto (t := 163) dX11_meetings_159 (by decide) ?_
          refine mr_iadd (pc' := 164) dX11_meetings_163 rfl ?_
          refine mr_istore (pc' := 166) (lv' := [(9, .int (p9 + (1 : Int32))), (0, .ref 145), (1, .int p1), (2, .int p2), (3, .int p3), (4, .int p4), (5, .int p5), (6, .int p6), (7, .int p7), (8, .int p8), (10, .int p10)]) dX11_meetings_164 rfl (by decide) rfl ?_
          refine mr_iinc (pc' := 169) (x' := (p10 + (1 : Int32))) (lv' := [(10, .int (p10 + (1 : Int32))), (9, .int (p9 + (1 : Int32))), (0, .ref 145), (1, .int p1), (2, .int p2), (3, .int p3), (4, .int p4), (5, .int p5), (6, .int p6), (7, .int p7), (8, .int p8)]) dX11_meetings_166 rfl (by decide) rfl rfl rfl ?_
          refine mr_goto (t := 95) dX11_meetings_169 (by decide) ?_
          exact mr_sub [(0, .ref 145), (1, .int p1), (2, .int p2), (3, .int p3), (4, .int p4), (5, .int p5), (6, .int p6), (7, .int p7), (8, .int p8), (9, .int (p9 + (1 : Int32))), (10, .int (p10 + (1 : Int32)))] ⟨rfl, rfl, rfl, rfl, rfl, rfl, rfl, rfl, rfl, rfl, rfl, trivial⟩ rfl (ih _ _ _  h54)
        · rw [if_neg c55] at h54
          refine mr_icmp_ne_t (t := 162) dX11_meetings_155 (by decide) c55 ?_
          refine mr_iconst (pc' := 163) (v := (0 : Int32)) dX11_meetings_162 rfl (by decide) ?_
          refine mr_iadd (pc' := 164) dX11_meetings_163 rfl ?_
          refine mr_istore (pc' := 166) (lv' := [(9, .int (p9 + (0 : Int32))), (0, .ref 145), (1, .int p1), (2, .int p2), (3, .int p3), (4, .int p4), (5, .int p5), (6, .int p6), (7, .int p7), (8, .int p8), (10, .int p10)]) dX11_meetings_164 rfl (by decide) rfl ?_
          refine mr_iinc (pc' := 169) (x' := (p10 + (1 : Int32))) (lv' := [(10, .int (p10 + (1 : Int32))), (9, .int (p9 + (0 : Int32))), (0, .ref 145), (1, .int p1), (2, .int p2), (3, .int p3), (4, .int p4), (5, .int p5), (6, .int p6), (7, .int p7), (8, .int p8)]) dX11_meetings_166 rfl (by decide) rfl rfl rfl ?_
          refine mr_goto (t := 95) dX11_meetings_169 (by decide) ?_
          exact mr_sub [(0, .ref 145), (1, .int p1), (2, .int p2), (3, .int p3), (4, .int p4), (5, .int p5), (6, .int p6), (7, .int p7), (8, .int p8), (9, .int (p9 + (0 : Int32))), (10, .int (p10 + (1 : Int32)))] ⟨rfl, rfl, rfl, rfl, rfl, rfl, rfl, rfl, rfl, rfl, rfl, trivial⟩ rfl (ih _ _ _  h54)
def lp_X11_meetings_83 (p1 : Int32) (p2 : Int32) (p3 : Int32) (p4 : Int32) (p5 : Int32) (K : Int32 → Int32 → fS → Option (Int32 × fS)) : Nat → Int32 → Int32 → Int32 → fS → Option (Int32 × fS)
  | 0, _, _, _, _ => none
  | n + 1, p6, p7, p8, S0 =>
    if p3 ≤ p8 then (K p6 p7 S0) else
    (lp_X11_meetings_95 p1 p2 p3 p4 p5 p6 p7 p8 (fun u56 S57 => if u56 ≤ (0 : Int32) then ((f_X11_putsBack  S57).bind fun q60 =>
    lp_X11_meetings_83 p1 p2 p3 p4 p5 K n (p6 + u56) (p7 + (0 : Int32)) (p8 + (1 : Int32)) q60) else
    ((f_X11_putsBack  S57).bind fun q63 =>
    lp_X11_meetings_83 p1 p2 p3 p4 p5 K n (p6 + u56) (p7 + (1 : Int32)) (p8 + (1 : Int32)) q63)) FU (0 : Int32) (0 : Int32) S0)
set_option maxHeartbeats 4000000 in
set_option maxRecDepth 100000 in
theorem ok_lp_X11_meetings_83 {X : mm_C} {RR : Nat → Nat → Option Nat} (hR : RRok RR) {p1 : Int32} {p2 : Int32} {p3 : Int32} {p4 : Int32} {p5 : Int32}  {K : Int32 → Int32 → fS → Option (Int32 × fS)} {r : Int32 × fS} (hK : ∀ (k6 : Int32) (k7 : Int32) (Sk : fS), K k6 k7 Sk = some r → mr X 4 mY_X11_meetings 204 [(5, .int p5), (6, .int k6), (7, .int k7)] [] (MM RR Sk) (some (.int r.1), MM RR r.2)) : ∀ (n : Nat) (p6 : Int32) (p7 : Int32) (p8 : Int32) (S0 : fS), lp_X11_meetings_83 p1 p2 p3 p4 p5 K n p6 p7 p8 S0 = some r → mr X 4 mY_X11_meetings 83 [(0, .ref 145), (1, .int p1), (2, .int p2), (3, .int p3), (4, .int p4), (5, .int p5), (6, .int p6), (7, .int p7), (8, .int p8)] [] (MM RR S0) (some (.int r.1), MM RR r.2) := by
  intro n
  induction n with
  | zero => intro p6 p7 p8 S0 h; exact mm_no h
  | succ n ih =>
    intro p6 p7 p8 S0 h
    unfold lp_X11_meetings_83 at h
    refine mr_iload (pc' := 85) dX11_meetings_83 rfl rfl ?_
    refine mr_iload_n (pc' := 86) dX11_meetings_85 rfl rfl ?_
    by_cases c31 : p3 ≤ p8
    · rw [if_pos c31] at h
      refine mr_icmp_ge_t (t := 204) dX11_meetings_86 (by decide) c31 ?_
      exact mr_sub [(5, .int p5), (6, .int p6), (7, .int p7)] ⟨rfl, rfl, rfl, trivial⟩ rfl (hK _ _ _  h)
    · rw [if_neg c31] at h
      refine mr_icmp_ge_f (t := 204) (pc' := 89) dX11_meetings_86 (by decide) rfl c31 ?_
      refine mr_iconst (pc' := 90) (v := (0 : Int32)) dX11_meetings_89 rfl (by decide) ?_
      refine mr_istore (pc' := 92) (lv' := [(9, .int (0 : Int32)), (0, .ref 145), (1, .int p1), (2, .int p2), (3, .int p3), (4, .int p4), (5, .int p5), (6, .int p6), (7, .int p7), (8, .int p8)]) dX11_meetings_90 rfl (by decide) rfl ?_
      refine mr_iconst (pc' := 93) (v := (0 : Int32)) dX11_meetings_92 rfl (by decide) ?_
      refine mr_istore (pc' := 95) (lv' := [(10, .int (0 : Int32)), (9, .int (0 : Int32)), (0, .ref 145), (1, .int p1), (2, .int p2), (3, .int p3), (4, .int p4), (5, .int p5), (6, .int p6), (7, .int p7), (8, .int p8)]) dX11_meetings_93 rfl (by decide) rfl ?_
      refine mr_sub [(0, .ref 145), (1, .int p1), (2, .int p2), (3, .int p3), (4, .int p4), (5, .int p5), (6, .int p6), (7, .int p7), (8, .int p8), (9, .int (0 : Int32)), (10, .int (0 : Int32))] ⟨rfl, rfl, rfl, rfl, rfl, rfl, rfl, rfl, rfl, rfl, rfl, trivial⟩ rfl ?_
      refine ok_lp_X11_meetings_95 hR  (fun u56 S57 h58 => ?_) FU _ _ _  h
      refine mr_iload (pc' := 174) dX11_meetings_172 rfl rfl ?_
      refine mr_iload (pc' := 176) dX11_meetings_174 rfl rfl ?_
      refine mr_iadd (pc' := 177) dX11_meetings_176 rfl ?_
      refine mr_istore (pc' := 179) (lv' := [(6, .int (p6 + u56)), (0, .ref 145), (1, .int p1), (2, .int p2), (3, .int p3), (4, .int p4), (5, .int p5), (7, .int p7), (8, .int p8), (9, .int u56)]) dX11_meetings_177 rfl (by decide) rfl ?_
      refine mr_iload (pc' := 181) dX11_meetings_179 rfl rfl ?_
      refine mr_iload (pc' := 183) dX11_meetings_181 rfl rfl ?_
      by_cases c59 : u56 ≤ (0 : Int32)
      · rw [if_pos c59] at h58
        refine mr_if_le_t (t := 190) dX11_meetings_183 (by decide) c59 ?_
        refine mr_iconst (pc' := 191) (v := (0 : Int32)) dX11_meetings_190 rfl (by decide) ?_
        refine mr_iadd (pc' := 192) dX11_meetings_191 rfl ?_
        refine mr_istore (pc' := 194) (lv' := [(7, .int (p7 + (0 : Int32))), (6, .int (p6 + u56)), (0, .ref 145), (1, .int p1), (2, .int p2), (3, .int p3), (4, .int p4), (5, .int p5), (8, .int p8), (9, .int u56)]) dX11_meetings_192 rfl (by decide) rfl ?_
        refine mr_aload_n (pc' := 195) dX11_meetings_194 rfl rfl ?_
        obtain ⟨q60, g61, h62⟩ := Option.bind_eq_some_iff.mp h58
        refine mr_cv (pc' := 198) (a := 145) (d1 := 0) dX11_meetings_195 rfl rfl rfl rfl rfl rfl (by decide) rfl (by decide) (ok_X11_putsBack hR  g61) ?_
        show mr X _ _ 198 _ [] (MM RR q60) _
        refine mr_iinc (pc' := 201) (x' := (p8 + (1 : Int32))) (lv' := [(8, .int (p8 + (1 : Int32))), (7, .int (p7 + (0 : Int32))), (6, .int (p6 + u56)), (0, .ref 145), (1, .int p1), (2, .int p2), (3, .int p3), (4, .int p4), (5, .int p5), (9, .int u56)]) dX11_meetings_198 rfl (by decide) rfl rfl rfl ?_
        refine mr_goto (t := 83) dX11_meetings_201 (by decide) ?_
        exact mr_sub [(0, .ref 145), (1, .int p1), (2, .int p2), (3, .int p3), (4, .int p4), (5, .int p5), (6, .int (p6 + u56)), (7, .int (p7 + (0 : Int32))), (8, .int (p8 + (1 : Int32)))] ⟨rfl, rfl, rfl, rfl, rfl, rfl, rfl, rfl, rfl, trivial⟩ rfl (ih _ _ _ _  h62)
      · rw [if_neg c59] at h58
        refine mr_if_le_f (t := 190) (pc' := 186) dX11_meetings_183 (by decide) rfl c59 ?_
        refine mr_iconst (pc' := 187) (v := (1 : Int32)) dX11_meetings_186 rfl (by decide) ?_
        refine mr_goto (t := 191) dX11_meetings_187 (by decide) ?_
        refine mr_iadd (pc' := 192) dX11_meetings_191 rfl ?_
        refine mr_istore (pc' := 194) (lv' := [(7, .int (p7 + (1 : Int32))), (6, .int (p6 + u56)), (0, .ref 145), (1, .int p1), (2, .int p2), (3, .int p3), (4, .int p4), (5, .int p5), (8, .int p8), (9, .int u56)]) dX11_meetings_192 rfl (by decide) rfl ?_
        refine mr_aload_n (pc' := 195) dX11_meetings_194 rfl rfl ?_
        obtain ⟨q63, g64, h65⟩ := Option.bind_eq_some_iff.mp h58
        refine mr_cv (pc' := 198) (a := 145) (d1 := 0) dX11_meetings_195 rfl rfl rfl rfl rfl rfl (by decide) rfl (by decide) (ok_X11_putsBack hR  g64) ?_
        show mr X _ _ 198 _ [] (MM RR q63) _
        refine mr_iinc (pc' := 201) (x' := (p8 + (1 : Int32))) (lv' := [(8, .int (p8 + (1 : Int32))), (7, .int (p7 + (1 : Int32))), (6, .int (p6 + u56)), (0, .ref 145), (1, .int p1), (2, .int p2), (3, .int p3), (4, .int p4), (5, .int p5), (9, .int u56)]) dX11_meetings_198 rfl (by decide) rfl rfl rfl ?_
        refine mr_goto (t := 83) dX11_meetings_201 (by decide) ?_
        exact mr_sub [(0, .ref 145), (1, .int p1), (2, .int p2), (3, .int p3), (4, .int p4), (5, .int p5), (6, .int (p6 + u56)), (7, .int (p7 + (1 : Int32))), (8, .int (p8 + (1 : Int32)))] ⟨rfl, rfl, rfl, rfl, rfl, rfl, rfl, rfl, rfl, trivial⟩ rfl (ih _ _ _ _  h65)
def f_X11_meetings (v1 : Int32) (v2 : Int32) (v3 : Int32) (v4 : Int32) (v5 : Int32) (S : fS) : Option (Int32 × fS) :=
  (f_X11_isThing v1 S).bind fun q1 =>
  if q1 = (0 : Int32) then (some ((-1 : Int32), S)) else
  ((f_X11_isThing v2 S).bind fun q5 =>
  if q5 = (0 : Int32) then (some ((-1 : Int32), S)) else
  (if v1 = v2 then (some ((-1 : Int32), S)) else
  ((f_X11_in (Int32.toInt64 v3) (1 : Int64) (20 : Int64) S).bind fun q10 =>
  if q10 = (0 : Int32) then (some ((-1 : Int32), S)) else
  ((f_X11_in (Int32.toInt64 v4) (1 : Int64) (200 : Int64) S).bind fun q14 =>
  if q14 = (0 : Int32) then (some ((-1 : Int32), S)) else
  ((f_X11_in (Int32.toInt64 v5) (0 : Int64) (1 : Int64) S).bind fun q18 =>
  if q18 = (0 : Int32) then (some ((-1 : Int32), S)) else
  ((f_X11_keeps  S).bind fun q22 =>
  (gI q22 157 158 (5 : Int32)).bind fun a25 =>
  (some (pL q22 145 37 (Int32.toInt64 a25))).bind fun S28 =>
  lp_X11_meetings_83 v1 v2 v3 v4 v5 (fun u66 u67 S68 => if v5 = (0 : Int32) then (some (u66, S68)) else
  (some (u67, S68))) FU (0 : Int32) (0 : Int32) (0 : Int32) S28))))))
set_option maxHeartbeats 4000000 in
set_option maxRecDepth 100000 in
theorem ok_X11_meetings {X : mm_C} {RR : Nat → Nat → Option Nat} (hR : RRok RR) {v1 : Int32} {v2 : Int32} {v3 : Int32} {v4 : Int32} {v5 : Int32}  {S : fS} {r : Int32 × fS} (h : f_X11_meetings v1 v2 v3 v4 v5 S = some r) : mr X 4 mY_X11_meetings 0 (lv_args 0 [.ref 145, .int v1, .int v2, .int v3, .int v4, .int v5]) [] (MM RR S) (some (.int r.1), MM RR r.2) := by
  unfold f_X11_meetings at h
  show mr X _ _ 0 [(0, .ref 145), (1, .int v1), (2, .int v2), (3, .int v3), (4, .int v4), (5, .int v5)] [] (MM RR S) _
  refine mr_aload_n (pc' := 1) dX11_meetings_0 rfl rfl ?_
  refine mr_iload_n (pc' := 2) dX11_meetings_1 rfl rfl ?_
  obtain ⟨q1, g2, h3⟩ := Option.bind_eq_some_iff.mp h
  refine mr_cv (pc' := 5) (a := 145) (d1 := 0) dX11_meetings_2 rfl rfl rfl rfl rfl rfl (by decide) rfl (by decide) (ok_X11_isThing hR  g2) ?_
  show mr X _ _ 5 _ [.int q1] (MM RR S) _
  by_cases c4 : q1 = (0 : Int32)
  · rw [if_pos c4] at h3
    refine mr_if_eq_t (t := 57) dX11_meetings_5 (by decide) c4 ?_
    refine mr_iconst (pc' := 58) (v := (-1 : Int32)) dX11_meetings_57 rfl (by decide) ?_
    obtain rfl := Option.some.inj h3
    exact mr_ireturn dX11_meetings_58 rfl
  · rw [if_neg c4] at h3
    refine mr_if_eq_f (t := 57) (pc' := 8) dX11_meetings_5 (by decide) rfl c4 ?_
    refine mr_aload_n (pc' := 9) dX11_meetings_8 rfl rfl ?_
    refine mr_iload_n (pc' := 10) dX11_meetings_9 rfl rfl ?_
    obtain ⟨q5, g6, h7⟩ := Option.bind_eq_some_iff.mp h3
    refine mr_cv (pc' := 13) (a := 145) (d1 := 0) dX11_meetings_10 rfl rfl rfl rfl rfl rfl (by decide) rfl (by decide) (ok_X11_isThing hR  g6) ?_
    show mr X _ _ 13 _ [.int q5] (MM RR S) _
    by_cases c8 : q5 = (0 : Int32)
    · rw [if_pos c8] at h7
      refine mr_if_eq_t (t := 57) dX11_meetings_13 (by decide) c8 ?_
      refine mr_iconst (pc' := 58) (v := (-1 : Int32)) dX11_meetings_57 rfl (by decide) ?_
      obtain rfl := Option.some.inj h7
      exact mr_ireturn dX11_meetings_58 rfl
    · rw [if_neg c8] at h7
      refine mr_if_eq_f (t := 57) (pc' := 16) dX11_meetings_13 (by decide) rfl c8 ?_
      refine mr_iload_n (pc' := 17) dX11_meetings_16 rfl rfl ?_
      refine mr_iload_n (pc' := 18) dX11_meetings_17 rfl rfl ?_
      by_cases c9 : v1 = v2
      · rw [if_pos c9] at h7
        refine mr_icmp_eq_t (t := 57) dX11_meetings_18 (by decide) c9 ?_
        refine mr_iconst (pc' := 58) (v := (-1 : Int32)) dX11_meetings_57 rfl (by decide) ?_
        obtain rfl := Option.some.inj h7
        exact mr_ireturn dX11_meetings_58 rfl
      · rw [if_neg c9] at h7
        refine mr_icmp_eq_f (t := 57) (pc' := 21) dX11_meetings_18 (by decide) rfl c9 ?_
        refine mr_iload_n (pc' := 22) dX11_meetings_21 rfl rfl ?_
        refine mr_i2l (pc' := 23) dX11_meetings_22 rfl ?_
        refine mr_lconst (pc' := 24) (v := (1 : Int64)) dX11_meetings_23 rfl (by decide) ?_
        refine mr_ldc2 (pc' := 27) (v := (20 : Int64)) dX11_meetings_24 rfl rfl ?_
        obtain ⟨q10, g11, h12⟩ := Option.bind_eq_some_iff.mp h7
        refine mr_cs (pc' := 30) (d1 := 0) dX11_meetings_27 rfl rfl rfl rfl (by decide) (Nat.le_of_ble_eq_true rfl) rfl rfl rfl (by decide) (ok_X11_in hR  g11) ?_
        show mr X _ _ 30 _ [.int q10] (MM RR S) _
        by_cases c13 : q10 = (0 : Int32)
        · rw [if_pos c13] at h12
          refine mr_if_eq_t (t := 57) dX11_meetings_30 (by decide) c13 ?_
          refine mr_iconst (pc' := 58) (v := (-1 : Int32)) dX11_meetings_57 rfl (by decide) ?_
          obtain rfl := Option.some.inj h12
          exact mr_ireturn dX11_meetings_58 rfl
        · rw [if_neg c13] at h12
          refine mr_if_eq_f (t := 57) (pc' := 33) dX11_meetings_30 (by decide) rfl c13 ?_
          refine mr_iload (pc' := 35) dX11_meetings_33 rfl rfl ?_
          refine mr_i2l (pc' := 36) dX11_meetings_35 rfl ?_
          refine mr_lconst (pc' := 37) (v := (1 : Int64)) dX11_meetings_36 rfl (by decide) ?_
          refine mr_ldc2 (pc' := 40) (v := (200 : Int64)) dX11_meetings_37 rfl rfl ?_
          obtain ⟨q14, g15, h16⟩ := Option.bind_eq_some_iff.mp h12
          refine mr_cs (pc' := 43) (d1 := 0) dX11_meetings_40 rfl rfl rfl rfl (by decide) (Nat.le_of_ble_eq_true rfl) rfl rfl rfl (by decide) (ok_X11_in hR  g15) ?_
          show mr X _ _ 43 _ [.int q14] (MM RR S) _
          by_cases c17 : q14 = (0 : Int32)
          · rw [if_pos c17] at h16
            refine mr_if_eq_t (t := 57) dX11_meetings_43 (by decide) c17 ?_
            refine mr_iconst (pc' := 58) (v := (-1 : Int32)) dX11_meetings_57 rfl (by decide) ?_
            obtain rfl := Option.some.inj h16
            exact mr_ireturn dX11_meetings_58 rfl
          · rw [if_neg c17] at h16
            refine mr_if_eq_f (t := 57) (pc' := 46) dX11_meetings_43 (by decide) rfl c17 ?_
            refine mr_iload (pc' := 48) dX11_meetings_46 rfl rfl ?_
            refine mr_i2l (pc' := 49) dX11_meetings_48 rfl ?_
            refine mr_lconst (pc' := 50) (v := (0 : Int64)) dX11_meetings_49 rfl (by decide) ?_
            refine mr_lconst (pc' := 51) (v := (1 : Int64)) dX11_meetings_50 rfl (by decide) ?_
            obtain ⟨q18, g19, h20⟩ := Option.bind_eq_some_iff.mp h16
            refine mr_cs (pc' := 54) (d1 := 0) dX11_meetings_51 rfl rfl rfl rfl (by decide) (Nat.le_of_ble_eq_true rfl) rfl rfl rfl (by decide) (ok_X11_in hR  g19) ?_
            show mr X _ _ 54 _ [.int q18] (MM RR S) _
            by_cases c21 : q18 = (0 : Int32)
            · rw [if_pos c21] at h20
              refine mr_if_ne_f (t := 59) (pc' := 57) dX11_meetings_54 (by decide) rfl (not_not_intro c21) ?_
              refine mr_iconst (pc' := 58) (v := (-1 : Int32)) dX11_meetings_57 rfl (by decide) ?_
              obtain rfl := Option.some.inj h20
              exact mr_ireturn dX11_meetings_58 rfl
            · rw [if_neg c21] at h20
              refine mr_if_ne_t (t := 59) dX11_meetings_54 (by decide) c21 ?_
              refine mr_aload_n (pc' := 60) dX11_meetings_59 rfl rfl ?_
              obtain ⟨q22, g23, h24⟩ := Option.bind_eq_some_iff.mp h20
              refine mr_cv (pc' := 63) (a := 145) (d1 := 0) dX11_meetings_60 rfl rfl rfl rfl rfl rfl (by decide) rfl (by decide) (ok_X11_keeps hR  g23) ?_
              show mr X _ _ 63 _ [] (MM RR q22) _
              refine mr_aload_n (pc' := 64) dX11_meetings_63 rfl rfl ?_
              refine mr_aload_n (pc' := 65) dX11_meetings_64 rfl rfl ?_
              refine mr_getR (pc' := 68) (ci := 11) (j := 25) (b := 157) hR dX11_meetings_65 rfl rfl rfl (by decide) (by decide) (by decide) rfl rfl ?_
              refine mr_iconst (pc' := 69) (v := (5 : Int32)) dX11_meetings_68 rfl (by decide) ?_
              obtain ⟨a25, g26, h27⟩ := Option.bind_eq_some_iff.mp h24
              refine mr_iald (pc' := 70) dX11_meetings_69 rfl rfl rfl g26 ?_
              refine mr_i2l (pc' := 71) dX11_meetings_70 rfl ?_
              obtain ⟨S28, g29, h30⟩ := Option.bind_eq_some_iff.mp h27
              refine mr_putL (pc' := 74) (ci := 11) (j := 37) dX11_meetings_71 rfl rfl rfl (by decide) (by decide) rfl rfl ?_
              rw [Option.some.inj g29]
              refine mr_iconst (pc' := 75) (v := (0 : Int32)) dX11_meetings_74 rfl (by decide) ?_
              refine mr_istore (pc' := 77) (lv' := [(6, .int (0 : Int32)), (0, .ref 145), (1, .int v1), (2, .int v2), (3, .int v3), (4, .int v4), (5, .int v5)]) dX11_meetings_75 rfl (by decide) rfl ?_
              refine mr_iconst (pc' := 78) (v := (0 : Int32)) dX11_meetings_77 rfl (by decide) ?_
              refine mr_istore (pc' := 80) (lv' := [(7, .int (0 : Int32)), (6, .int (0 : Int32)), (0, .ref 145), (1, .int v1), (2, .int v2), (3, .int v3), (4, .int v4), (5, .int v5)]) dX11_meetings_78 rfl (by decide) rfl ?_
              refine mr_iconst (pc' := 81) (v := (0 : Int32)) dX11_meetings_80 rfl (by decide) ?_
              refine mr_istore (pc' := 83) (lv' := [(8, .int (0 : Int32)), (7, .int (0 : Int32)), (6, .int (0 : Int32)), (0, .ref 145), (1, .int v1), (2, .int v2), (3, .int v3), (4, .int v4), (5, .int v5)]) dX11_meetings_81 rfl (by decide) rfl ?_
              refine mr_sub [(0, .ref 145), (1, .int v1), (2, .int v2), (3, .int v3), (4, .int v4), (5, .int v5), (6, .int (0 : Int32)), (7, .int (0 : Int32)), (8, .int (0 : Int32))] ⟨rfl, rfl, rfl, rfl, rfl, rfl, rfl, rfl, rfl, trivial⟩ rfl ?_
              refine ok_lp_X11_meetings_83 hR  (fun u66 u67 S68 h69 => ?_) FU _ _ _ _  h30
              refine mr_iload (pc' := 206) dX11_meetings_204 rfl rfl ?_
              by_cases c70 : v5 = (0 : Int32)
              · rw [if_pos c70] at h69
                refine mr_if_ne_f (t := 214) (pc' := 209) dX11_meetings_206 (by decide) rfl (not_not_intro c70) ?_
                refine mr_iload (pc' := 211) dX11_meetings_209 rfl rfl ?_
                refine mr_goto (t := 216) dX11_meetings_211 (by decide) ?_
                obtain rfl := Option.some.inj h69
                exact mr_ireturn dX11_meetings_216 rfl
              · rw [if_neg c70] at h69
                refine mr_if_ne_t (t := 214) dX11_meetings_206 (by decide) c70 ?_
                refine mr_iload (pc' := 216) dX11_meetings_214 rfl rfl ?_
                obtain rfl := Option.some.inj h69
                exact mr_ireturn dX11_meetings_216 rfl
def lp_X11_count_79  (S : fS) (K : Int32 → Option (Int32)) : Nat → Int32 → Int32 → Option (Int32)
  | 0, _, _ => none
  | n + 1, p2, p3 =>
    (gI S 157 158 (4 : Int32)).bind fun a23 =>
    if a23 ≤ p3 then (K p2) else
    ((f_X11_isEarly p3 S).bind fun q27 =>
    if q27 = (0 : Int32) then (lp_X11_count_79  S K n (p2 + (0 : Int32)) (p3 + (1 : Int32))) else
    (lp_X11_count_79  S K n (p2 + (1 : Int32)) (p3 + (1 : Int32))))
set_option maxHeartbeats 4000000 in
set_option maxRecDepth 100000 in
theorem ok_lp_X11_count_79 {X : mm_C} {RR : Nat → Nat → Option Nat} (hR : RRok RR)   {S : fS} {K : Int32 → Option (Int32)} {r : Int32} (hK : ∀ (k2 : Int32), K k2 = some r → mr X 3 mY_X11_count 111 [(2, .int k2)] [] (MM RR S) (some (.int r), MM RR S)) : ∀ (n : Nat) (p2 : Int32) (p3 : Int32), lp_X11_count_79  S K n p2 p3 = some r → mr X 3 mY_X11_count 79 [(0, .ref 145), (2, .int p2), (3, .int p3)] [] (MM RR S) (some (.int r), MM RR S) := by
  intro n
  induction n with
  | zero => intro p2 p3 h; exact mm_no h
  | succ n ih =>
    intro p2 p3 h
    unfold lp_X11_count_79 at h
    refine mr_iload_n (pc' := 80) dX11_count_79 rfl rfl ?_
    refine mr_aload_n (pc' := 81) dX11_count_80 rfl rfl ?_
    refine mr_getR (pc' := 84) (ci := 11) (j := 25) (b := 157) hR dX11_count_81 rfl rfl rfl (by decide) (by decide) (by decide) rfl rfl ?_
    refine mr_iconst (pc' := 85) (v := (4 : Int32)) dX11_count_84 rfl (by decide) ?_
    obtain ⟨a23, g24, h25⟩ := Option.bind_eq_some_iff.mp h
    refine mr_iald (pc' := 86) dX11_count_85 rfl rfl rfl g24 ?_
    by_cases c26 : a23 ≤ p3
    · rw [if_pos c26] at h25
      refine mr_icmp_ge_t (t := 111) dX11_count_86 (by decide) c26 ?_
      exact mr_sub [(2, .int p2)] ⟨rfl, trivial⟩ rfl (hK _  h25)
    · rw [if_neg c26] at h25
      refine mr_icmp_ge_f (t := 111) (pc' := 89) dX11_count_86 (by decide) rfl c26 ?_
      refine mr_iload_n (pc' := 90) dX11_count_89 rfl rfl ?_
      refine mr_aload_n (pc' := 91) dX11_count_90 rfl rfl ?_
      refine mr_iload_n (pc' := 92) dX11_count_91 rfl rfl ?_
      obtain ⟨q27, g28, h29⟩ := Option.bind_eq_some_iff.mp h25
      refine mr_cv (pc' := 95) (a := 145) (d1 := 2) dX11_count_92 rfl rfl rfl rfl rfl rfl (by decide) rfl (by decide) (ok_X11_isEarly hR  g28) ?_
      show mr X _ _ 95 _ [.int q27, .int p2] (MM RR S) _
      by_cases c30 : q27 = (0 : Int32)
      · rw [if_pos c30] at h29
        refine mr_if_eq_t (t := 102) dX11_count_95 (by decide) c30 ?_
        refine mr_iconst (pc' := 103) (v := (0 : Int32)) dX11_count_102 rfl (by decide) ?_
        refine mr_iadd (pc' := 104) dX11_count_103 rfl ?_
        refine mr_istore_n (pc' := 105) (lv' := [(2, .int (p2 + (0 : Int32))), (0, .ref 145), (3, .int p3)]) dX11_count_104 rfl (by decide) rfl ?_
        refine mr_iinc (pc' := 108) (x' := (p3 + (1 : Int32))) (lv' := [(3, .int (p3 + (1 : Int32))), (2, .int (p2 + (0 : Int32))), (0, .ref 145)]) dX11_count_105 rfl (by decide) rfl rfl rfl ?_
        refine mr_goto (t := 79) dX11_count_108 (by decide) ?_
        exact mr_sub [(0, .ref 145), (2, .int (p2 + (0 : Int32))), (3, .int (p3 + (1 : Int32)))] ⟨rfl, rfl, rfl, trivial⟩ rfl (ih _ _  h29)
      · rw [if_neg c30] at h29
        refine mr_if_eq_f (t := 102) (pc' := 98) dX11_count_95 (by decide) rfl c30 ?_
        refine mr_iconst (pc' := 99) (v := (1 : Int32)) dX11_count_98 rfl (by decide) ?_
        refine mr_goto (t := 103) dX11_count_99 (by decide) ?_
        refine mr_iadd (pc' := 104) dX11_count_103 rfl ?_
        refine mr_istore_n (pc' := 105) (lv' := [(2, .int (p2 + (1 : Int32))), (0, .ref 145), (3, .int p3)]) dX11_count_104 rfl (by decide) rfl ?_
        refine mr_iinc (pc' := 108) (x' := (p3 + (1 : Int32))) (lv' := [(3, .int (p3 + (1 : Int32))), (2, .int (p2 + (1 : Int32))), (0, .ref 145)]) dX11_count_105 rfl (by decide) rfl rfl rfl ?_
        refine mr_goto (t := 79) dX11_count_108 (by decide) ?_
        exact mr_sub [(0, .ref 145), (2, .int (p2 + (1 : Int32))), (3, .int (p3 + (1 : Int32)))] ⟨rfl, rfl, rfl, trivial⟩ rfl (ih _ _  h29)
def lp_X11_count_115  (S : fS) (K : Int32 → Option (Int32)) : Nat → Int32 → Int32 → Option (Int32)
  | 0, _, _ => none
  | n + 1, p2, p3 =>
    (gI S 157 158 (2 : Int32)).bind fun a34 =>
    if a34 ≤ p3 then (K p2) else
    ((f_X11_thingOf p3 (0 : Int32) S).bind fun q38 =>
    if (0 : Int32) ≤ q38 then (lp_X11_count_115  S K n (p2 + (0 : Int32)) (p3 + (1 : Int32))) else
    (lp_X11_count_115  S K n (p2 + (1 : Int32)) (p3 + (1 : Int32))))
set_option maxHeartbeats 4000000 in
set_option maxRecDepth 100000 in
theorem ok_lp_X11_count_115 {X : mm_C} {RR : Nat → Nat → Option Nat} (hR : RRok RR)   {S : fS} {K : Int32 → Option (Int32)} {r : Int32} (hK : ∀ (k2 : Int32), K k2 = some r → mr X 3 mY_X11_count 148 [(2, .int k2)] [] (MM RR S) (some (.int r), MM RR S)) : ∀ (n : Nat) (p2 : Int32) (p3 : Int32), lp_X11_count_115  S K n p2 p3 = some r → mr X 3 mY_X11_count 115 [(0, .ref 145), (2, .int p2), (3, .int p3)] [] (MM RR S) (some (.int r), MM RR S) := by
  intro n
  induction n with
  | zero => intro p2 p3 h; exact mm_no h
  | succ n ih =>
    intro p2 p3 h
    unfold lp_X11_count_115 at h
    refine mr_iload_n (pc' := 116) dX11_count_115 rfl rfl ?_
    refine mr_aload_n (pc' := 117) dX11_count_116 rfl rfl ?_
    refine mr_getR (pc' := 120) (ci := 11) (j := 25) (b := 157) hR dX11_count_117 rfl rfl rfl (by decide) (by decide) (by decide) rfl rfl ?_
    refine mr_iconst (pc' := 121) (v := (2 : Int32)) dX11_count_120 rfl (by decide) ?_
    obtain ⟨a34, g35, h36⟩ := Option.bind_eq_some_iff.mp h
    refine mr_iald (pc' := 122) dX11_count_121 rfl rfl rfl g35 ?_
    by_cases c37 : a34 ≤ p3
    · rw [if_pos c37] at h36
      refine mr_icmp_ge_t (t := 148) dX11_count_122 (by decide) c37 ?_
      exact mr_sub [(2, .int p2)] ⟨rfl, trivial⟩ rfl (hK _  h36)
    · rw [if_neg c37] at h36
      refine mr_icmp_ge_f (t := 148) (pc' := 125) dX11_count_122 (by decide) rfl c37 ?_
      refine mr_iload_n (pc' := 126) dX11_count_125 rfl rfl ?_
      refine mr_aload_n (pc' := 127) dX11_count_126 rfl rfl ?_
      refine mr_iload_n (pc' := 128) dX11_count_127 rfl rfl ?_
      refine mr_iconst (pc' := 129) (v := (0 : Int32)) dX11_count_128 rfl (by decide) ?_
      obtain ⟨q38, g39, h40⟩ := Option.bind_eq_some_iff.mp h36
      refine mr_cv (pc' := 132) (a := 145) (d1 := 0) dX11_count_129 rfl rfl rfl rfl rfl rfl (by decide) rfl (by decide) (ok_X11_thingOf hR  g39) ?_
      show mr X _ _ 132 _ [.int q38, .int p2] (MM RR S) _
      by_cases c41 : (0 : Int32) ≤ q38
      · rw [if_pos c41] at h40
        refine mr_if_ge_t (t := 139) dX11_count_132 (by decide) c41 ?_
        refine mr_iconst (pc' := 140) (v := (0 : Int32)) dX11_count_139 rfl (by decide) ?_
        refine mr_iadd (pc' := 141) dX11_count_140 rfl ?_
        refine mr_istore_n (pc' := 142) (lv' := [(2, .int (p2 + (0 : Int32))), (0, .ref 145), (3, .int p3)]) dX11_count_141 rfl (by decide) rfl ?_
        refine mr_iinc (pc' := 145) (x' := (p3 + (1 : Int32))) (lv' := [(3, .int (p3 + (1 : Int32))), (2, .int (p2 + (0 : Int32))), (0, .ref 145)]) dX11_count_142 rfl (by decide) rfl rfl rfl ?_
        refine mr_goto (t := 115) dX11_count_145 (by decide) ?_
        exact mr_sub [(0, .ref 145), (2, .int (p2 + (0 : Int32))), (3, .int (p3 + (1 : Int32)))] ⟨rfl, rfl, rfl, trivial⟩ rfl (ih _ _  h40)
      · rw [if_neg c41] at h40
        refine mr_if_ge_f (t := 139) (pc' := 135) dX11_count_132 (by decide) rfl c41 ?_
        refine mr_iconst (pc' := 136) (v := (1 : Int32)) dX11_count_135 rfl (by decide) ?_
        refine mr_goto (t := 140) dX11_count_136 (by decide) ?_
        refine mr_iadd (pc' := 141) dX11_count_140 rfl ?_
        refine mr_istore_n (pc' := 142) (lv' := [(2, .int (p2 + (1 : Int32))), (0, .ref 145), (3, .int p3)]) dX11_count_141 rfl (by decide) rfl ?_
        refine mr_iinc (pc' := 145) (x' := (p3 + (1 : Int32))) (lv' := [(3, .int (p3 + (1 : Int32))), (2, .int (p2 + (1 : Int32))), (0, .ref 145)]) dX11_count_142 rfl (by decide) rfl rfl rfl ?_
        refine mr_goto (t := 115) dX11_count_145 (by decide) ?_
        exact mr_sub [(0, .ref 145), (2, .int (p2 + (1 : Int32))), (3, .int (p3 + (1 : Int32)))] ⟨rfl, rfl, rfl, trivial⟩ rfl (ih _ _  h40)
def f_X11_count (v1 : Int32) (S : fS) : Option (Int32) :=
  if v1 = (0 : Int32) then ((gI S 157 158 v1).bind fun a2 =>
  some a2) else
  if v1 = (1 : Int32) then ((gI S 157 158 v1).bind fun a6 =>
  some a6) else
  if v1 = (2 : Int32) then ((gI S 157 158 v1).bind fun a10 =>
  some a10) else
  if v1 = (3 : Int32) then (some (S.1 145 2)) else
  if v1 = (4 : Int32) then ((gI S 157 158 (v1 - (1 : Int32))).bind fun a15 =>
  some a15) else
  if v1 = (5 : Int32) then ((gI S 157 158 (v1 - (1 : Int32))).bind fun a19 =>
  some a19) else
  if v1 = (6 : Int32) then (lp_X11_count_79  S (fun u31 => some u31) FU (0 : Int32) (0 : Int32)) else
  if v1 = (7 : Int32) then (lp_X11_count_115  S (fun u42 => some u42) FU (0 : Int32) (0 : Int32)) else
  if v1 = (8 : Int32) then ((gI S 157 158 (5 : Int32)).bind fun a45 =>
  some a45) else
  if v1 = (9 : Int32) then (some (S.1 145 1)) else
  (some (-1 : Int32))
set_option maxHeartbeats 4000000 in
set_option maxRecDepth 100000 in
theorem ok_X11_count {X : mm_C} {RR : Nat → Nat → Option Nat} (hR : RRok RR) {v1 : Int32}  {S : fS} {r : Int32} (h : f_X11_count v1 S = some r) : mr X 3 mY_X11_count 0 (lv_args 0 [.ref 145, .int v1]) [] (MM RR S) (some (.int r), MM RR S) := by
  unfold f_X11_count at h
  show mr X _ _ 0 [(0, .ref 145), (1, .int v1)] [] (MM RR S) _
  refine mr_iconst (pc' := 1) (v := (0 : Int32)) dX11_count_0 rfl (by decide) ?_
  refine mr_istore_n (pc' := 2) (lv' := [(2, .int (0 : Int32)), (0, .ref 145), (1, .int v1)]) dX11_count_1 rfl (by decide) rfl ?_
  refine mr_iload_n (pc' := 3) dX11_count_2 rfl rfl ?_
  by_cases c1 : v1 = (0 : Int32)
  · rw [if_pos c1] at h
    refine mr_sw_in (t := 56) (v := (0 : Int32)) dX11_count_3 c1 rfl ?_
    refine mr_aload_n (pc' := 57) dX11_count_56 rfl rfl ?_
    refine mr_getR (pc' := 60) (ci := 11) (j := 25) (b := 157) hR dX11_count_57 rfl rfl rfl (by decide) (by decide) (by decide) rfl rfl ?_
    refine mr_iload_n (pc' := 61) dX11_count_60 rfl rfl ?_
    obtain ⟨a2, g3, h4⟩ := Option.bind_eq_some_iff.mp h
    refine mr_iald (pc' := 62) dX11_count_61 rfl rfl rfl g3 ?_
    obtain rfl := Option.some.inj h4
    exact mr_ireturn dX11_count_62 rfl
  rw [if_neg c1] at h
  by_cases c5 : v1 = (1 : Int32)
  · rw [if_pos c5] at h
    refine mr_sw_in (t := 56) (v := (1 : Int32)) dX11_count_3 c5 rfl ?_
    refine mr_aload_n (pc' := 57) dX11_count_56 rfl rfl ?_
    refine mr_getR (pc' := 60) (ci := 11) (j := 25) (b := 157) hR dX11_count_57 rfl rfl rfl (by decide) (by decide) (by decide) rfl rfl ?_
    refine mr_iload_n (pc' := 61) dX11_count_60 rfl rfl ?_
    obtain ⟨a6, g7, h8⟩ := Option.bind_eq_some_iff.mp h
    refine mr_iald (pc' := 62) dX11_count_61 rfl rfl rfl g7 ?_
    obtain rfl := Option.some.inj h8
    exact mr_ireturn dX11_count_62 rfl
  rw [if_neg c5] at h
  by_cases c9 : v1 = (2 : Int32)
  · rw [if_pos c9] at h
    refine mr_sw_in (t := 56) (v := (2 : Int32)) dX11_count_3 c9 rfl ?_
    refine mr_aload_n (pc' := 57) dX11_count_56 rfl rfl ?_
    refine mr_getR (pc' := 60) (ci := 11) (j := 25) (b := 157) hR dX11_count_57 rfl rfl rfl (by decide) (by decide) (by decide) rfl rfl ?_
    refine mr_iload_n (pc' := 61) dX11_count_60 rfl rfl ?_
    obtain ⟨a10, g11, h12⟩ := Option.bind_eq_some_iff.mp h
    refine mr_iald (pc' := 62) dX11_count_61 rfl rfl rfl g11 ?_
    obtain rfl := Option.some.inj h12
    exact mr_ireturn dX11_count_62 rfl
  rw [if_neg c9] at h
  by_cases c13 : v1 = (3 : Int32)
  · rw [if_pos c13] at h
    refine mr_sw_in (t := 63) (v := (3 : Int32)) dX11_count_3 c13 rfl ?_
    refine mr_aload_n (pc' := 64) dX11_count_63 rfl rfl ?_
    refine mr_getI (pc' := 67) (ci := 11) (j := 2) dX11_count_64 rfl rfl rfl (by decide) (by decide) rfl ?_
    obtain rfl := Option.some.inj h
    exact mr_ireturn dX11_count_67 rfl
  rw [if_neg c13] at h
  by_cases c14 : v1 = (4 : Int32)
  · rw [if_pos c14] at h
    refine mr_sw_in (t := 68) (v := (4 : Int32)) dX11_count_3 c14 rfl ?_
    refine mr_aload_n (pc' := 69) dX11_count_68 rfl rfl ?_
    refine mr_getR (pc' := 72) (ci := 11) (j := 25) (b := 157) hR dX11_count_69 rfl rfl rfl (by decide) (by decide) (by decide) rfl rfl ?_
    refine mr_iload_n (pc' := 73) dX11_count_72 rfl rfl ?_
    refine mr_iconst (pc' := 74) (v := (1 : Int32)) dX11_count_73 rfl (by decide) ?_
    refine mr_isub (pc' := 75) dX11_count_74 rfl ?_
    obtain ⟨a15, g16, h17⟩ := Option.bind_eq_some_iff.mp h
    refine mr_iald (pc' := 76) dX11_count_75 rfl rfl rfl g16 ?_
    obtain rfl := Option.some.inj h17
    exact mr_ireturn dX11_count_76 rfl
  rw [if_neg c14] at h
  by_cases c18 : v1 = (5 : Int32)
  · rw [if_pos c18] at h
    refine mr_sw_in (t := 68) (v := (5 : Int32)) dX11_count_3 c18 rfl ?_
    refine mr_aload_n (pc' := 69) dX11_count_68 rfl rfl ?_
    refine mr_getR (pc' := 72) (ci := 11) (j := 25) (b := 157) hR dX11_count_69 rfl rfl rfl (by decide) (by decide) (by decide) rfl rfl ?_
    refine mr_iload_n (pc' := 73) dX11_count_72 rfl rfl ?_
    refine mr_iconst (pc' := 74) (v := (1 : Int32)) dX11_count_73 rfl (by decide) ?_
    refine mr_isub (pc' := 75) dX11_count_74 rfl ?_
    obtain ⟨a19, g20, h21⟩ := Option.bind_eq_some_iff.mp h
    refine mr_iald (pc' := 76) dX11_count_75 rfl rfl rfl g20 ?_
    obtain rfl := Option.some.inj h21
    exact mr_ireturn dX11_count_76 rfl
  rw [if_neg c18] at h
  by_cases c22 : v1 = (6 : Int32)
  · rw [if_pos c22] at h
    refine mr_sw_in (t := 77) (v := (6 : Int32)) dX11_count_3 c22 rfl ?_
    refine mr_iconst (pc' := 78) (v := (0 : Int32)) dX11_count_77 rfl (by decide) ?_
    refine mr_istore_n (pc' := 79) (lv' := [(3, .int (0 : Int32)), (2, .int (0 : Int32)), (0, .ref 145), (1, .int v1)]) dX11_count_78 rfl (by decide) rfl ?_
    refine mr_sub [(0, .ref 145), (2, .int (0 : Int32)), (3, .int (0 : Int32))] ⟨rfl, rfl, rfl, trivial⟩ rfl ?_
    refine ok_lp_X11_count_79 hR  (fun u31 h32 => ?_) FU _ _  h
    refine mr_iload_n (pc' := 112) dX11_count_111 rfl rfl ?_
    obtain rfl := Option.some.inj h32
    exact mr_ireturn dX11_count_112 rfl
  rw [if_neg c22] at h
  by_cases c33 : v1 = (7 : Int32)
  · rw [if_pos c33] at h
    refine mr_sw_in (t := 113) (v := (7 : Int32)) dX11_count_3 c33 rfl ?_
    refine mr_iconst (pc' := 114) (v := (0 : Int32)) dX11_count_113 rfl (by decide) ?_
    refine mr_istore_n (pc' := 115) (lv' := [(3, .int (0 : Int32)), (2, .int (0 : Int32)), (0, .ref 145), (1, .int v1)]) dX11_count_114 rfl (by decide) rfl ?_
    refine mr_sub [(0, .ref 145), (2, .int (0 : Int32)), (3, .int (0 : Int32))] ⟨rfl, rfl, rfl, trivial⟩ rfl ?_
    refine ok_lp_X11_count_115 hR  (fun u42 h43 => ?_) FU _ _  h
    refine mr_iload_n (pc' := 149) dX11_count_148 rfl rfl ?_
    obtain rfl := Option.some.inj h43
    exact mr_ireturn dX11_count_149 rfl
  rw [if_neg c33] at h
  by_cases c44 : v1 = (8 : Int32)
  · rw [if_pos c44] at h
    refine mr_sw_in (t := 150) (v := (8 : Int32)) dX11_count_3 c44 rfl ?_
    refine mr_aload_n (pc' := 151) dX11_count_150 rfl rfl ?_
    refine mr_getR (pc' := 154) (ci := 11) (j := 25) (b := 157) hR dX11_count_151 rfl rfl rfl (by decide) (by decide) (by decide) rfl rfl ?_
    refine mr_iconst (pc' := 155) (v := (5 : Int32)) dX11_count_154 rfl (by decide) ?_
    obtain ⟨a45, g46, h47⟩ := Option.bind_eq_some_iff.mp h
    refine mr_iald (pc' := 156) dX11_count_155 rfl rfl rfl g46 ?_
    obtain rfl := Option.some.inj h47
    exact mr_ireturn dX11_count_156 rfl
  rw [if_neg c44] at h
  by_cases c48 : v1 = (9 : Int32)
  · rw [if_pos c48] at h
    refine mr_sw_in (t := 157) (v := (9 : Int32)) dX11_count_3 c48 rfl ?_
    refine mr_aload_n (pc' := 158) dX11_count_157 rfl rfl ?_
    refine mr_getI (pc' := 161) (ci := 11) (j := 1) dX11_count_158 rfl rfl rfl (by decide) (by decide) rfl ?_
    obtain rfl := Option.some.inj h
    exact mr_ireturn dX11_count_161 rfl
  rw [if_neg c48] at h
  refine mr_sw_out (t := 162) dX11_count_3 (by have := i32ne c1 (k := 0) (by decide); have := i32ne c5 (k := 1) (by decide); have := i32ne c9 (k := 2) (by decide); have := i32ne c13 (k := 3) (by decide); have := i32ne c14 (k := 4) (by decide); have := i32ne c18 (k := 5) (by decide); have := i32ne c22 (k := 6) (by decide); have := i32ne c33 (k := 7) (by decide); have := i32ne c44 (k := 8) (by decide); have := i32ne c48 (k := 9) (by decide); omega) (by decide) ?_
  refine mr_iconst (pc' := 163) (v := (-1 : Int32)) dX11_count_162 rfl (by decide) ?_
  obtain rfl := Option.some.inj h
  exact mr_ireturn dX11_count_163 rfl
