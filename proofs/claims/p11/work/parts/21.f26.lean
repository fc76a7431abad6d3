def lp_X11_needed_4  (K : Int32 → fS → Option (Int32 × fS)) : Nat → Int32 → Int32 → fS → Option (Int32 × fS)
  | 0, _, _, _ => none
  | n + 1, p1, p2, S0 =>
    (gI S0 157 158 (1 : Int32)).bind fun a1 =>
    if a1 ≤ p2 then (K p1 S0) else
    ((f_X11_isSpare p2 S0).bind fun q5 =>
    if q5.1 = (0 : Int32) then (lp_X11_needed_4  K n (p1 ||| ((1 : Int32) <<< (p2 &&& 31))) (p2 + (1 : Int32)) q5.2) else
    (lp_X11_needed_4  K n (p1 ||| (0 : Int32)) (p2 + (1 : Int32)) q5.2))
set_option maxHeartbeats 4000000 in
set_option maxRecDepth 100000 in
theorem ok_lp_X11_needed_4 {X : mm_C} {RR : Nat → Nat → Option Nat} (hR : RRok RR)   {K : Int32 → fS → Option (Int32 × fS)} {r : Int32 × fS} (hK : ∀ (k1 : Int32) (Sk : fS), K k1 Sk = some r → mr X 2 mY_X11_needed 38 [(1, .int k1)] [] (MM RR Sk) (some (.int r.1), MM RR r.2)) : ∀ (n : Nat) (p1 : Int32) (p2 : Int32) (S0 : fS), lp_X11_needed_4  K n p1 p2 S0 = some r → mr X 2 mY_X11_needed 4 [(0, .ref 145), (1, .int p1), (2, .int p2)] [] (MM RR S0) (some (.int r.1), MM RR r.2) := by
  intro n
  induction n with
  | zero => intro p1 p2 S0 h; exact mm_no h
  | succ n ih =>
    intro p1 p2 S0 h
    unfold lp_X11_needed_4 at h
    refine mr_iload_n (pc' := 5) dX11_needed_4 rfl rfl ?_
    refine mr_aload_n (pc' := 6) dX11_needed_5 rfl rfl ?_
    refine mr_getR (pc' := 9) (ci := 11) (j := 25) (b := 157) hR dX11_needed_6 rfl rfl rfl (by decide) (by decide) (by decide) rfl rfl ?_
    refine mr_iconst (pc' := 10) (v := (1 : Int32)) dX11_needed_9 rfl (by decide) ?_
    obtain ⟨a1, g2, h3⟩ := Option.bind_eq_some_iff.mp h
    refine mr_iald (pc' := 11) dX11_needed_10 rfl rfl rfl g2 ?_
    by_cases c4 : a1 ≤ p2
    · rw [if_pos c4] at h3
      refine mr_icmp_ge_t (t := 38) dX11_needed_11 (by decide) c4 ?_
      exact mr_sub [(1, .int p1)] ⟨rfl, trivial⟩ rfl (hK _ _  h3)
    · rw [if_neg c4] at h3
      refine mr_icmp_ge_f (t := 38) (pc' := 14) dX11_needed_11 (by decide) rfl c4 ?_
      refine mr_iload_n (pc' := 15) dX11_needed_14 rfl rfl ?_
      refine mr_aload_n (pc' := 16) dX11_needed_15 rfl rfl ?_
      refine mr_iload_n (pc' := 17) dX11_needed_16 rfl rfl ?_
      obtain ⟨q5, g6, h7⟩ := Option.bind_eq_some_iff.mp h3
      refine mr_cv (pc' := 20) (a := 145) (d1 := 1) dX11_needed_17 rfl rfl rfl rfl rfl rfl (by decide) rfl (by decide) (ok_X11_isSpare hR  g6) ?_
      show mr X _ _ 20 _ [.int q5.1, .int p1] (MM RR q5.2) _
      by_cases c8 : q5.1 = (0 : Int32)
      · rw [if_pos c8] at h7
        refine mr_if_eq_t (t := 27) dX11_needed_20 (by decide) c8 ?_
        refine mr_iconst (pc' := 28) (v := (1 : Int32)) dX11_needed_27 rfl (by decide) ?_
        refine mr_iload_n (pc' := 29) dX11_needed_28 rfl rfl ?_
        refine mr_ishl (pc' := 30) dX11_needed_29 rfl ?_
        refine mr_ior (pc' := 31) dX11_needed_30 rfl ?_
        refine mr_istore_n (pc' := 32) (lv' := [(1, .int (p1 ||| ((1 : Int32) <<< (p2 &&& 31)))), (0, .ref 145), (2, .int p2)]) dX11_needed_31 rfl (by decide) rfl ?_
        refine mr_iinc (pc' := 35) (x' := (p2 + (1 : Int32))) (lv' := [(2, .int (p2 + (1 : Int32))), (1, .int (p1 ||| ((1 : Int32) <<< (p2 &&& 31)))), (0, .ref 145)]) dX11_needed_32 rfl (by decide) rfl rfl rfl ?_
        refine mr_goto (t := 4) dX11_needed_35 (by decide) ?_
        exact mr_sub [(0, .ref 145), (1, .int (p1 ||| ((1 : Int32) <<< (p2 &&& 31)))), (2, .int (p2 + (1 : Int32)))] ⟨rfl, rfl, rfl, trivial⟩ rfl (ih _ _ _  h7)
      · rw [if_neg c8] at h7
        refine mr_if_eq_f (t := 27) (pc' := 23) dX11_needed_20 (by decide) rfl c8 ?_
        refine mr_iconst (pc' := 24) (v := (0 : Int32)) dX11_needed_23 rfl (by decide) ?_
        refine mr_goto (t := 30) dX11_needed_24 (by decide) ?_
        refine mr_ior (pc' := 31) dX11_needed_30 rfl ?_
        refine mr_istore_n (pc' := 32) (lv' := [(1, .int (p1 ||| (0 : Int32))), (0, .ref 145), (2, .int p2)]) dX11_needed_31 rfl (by decide) rfl ?_
        refine mr_iinc (pc' := 35) (x' := (p2 + (1 : Int32))) (lv' := [(2, .int (p2 + (1 : Int32))), (1, .int (p1 ||| (0 : Int32))), (0, .ref 145)]) dX11_needed_32 rfl (by decide) rfl rfl rfl ?_
        refine mr_goto (t := 4) dX11_needed_35 (by decide) ?_
        exact mr_sub [(0, .ref 145), (1, .int (p1 ||| (0 : Int32))), (2, .int (p2 + (1 : Int32)))] ⟨rfl, rfl, rfl, trivial⟩ rfl (ih _ _ _  h7)
def f_X11_needed  (S : fS) : Option (Int32 × fS) :=
  lp_X11_needed_4  (fun u9 S10 => some (u9, S10)) FU (0 : Int32) (0 : Int32) S
set_option maxHeartbeats 4000000 in
set_option maxRecDepth 100000 in
theorem ok_X11_needed {X : mm_C} {RR : Nat → Nat → Option Nat} (hR : RRok RR)   {S : fS} {r : Int32 × fS} (h : f_X11_needed  S = some r) : mr X 2 mY_X11_needed 0 (lv_args 0 [.ref 145]) [] (MM RR S) (some (.int r.1), MM RR r.2) := by
  unfold f_X11_needed at h
  show mr X _ _ 0 [(0, .ref 145)] [] (MM RR S) _
  refine mr_iconst (pc' := 1) (v := (0 : Int32)) dX11_needed_0 rfl (by decide) ?_
  refine mr_istore_n (pc' := 2) (lv' := [(1, .int (0 : Int32)), (0, .ref 145)]) dX11_needed_1 rfl (by decide) rfl ?_
  refine mr_iconst (pc' := 3) (v := (0 : Int32)) dX11_needed_2 rfl (by decide) ?_
  refine mr_istore_n (pc' := 4) (lv' := [(2, .int (0 : Int32)), (1, .int (0 : Int32)), (0, .ref 145)]) dX11_needed_3 rfl (by decide) rfl ?_
  refine mr_sub [(0, .ref 145), (1, .int (0 : Int32)), (2, .int (0 : Int32))] ⟨rfl, rfl, rfl, trivial⟩ rfl ?_
  refine ok_lp_X11_needed_4 hR  (fun u9 S10 h11 => ?_) FU _ _ _  h
  refine mr_iload_n (pc' := 39) dX11_needed_38 rfl rfl ?_
  obtain rfl := Option.some.inj h11
  exact mr_ireturn dX11_needed_39 rfl
def lp_X11_elder_57 (p1 : Int32) (p2 : Int32) (p3 : Int32) (K : fS → Option (Int64 × fS)) : Nat → Int32 → fS → Option (Int64 × fS)
  | 0, _, _ => none
  | n + 1, p4, S0 =>
    if p2 ≤ p4 then (K S0) else
    ((f_X11_hour p1 S0).bind fun q18 =>
    lp_X11_elder_57 p1 p2 p3 K n (p4 + (1 : Int32)) q18)
set_option maxHeartbeats 4000000 in
set_option maxRecDepth 100000 in
theorem ok_lp_X11_elder_57 {X : mm_C} {RR : Nat → Nat → Option Nat} (hR : RRok RR) {p1 : Int32} {p2 : Int32} {p3 : Int32}  {K : fS → Option (Int64 × fS)} {r : Int64 × fS} (hK : ∀ (Sk : fS), K Sk = some r → mr X 5 mY_X11_elder 74 [(0, .ref 145), (3, .int p3)] [] (MM RR Sk) (some (.long r.1), MM RR r.2)) : ∀ (n : Nat) (p4 : Int32) (S0 : fS), lp_X11_elder_57 p1 p2 p3 K n p4 S0 = some r → mr X 5 mY_X11_elder 57 [(0, .ref 145), (1, .int p1), (2, .int p2), (3, .int p3), (4, .int p4)] [] (MM RR S0) (some (.long r.1), MM RR r.2) := by
  intro n
  induction n with
  | zero => intro p4 S0 h; exact mm_no h
  | succ n ih =>
    intro p4 S0 h
    unfold lp_X11_elder_57 at h
    refine mr_iload (pc' := 59) dX11_elder_57 rfl rfl ?_
    refine mr_iload_n (pc' := 60) dX11_elder_59 rfl rfl ?_
    by_cases c17 : p2 ≤ p4
    · rw [if_pos c17] at h
      refine mr_icmp_ge_t (t := 74) dX11_elder_60 (by decide) c17 ?_
      exact mr_sub [(0, .ref 145), (3, .int p3)] ⟨rfl, rfl, trivial⟩ rfl (hK _  h)
    · rw [if_neg c17] at h
      refine mr_icmp_ge_f (t := 74) (pc' := 63) dX11_elder_60 (by decide) rfl c17 ?_
      refine mr_aload_n (pc' := 64) dX11_elder_63 rfl rfl ?_
      refine mr_iload_n (pc' := 65) dX11_elder_64 rfl rfl ?_
      obtain ⟨q18, g19, h20⟩ := Option.bind_eq_some_iff.mp h
      refine mr_cv (pc' := 68) (a := 145) (d1 := 4) dX11_elder_65 rfl rfl rfl rfl rfl rfl (by decide) rfl (by decide) (ok_X11_hour hR  g19) ?_
      show mr X _ _ 68 _ [] (MM RR q18) _
      refine mr_iinc (pc' := 71) (x' := (p4 + (1 : Int32))) (lv' := [(4, .int (p4 + (1 : Int32))), (0, .ref 145), (1, .int p1), (2, .int p2), (3, .int p3)]) dX11_elder_68 rfl (by decide) rfl rfl rfl ?_
      refine mr_goto (t := 57) dX11_elder_71 (by decide) ?_
      exact mr_sub [(0, .ref 145), (1, .int p1), (2, .int p2), (3, .int p3), (4, .int (p4 + (1 : Int32)))] ⟨rfl, rfl, rfl, rfl, rfl, trivial⟩ rfl (ih _ _  h20)
def lp_X11_elder_83 (p3 : Int32) (K : Int32 → Int32 → fS → Option (Int64 × fS)) : Nat → Int32 → Int32 → Int32 → fS → Option (Int64 × fS)
  | 0, _, _, _, _ => none
  | n + 1, p4, p5, p6, S0 =>
    (gI S0 157 158 (2 : Int32)).bind fun a23 =>
    if a23 ≤ p6 then (K p4 p5 S0) else
    ((gL S0 158 8 p6).bind fun a27 =>
    (gL S0 158 8 p4).bind fun a30 =>
    if a27 ≤ a30 then ((gL S0 158 8 p6).bind fun a34 =>
    (gL S0 158 8 p5).bind fun a37 =>
    if a37 ≤ a34 then (lp_X11_elder_83 p3 K n p4 p5 (p6 + (1 : Int32)) S0) else
    (lp_X11_elder_83 p3 K n p4 p6 (p6 + (1 : Int32)) S0)) else
    ((gL S0 158 8 p6).bind fun a41 =>
    (gL S0 158 8 p5).bind fun a44 =>
    if a44 ≤ a41 then (lp_X11_elder_83 p3 K n p6 p5 (p6 + (1 : Int32)) S0) else
    (lp_X11_elder_83 p3 K n p6 p6 (p6 + (1 : Int32)) S0)))
set_option maxHeartbeats 4000000 in
set_option maxRecDepth 100000 in
theorem ok_lp_X11_elder_83 {X : mm_C} {RR : Nat → Nat → Option Nat} (hR : RRok RR) {p3 : Int32}  {K : Int32 → Int32 → fS → Option (Int64 × fS)} {r : Int64 × fS} (hK : ∀ (k4 : Int32) (k5 : Int32) (Sk : fS), K k4 k5 Sk = some r → mr X 5 mY_X11_elder 154 [(0, .ref 145), (3, .int p3), (4, .int k4), (5, .int k5)] [] (MM RR Sk) (some (.long r.1), MM RR r.2)) : ∀ (n : Nat) (p4 : Int32) (p5 : Int32) (p6 : Int32) (S0 : fS), lp_X11_elder_83 p3 K n p4 p5 p6 S0 = some r → mr X 5 mY_X11_elder 83 [(0, .ref 145), (3, .int p3), (4, .int p4), (5, .int p5), (6, .int p6)] [] (MM RR S0) (some (.long r.1), MM RR r.2) := by
  intro n
  induction n with
  | zero => intro p4 p5 p6 S0 h; exact mm_no h
  | succ n ih =>
    intro p4 p5 p6 S0 h
    unfold lp_X11_elder_83 at h
    refine mr_iload (pc' := 85) dX11_elder_83 rfl rfl ?_
    refine mr_aload_n (pc' := 86) dX11_elder_85 rfl rfl ?_
    refine mr_getR (pc' := 89) (ci := 11) (j := 25) (b := 157) hR dX11_elder_86 rfl rfl rfl (by decide) (by decide) (by decide) rfl rfl ?_
    refine mr_iconst (pc' := 90) (v := (2 : Int32)) dX11_elder_89 rfl (by decide) ?_
    obtain ⟨a23, g24, h25⟩ := Option.bind_eq_some_iff.mp h
    refine mr_iald (pc' := 91) dX11_elder_90 rfl rfl rfl g24 ?_
    by_cases c26 : a23 ≤ p6
    · rw [if_pos c26] at h25
      refine mr_icmp_ge_t (t := 154) dX11_elder_91 (by decide) c26 ?_
      exact mr_sub [(0, .ref 145), (3, .int p3), (4, .int p4), (5, .int p5)] ⟨rfl, rfl, rfl, rfl, trivial⟩ rfl (hK _ _ _  h25)
    · rw [if_neg c26] at h25
      refine mr_icmp_ge_f (t := 154) (pc' := 94) dX11_elder_91 (by decide) rfl c26 ?_
      refine mr_aload_n (pc' := 95) dX11_elder_94 rfl rfl ?_
      refine mr_getR (pc' := 98) (ci := 11) (j := 26) (b := 158) hR dX11_elder_95 rfl rfl rfl (by decide) (by decide) (by decide) rfl rfl ?_
      refine mr_iload (pc' := 100) dX11_elder_98 rfl rfl ?_
      obtain ⟨a27, g28, h29⟩ := Option.bind_eq_some_iff.mp h25
      refine mr_lald (pc' := 101) dX11_elder_100 rfl rfl rfl g28 ?_
      refine mr_aload_n (pc' := 102) dX11_elder_101 rfl rfl ?_
      refine mr_getR (pc' := 105) (ci := 11) (j := 26) (b := 158) hR dX11_elder_102 rfl rfl rfl (by decide) (by decide) (by decide) rfl rfl ?_
      refine mr_iload (pc' := 107) dX11_elder_105 rfl rfl ?_
      obtain ⟨a30, g31, h32⟩ := Option.bind_eq_some_iff.mp h29
      refine mr_lald (pc' := 108) dX11_elder_107 rfl rfl rfl g31 ?_
      by_cases c33 : a27 ≤ a30
      · rw [if_pos c33] at h32
        refine mr_lcmp_le_t (t := 117) dX11_elder_108 rfl dX11_elder_109 (by decide) c33 ?_
        refine mr_iload (pc' := 119) dX11_elder_117 rfl rfl ?_
        refine mr_istore (pc' := 121) (lv' := [(4, .int p4), (0, .ref 145), (3, .int p3), (5, .int p5), (6, .int p6)]) dX11_elder_119 rfl (by decide) rfl ?_
        refine mr_aload_n (pc' := 122) dX11_elder_121 rfl rfl ?_
        refine mr_getR (pc' := 125) (ci := 11) (j := 26) (b := 158) hR dX11_elder_122 rfl rfl rfl (by decide) (by decide) (by decide) rfl rfl ?_
        refine mr_iload (pc' := 127) dX11_elder_125 rfl rfl ?_
        obtain ⟨a34, g35, h36⟩ := Option.bind_eq_some_iff.mp h32
        refine mr_lald (pc' := 128) dX11_elder_127 rfl rfl rfl g35 ?_
        refine mr_aload_n (pc' := 129) dX11_elder_128 rfl rfl ?_
        refine mr_getR (pc' := 132) (ci := 11) (j := 26) (b := 158) hR dX11_elder_129 rfl rfl rfl (by decide) (by decide) (by decide) rfl rfl ?_
        refine mr_iload (pc' := 134) dX11_elder_132 rfl rfl ?_
        obtain ⟨a37, g38, h39⟩ := Option.bind_eq_some_iff.mp h36
        refine mr_lald (pc' := 135) dX11_elder_134 rfl rfl rfl g38 ?_
        by_cases c40 : a37 ≤ a34
        · rw [if_pos c40] at h39
          refine mr_lcmp_ge_t (t := 144) dX11_elder_135 rfl dX11_elder_136 (by decide) c40 ?_
          refine mr_iload (pc' := 146) dX11_elder_144 rfl rfl ?_
          refine mr_istore (pc' := 148) (lv' := [(5, .int p5), (4, .int p4), (0, .ref 145), (3, .int p3), (6, .int p6)]) dX11_elder_146 rfl (by decide) rfl ?_
          refine mr_iinc (pc' := 151) (x' := (p6 + (1 : Int32))) (lv' := [(6, .int (p6 + (1 : Int32))), (5, .int p5), (4, .int p4), (0, .ref 145), (3, .int p3)]) dX11_elder_148 rfl (by decide) rfl rfl rfl ?_
          refine mr_goto (t := 83) dX11_elder_151 (by decide) ?_
          exact mr_sub [(0, .ref 145), (3, .int p3), (4, .int p4), (5, .int p5), (6, .int (p6 + (1 : Int32)))] ⟨rfl, rfl, rfl, rfl, rfl, trivial⟩ rfl (ih _ _ _ _  h39)
        · rw [if_neg c40] at h39
          refine mr_lcmp_ge_f (t := 144) (pc' := 139) dX11_elder_135 rfl dX11_elder_136 (by decide) rfl c40 ?_
          refine mr_iload (pc' := 141) dX11_elder_139 rfl rfl ?_
          refine mr_goto (t := 146) dX11_elder_141 (by decide) ?_
          refine mr_istore (pc' := 148) (lv' := [(5, .int p6), (4, .int p4), (0, .ref 145), (3, .int p3), (6, .int p6)]) dX11_elder_146 rfl (by decide) rfl ?_
          refine mr_iinc (pc' := 151) (x' := (p6 + (1 : Int32))) (lv' := [(6, .int (p6 + (1 : Int32))), (5, .int p6), (4, .int p4), (0, .ref 145), (3, .int p3)]) dX11_elder_148 rfl (by decide) rfl rfl rfl ?_
          refine mr_goto (t := 83) dX11_elder_151 (by decide) ?_
          exact mr_sub [(0, .ref 145), (3, .int p3), (4, .int p4), (5, .int p6), (6, .int (p6 + (1 : Int32)))] ⟨rfl, rfl, rfl, rfl, rfl, trivial⟩ rfl (ih _ _ _ _  h39)
      · rw [if_neg c33] at h32
        refine mr_lcmp_le_f (t := 117) (pc' := 112) dX11_elder_108 rfl dX11_elder_109 (by decide) rfl c33 ?_
        refine mr_iload (pc' := 114) dX11_elder_112 rfl rfl ?_
        refine mr_goto (t := 119) dX11_elder_114 (by decide) ?_
        refine mr_istore (pc' := 121) (lv' := [(4, .int p6), (0, .ref 145), (3, .int p3), (5, .int p5), (6, .int p6)]) dX11_elder_119 rfl (by decide) rfl ?_
        refine mr_aload_n (pc' := 122) dX11_elder_121 rfl rfl ?_
        refine mr_getR (pc' := 125) (ci := 11) (j := 26) (b := 158) hR dX11_elder_122 rfl rfl rfl (by decide) (by decide) (by decide) rfl rfl ?_
        refine mr_iload (pc' := 127) dX11_elder_125 rfl rfl ?_
        obtain ⟨a41, g42, h43⟩ := Option.bind_eq_some_iff.mp h32
        refine mr_lald (pc' := 128) dX11_elder_127 rfl rfl rfl g42 ?_
        refine mr_aload_n (pc' := 129) dX11_elder_128 rfl rfl ?_
        refine mr_getR (pc' := 132) (ci := 11) (j := 26) (b := 158) hR dX11_elder_129 rfl rfl rfl (by decide) (by decide) (by decide) rfl rfl ?_
        refine mr_iload (pc' := 134) dX11_elder_132 rfl rfl ?_
        obtain ⟨a44, g45, h46⟩ := Option.bind_eq_some_iff.mp h43
        refine mr_lald (pc' := 135) dX11_elder_134 rfl rfl rfl g45 ?_
        by_cases c47 : a44 ≤ a41
        · rw [if_pos c47] at h46
          refine mr_lcmp_ge_t (t := 144) dX11_elder_135 rfl dX11_elder_136 (by decide) c47 ?_
          refine mr_iload (pc' := 146) dX11_elder_144 rfl rfl ?_
          refine mr_istore (pc' := 148) (lv' := [(5, .int p5), (4, .int p6), (0, .ref 145), (3, .int p3), (6, .int p6)]) dX11_elder_146 rfl (by decide) rfl ?_
          refine mr_iinc (pc' := 151) (x' := (p6 + (1 : Int32))) (lv' := [(6, .int (p6 + (1 : Int32))), (5, .int p5), (4, .int p6), (0, .ref 145), (3, .int p3)]) dX11_elder_148 rfl (by decide) rfl rfl rfl ?_
          refine mr_goto (t := 83) dX11_elder_151 (by decide) ?_
          exact mr_sub [(0, .ref 145), (3, .int p3), (4, .int p6), (5, .int p5), (6, .int (p6 + (1 : Int32)))] ⟨rfl, rfl, rfl, rfl, rfl, trivial⟩ rfl (ih _ _ _ _  h46)
        · rw [if_neg c47] at h46
          refine mr_lcmp_ge_f (t := 144) (pc' := 139) dX11_elder_135 rfl dX11_elder_136 (by decide) rfl c47 ?_
          refine mr_iload (pc' := 141) dX11_elder_139 rfl rfl ?_
          refine mr_goto (t := 146) dX11_elder_141 (by decide) ?_
          refine mr_istore (pc' := 148) (lv' := [(5, .int p6), (4, .int p6), (0, .ref 145), (3, .int p3), (6, .int p6)]) dX11_elder_146 rfl (by decide) rfl ?_
          refine mr_iinc (pc' := 151) (x' := (p6 + (1 : Int32))) (lv' := [(6, .int (p6 + (1 : Int32))), (5, .int p6), (4, .int p6), (0, .ref 145), (3, .int p3)]) dX11_elder_148 rfl (by decide) rfl rfl rfl ?_
          refine mr_goto (t := 83) dX11_elder_151 (by decide) ?_
          exact mr_sub [(0, .ref 145), (3, .int p3), (4, .int p6), (5, .int p6), (6, .int (p6 + (1 : Int32)))] ⟨rfl, rfl, rfl, rfl, rfl, trivial⟩ rfl (ih _ _ _ _  h46)
def f_X11_elder (v1 : Int32) (v2 : Int32) (v3 : Int32) (S : fS) : Option (Int64 × fS) :=
  if v1 = (-1 : Int32) then ((f_X11_in (Int32.toInt64 v2) (0 : Int64) (200 : Int64) S).bind fun q2 =>
  if q2 = (0 : Int32) then (some ((-1 : Int64), S)) else
  ((f_X11_in (Int32.toInt64 v3) (0 : Int64) (3 : Int64) S).bind fun q6 =>
  if q6 = (0 : Int32) then (some ((-1 : Int64), S)) else
  ((gI S 157 158 (2 : Int32)).bind fun a10 =>
  if a10 = (0 : Int32) then (some ((-1 : Int64), S)) else
  ((f_X11_keeps  S).bind fun q14 =>
  lp_X11_elder_57 v1 v2 v3 (fun S21 => lp_X11_elder_83 v3 (fun u48 u49 S50 => if v3 = (0 : Int32) then ((f_X11_putsBack  S50).bind fun q69 =>
  some ((Int32.toInt64 u48), q69)) else
  (if v3 = (1 : Int32) then ((f_X11_putsBack  S50).bind fun q66 =>
  some ((Int32.toInt64 u49), q66)) else
  ((gL S50 158 8 u48).bind fun a54 =>
  (gL S50 158 8 u49).bind fun a57 =>
  (f_X11_lowest (a54 - a57) (232792560 : Int64) (v3 - (2 : Int32)) S50).bind fun q60 =>
  (f_X11_putsBack  S50).bind fun q63 =>
  some (q60, q63)))) FU (0 : Int32) (0 : Int32) (1 : Int32) S21) FU (0 : Int32) q14)))) else
  ((f_X11_isRule v1 S).bind fun q72 =>
  if q72 = (0 : Int32) then (some ((-1 : Int64), S)) else
  ((f_X11_in (Int32.toInt64 v2) (0 : Int64) (200 : Int64) S).bind fun q76 =>
  if q76 = (0 : Int32) then (some ((-1 : Int64), S)) else
  ((f_X11_in (Int32.toInt64 v3) (0 : Int64) (3 : Int64) S).bind fun q80 =>
  if q80 = (0 : Int32) then (some ((-1 : Int64), S)) else
  ((gI S 157 158 (2 : Int32)).bind fun a84 =>
  if a84 = (0 : Int32) then (some ((-1 : Int64), S)) else
  ((f_X11_keeps  S).bind fun q88 =>
  lp_X11_elder_57 v1 v2 v3 (fun S91 => lp_X11_elder_83 v3 (fun u93 u94 S95 => if v3 = (0 : Int32) then ((f_X11_putsBack  S95).bind fun q114 =>
  some ((Int32.toInt64 u93), q114)) else
  (if v3 = (1 : Int32) then ((f_X11_putsBack  S95).bind fun q111 =>
  some ((Int32.toInt64 u94), q111)) else
  ((gL S95 158 8 u93).bind fun a99 =>
  (gL S95 158 8 u94).bind fun a102 =>
  (f_X11_lowest (a99 - a102) (232792560 : Int64) (v3 - (2 : Int32)) S95).bind fun q105 =>
  (f_X11_putsBack  S95).bind fun q108 =>
  some (q105, q108)))) FU (0 : Int32) (0 : Int32) (1 : Int32) S91) FU (0 : Int32) q88)))))
set_option maxHeartbeats 4000000 in
set_option maxRecDepth 100000 in
theorem ok_X11_elder {X : mm_C} {RR : Nat → Nat → Option Nat} (hR : RRok RR) {v1 : Int32} {v2 : Int32} {v3 : Int32}  {S : fS} {r : Int64 × fS} (h : f_X11_elder v1 v2 v3 S = some r) : mr X 5 mY_X11_elder 0 (lv_args 0 [.ref 145, .int v1, .int v2, .int v3]) [] (MM RR S) (some (.long r.1), MM RR r.2) := by
  unfold f_X11_elder at h
  show mr X _ _ 0 [(0, .ref 145), (1, .int v1), (2, .int v2), (3, .int v3)] [] (MM RR S) _
  refine mr_iload_n (pc' := 1) dX11_elder_0 rfl rfl ?_
  refine mr_iconst (pc' := 2) (v := (-1 : Int32)) dX11_elder_1 rfl (by decide) ?_
  by_cases c1 : v1 = (-1 : Int32)
  · rw [if_pos c1] at h
    refine mr_icmp_eq_t (t := 13) dX11_elder_2 (by decide) c1 ?_
    refine mr_iload_n (pc' := 14) dX11_elder_13 rfl rfl ?_
    refine mr_i2l (pc' := 15) dX11_elder_14 rfl ?_
    refine mr_lconst (pc' := 16) (v := (0 : Int64)) dX11_elder_15 rfl (by decide) ?_
    refine mr_ldc2 (pc' := 19) (v := (200 : Int64)) dX11_elder_16 rfl rfl ?_
    obtain ⟨q2, g3, h4⟩ := Option.bind_eq_some_iff.mp h
    refine mr_cs (pc' := 22) (d1 := 0) dX11_elder_19 rfl rfl rfl rfl (by decide) (Nat.le_of_ble_eq_true rfl) rfl rfl rfl (by decide) (ok_X11_in hR  g3) ?_
    show mr X _ _ 22 _ [.int q2] (MM RR S) _
    by_cases c5 : q2 = (0 : Int32)
    · rw [if_pos c5] at h4
      refine mr_if_eq_t (t := 46) dX11_elder_22 (by decide) c5 ?_
      refine mr_ldc2 (pc' := 49) (v := (-1 : Int64)) dX11_elder_46 rfl rfl ?_
      obtain rfl := Option.some.inj h4
      exact mr_lreturn dX11_elder_49 rfl
    · rw [if_neg c5] at h4
      refine mr_if_eq_f (t := 46) (pc' := 25) dX11_elder_22 (by decide) rfl c5 ?_
      refine mr_iload_n (pc' := 26) dX11_elder_25 rfl rfl ?_
      refine mr_i2l (pc' := 27) dX11_elder_26 rfl ?_
      refine mr_lconst (pc' := 28) (v := (0 : Int64)) dX11_elder_27 rfl (by decide) ?_
      refine mr_ldc2 (pc' := 31) (v := (3 : Int64)) dX11_elder_28 rfl rfl ?_
      obtain ⟨q6, g7, h8⟩ := Option.bind_eq_some_iff.mp h4
      refine mr_cs (pc' := 34) (d1 := 0) dX11_elder_31 rfl rfl rfl rfl (by decide) (Nat.le_of_ble_eq_true rfl) rfl rfl rfl (by decide) (ok_X11_in hR  g7) ?_
      show mr X _ _ 34 _ [.int q6] (MM RR S) _
      by_cases c9 : q6 = (0 : Int32)
      · rw [if_pos c9] at h8
        refine mr_if_eq_t (t := 46) dX11_elder_34 (by decide) c9 ?_
        refine mr_ldc2 (pc' := 49) (v := (-1 : Int64)) dX11_elder_46 rfl rfl ?_
        obtain rfl := Option.some.inj h8
        exact mr_lreturn dX11_elder_49 rfl
      · rw [if_neg c9] at h8
        refine mr_if_eq_f (t := 46) (pc' := 37) dX11_elder_34 (by decide) rfl c9 ?_
        refine mr_aload_n (pc' := 38) dX11_elder_37 rfl rfl ?_
        refine mr_getR (pc' := 41) (ci := 11) (j := 25) (b := 157) hR dX11_elder_38 rfl rfl rfl (by decide) (by decide) (by decide) rfl rfl ?_
        refine mr_iconst (pc' := 42) (v := (2 : Int32)) dX11_elder_41 rfl (by decide) ?_
        obtain ⟨a10, g11, h12⟩ := Option.bind_eq_some_iff.mp h8
        refine mr_iald (pc' := 43) dX11_elder_42 rfl rfl rfl g11 ?_
        by_cases c13 : a10 = (0 : Int32)
        · rw [if_pos c13] at h12
          refine mr_if_ne_f (t := 50) (pc' := 46) dX11_elder_43 (by decide) rfl (not_not_intro c13) ?_
          refine mr_ldc2 (pc' := 49) (v := (-1 : Int64)) dX11_elder_46 rfl rfl ?_
          obtain rfl := Option.some.inj h12
          exact mr_lreturn dX11_elder_49 rfl
        · rw [if_neg c13] at h12
          refine mr_if_ne_t (t := 50) dX11_elder_43 (by decide) c13 ?_
          refine mr_aload_n (pc' := 51) dX11_elder_50 rfl rfl ?_
          obtain ⟨q14, g15, h16⟩ := Option.bind_eq_some_iff.mp h12
          refine mr_cv (pc' := 54) (a := 145) (d1 := 0) dX11_elder_51 rfl rfl rfl rfl rfl rfl (by decide) rfl (by decide) (ok_X11_keeps hR  g15) ?_
          show mr X _ _ 54 _ [] (MM RR q14) _
          refine mr_iconst (pc' := 55) (v := (0 : Int32)) dX11_elder_54 rfl (by decide) ?_
          refine mr_istore (pc' := 57) (lv' := [(4, .int (0 : Int32)), (0, .ref 145), (1, .int v1), (2, .int v2), (3, .int v3)]) dX11_elder_55 rfl (by decide) rfl ?_
          refine mr_sub [(0, .ref 145), (1, .int v1), (2, .int v2), (3, .int v3), (4, .int (0 : Int32))] ⟨rfl, rfl, rfl, rfl, rfl, trivial⟩ rfl ?_
          refine ok_lp_X11_elder_57 hR  (fun S21 h22 => ?_) FU _ _  h16
          refine mr_iconst (pc' := 75) (v := (0 : Int32)) dX11_elder_74 rfl (by decide) ?_
          refine mr_istore (pc' := 77) (lv' := [(4, .int (0 : Int32)), (0, .ref 145), (3, .int v3)]) dX11_elder_75 rfl (by decide) rfl ?_
          refine mr_iconst (pc' := 78) (v := (0 : Int32)) dX11_elder_77 rfl (by decide) ?_
          refine mr_istore (pc' := 80) (lv' := [(5, .int (0 : Int32)), (4, .int (0 : Int32)), (0, .ref 145), (3, .int v3)]) dX11_elder_78 rfl (by decide) rfl ?_
          refine mr_iconst (pc' := 81) (v := (1 : Int32)) dX11_elder_80 rfl (by decide) ?_
          refine mr_istore (pc' := 83) (lv' := [(6, .int (1 : Int32)), (5, .int (0 : Int32)), (4, .int (0 : Int32)), (0, .ref 145), (3, .int v3)]) dX11_elder_81 rfl (by decide) rfl ?_
          refine mr_sub [(0, .ref 145), (3, .int v3), (4, .int (0 : Int32)), (5, .int (0 : Int32)), (6, .int (1 : Int32))] ⟨rfl, rfl, rfl, rfl, rfl, trivial⟩ rfl ?_
          refine ok_lp_X11_elder_83 hR  (fun u48 u49 S50 h51 => ?_) FU _ _ _ _  h22
          refine mr_iload_n (pc' := 155) dX11_elder_154 rfl rfl ?_
          by_cases c52 : v3 = (0 : Int32)
          · rw [if_pos c52] at h51
            refine mr_if_ne_f (t := 164) (pc' := 158) dX11_elder_155 (by decide) rfl (not_not_intro c52) ?_
            refine mr_iload (pc' := 160) dX11_elder_158 rfl rfl ?_
            refine mr_i2l (pc' := 161) dX11_elder_160 rfl ?_
            refine mr_goto (t := 199) dX11_elder_161 (by decide) ?_
            refine mr_lstore (pc' := 201) (lv' := [(6, .long (Int32.toInt64 u48)), (0, .ref 145), (3, .int v3), (4, .int u48), (5, .int u49)]) dX11_elder_199 rfl (by decide) rfl ?_
            refine mr_aload_n (pc' := 202) dX11_elder_201 rfl rfl ?_
            obtain ⟨q69, g70, h71⟩ := Option.bind_eq_some_iff.mp h51
            refine mr_cv (pc' := 205) (a := 145) (d1 := 0) dX11_elder_202 rfl rfl rfl rfl rfl rfl (by decide) rfl (by decide) (ok_X11_putsBack hR  g70) ?_
            show mr X _ _ 205 _ [] (MM RR q69) _
            refine mr_lload (pc' := 207) dX11_elder_205 rfl rfl ?_
            obtain rfl := Option.some.inj h71
            exact mr_lreturn dX11_elder_207 rfl
          · rw [if_neg c52] at h51
            refine mr_if_ne_t (t := 164) dX11_elder_155 (by decide) c52 ?_
            refine mr_iload_n (pc' := 165) dX11_elder_164 rfl rfl ?_
            refine mr_iconst (pc' := 166) (v := (1 : Int32)) dX11_elder_165 rfl (by decide) ?_
            by_cases c53 : v3 = (1 : Int32)
            · rw [if_pos c53] at h51
              refine mr_icmp_ne_f (t := 175) (pc' := 169) dX11_elder_166 (by decide) rfl (not_not_intro c53) ?_
              refine mr_iload (pc' := 171) dX11_elder_169 rfl rfl ?_
              refine mr_i2l (pc' := 172) dX11_elder_171 rfl ?_
              refine mr_goto (t := 199) dX11_elder_172 (by decide) ?_
              refine mr_lstore (pc' := 201) (lv' := [(6, .long (Int32.toInt64 u49)), (0, .ref 145), (3, .int v3), (4, .int u48), (5, .int u49)]) dX11_elder_199 rfl (by decide) rfl ?_
              refine mr_aload_n (pc' := 202) dX11_elder_201 rfl rfl ?_
              obtain ⟨q66, g67, h68⟩ := Option.bind_eq_some_iff.mp h51
              refine mr_cv (pc' := 205) (a := 145) (d1 := 0) dX11_elder_202 rfl rfl rfl rfl rfl rfl (by decide) rfl (by decide) (ok_X11_putsBack hR  g67) ?_
              show mr X _ _ 205 _ [] (MM RR q66) _
              refine mr_lload (pc' := 207) dX11_elder_205 rfl rfl ?_
              obtain rfl := Option.some.inj h68
              exact mr_lreturn dX11_elder_207 rfl
            · rw [if_neg c53] at h51
              refine mr_icmp_ne_t (t := 175) dX11_elder_166 (by decide) c53 ?_
              refine mr_aload_n (pc' := 176) dX11_elder_175 rfl rfl ?_
              refine mr_getR (pc' := 179) (ci := 11) (j := 26) (b := 158) hR dX11_elder_176 rfl rfl rfl (by decide) (by decide) (by decide) rfl rfl ?_
              refine mr_iload (pc' := 181) dX11_elder_179 rfl rfl ?_
              obtain ⟨a54, g55, h56⟩ := Option.bind_eq_some_iff.mp h51
              refine mr_lald (pc' := 182) dX11_elder_181 rfl rfl rfl g55 ?_
              refine mr_aload_n (pc' := 183) dX11_elder_182 rfl rfl ?_
              refine mr_getR (pc' := 186) (ci := 11) (j := 26) (b := 158) hR dX11_elder_183 rfl rfl rfl (by decide) (by decide) (by decide) rfl rfl ?_
              refine mr_iload (pc' := 188) dX11_elder_186 rfl rfl ?_
              obtain ⟨a57, g58, h59⟩ := Option.bind_eq_some_iff.mp h56
              refine mr_lald (pc' := 189) dX11_elder_188 rfl rfl rfl g58 ?_
              refine mr_lsub (pc' := 190) dX11_elder_189 rfl ?_
              refine mr_ldc2 (pc' := 193) (v := (232792560 : Int64)) dX11_elder_190 rfl rfl ?_
              refine mr_iload_n (pc' := 194) dX11_elder_193 rfl rfl ?_
              refine mr_iconst (pc' := 195) (v := (2 : Int32)) dX11_elder_194 rfl (by decide) ?_
              refine mr_isub (pc' := 196) dX11_elder_195 rfl ?_
              obtain ⟨q60, g61, h62⟩ := Option.bind_eq_some_iff.mp h59
              refine mr_cs (pc' := 199) (d1 := 1) dX11_elder_196 rfl rfl rfl rfl (by decide) (Nat.le_of_ble_eq_true rfl) rfl rfl rfl (by decide) (ok_X11_lowest hR  g61) ?_
              show mr X _ _ 199 _ [.long q60] (MM RR S50) _
              refine mr_lstore (pc' := 201) (lv' := [(6, .long q60), (0, .ref 145), (3, .int v3), (4, .int u48), (5, .int u49)]) dX11_elder_199 rfl (by decide) rfl ?_
              refine mr_aload_n (pc' := 202) dX11_elder_201 rfl rfl ?_
              obtain ⟨q63, g64, h65⟩ := Option.bind_eq_some_iff.mp h62
              refine mr_cv (pc' := 205) (a := 145) (d1 := 0) dX11_elder_202 rfl rfl rfl rfl rfl rfl (by decide) rfl (by decide) (ok_X11_putsBack hR  g64) ?_
              show mr X _ _ 205 _ [] (MM RR q63) _
              refine mr_lload (pc' := 207) dX11_elder_205 rfl rfl ?_
              obtain rfl := Option.some.inj h65
              exact mr_lreturn dX11_elder_207 rfl
  · rw [if_neg c1] at h
    refine mr_icmp_eq_f (t := 13) (pc' := 5) dX11_elder_2 (by decide) rfl c1 ?_
    refine mr_aload_n (pc' := 6) dX11_elder_5 rfl rfl ?_
    refine mr_iload_n (pc' := 7) dX11_elder_6 rfl rfl ?_
    obtain ⟨q72, g73, h74⟩ := Option.bind_eq_some_iff.mp h
    refine mr_cv (pc' := 10) (a := 145) (d1 := 0) dX11_elder_7 rfl rfl rfl rfl rfl rfl (by decide) rfl (by decide) (ok_X11_isRule hR  g73) ?_
    show mr X _ _ 10 _ [.int q72] (MM RR S) _
    by_cases c75 : q72 = (0 : Int32)
    · rw [if_pos c75] at h74
      refine mr_if_eq_t (t := 46) dX11_elder_10 (by decide) c75 ?_
      refine mr_ldc2 (pc' := 49) (v := (-1 : Int64)) dX11_elder_46 rfl rfl ?_
      obtain rfl := Option.some.inj h74
      exact mr_lreturn dX11_elder_49 rfl
    · rw [if_neg c75] at h74
      refine mr_if_eq_f (t := 46) (pc' := 13) dX11_elder_10 (by decide) rfl c75 ?_
      refine mr_iload_n (pc' := 14) dX11_elder_13 rfl rfl ?_
      refine mr_i2l (pc' := 15) dX11_elder_14 rfl ?_
      refine mr_lconst (pc' := 16) (v := (0 : Int64)) dX11_elder_15 rfl (by decide) ?_
      refine mr_ldc2 (pc' := 19) (v := (200 : Int64)) dX11_elder_16 rfl rfl ?_
      obtain ⟨q76, g77, h78⟩ := Option.bind_eq_some_iff.mp h74
      refine mr_cs (pc' := 22) (d1 := 0) dX11_elder_19 rfl rfl rfl rfl (by decide) (Nat.le_of_ble_eq_true rfl) rfl rfl rfl (by decide) (ok_X11_in hR  g77) ?_
      show mr X _ _ 22 _ [.int q76] (MM RR S) _
      by_cases c79 : q76 = (0 : Int32)
      · rw [if_pos c79] at h78
        refine mr_if_eq_t (t := 46) dX11_elder_22 (by decide) c79 ?_
        refine mr_ldc2 (pc' := 49) (v := (-1 : Int64)) dX11_elder_46 rfl rfl ?_
        obtain rfl := Option.some.inj h78
        exact mr_lreturn dX11_elder_49 rfl
      · rw [if_neg c79] at h78
        refine mr_if_eq_f (t := 46) (pc' := 25) dX11_elder_22 (by decide) rfl c79 ?_
        refine mr_iload_n (pc' := 26) dX11_elder_25 rfl rfl ?_
        refine mr_i2l (pc' := 27) dX11_elder_26 rfl ?_
        refine mr_lconst (pc' := 28) (v := (0 : Int64)) dX11_elder_27 rfl (by decide) ?_
        refine mr_ldc2 (pc' := 31) (v := (3 : Int64)) dX11_elder_28 rfl rfl ?_
        obtain ⟨q80, g81, h82⟩ := Option.bind_eq_some_iff.mp h78
        refine mr_cs (pc' := 34) (d1 := 0) dX11_elder_31 rfl rfl rfl rfl (by decide) (Nat.le_of_ble_eq_true rfl) rfl rfl rfl (by decide) (ok_X11_in hR  g81) ?_
        show mr X _ _ 34 _ [.int q80] (MM RR S) _
        by_cases c83 : q80 = (0 : Int32)
        · rw [if_pos c83] at h82
          refine mr_if_eq_t (t := 46) dX11_elder_34 (by decide) c83 ?_
          refine mr_ldc2 (pc' := 49) (v := (-1 : Int64)) dX11_elder_46 rfl rfl ?_
          obtain rfl := Option.some.inj h82
          exact mr_lreturn dX11_elder_49 rfl
        · rw [if_neg c83] at h82
          refine mr_if_eq_f (t := 46) (pc' := 37) dX11_elder_34 (by decide) rfl c83 ?_
          refine mr_aload_n (pc' := 38) dX11_elder_37 rfl rfl ?_
          refine mr_getR (pc' := 41) (ci := 11) (j := 25) (b := 157) hR dX11_elder_38 rfl rfl rfl (by decide) (by decide) (by decide) rfl rfl ?_
          refine mr_iconst (pc' := 42) (v := (2 : Int32)) dX11_elder_41 rfl (by decide) ?_
          obtain ⟨a84, g85, h86⟩ := Option.bind_eq_some_iff.mp h82
          refine mr_iald (pc' := 43) dX11_elder_42 rfl rfl rfl g85 ?_
          by_cases c87 : a84 = (0 : Int32)
          · rw [if_pos c87] at h86
            refine mr_if_ne_f (t := 50) (pc' := 46) dX11_elder_43 (by decide) rfl (not_not_intro c87) ?_
            refine mr_ldc2 (pc' := 49) (v := (-1 : Int64)) dX11_elder_46 rfl rfl ?_
            obtain rfl := Option.some.inj h86
            exact mr_lreturn dX11_elder_49 rfl
          · rw [if_neg c87] at h86
            refine mr_if_ne_t (t := 50) dX11_elder_43 (by decide) c87 ?_
            refine mr_aload_n (pc' := 51) dX11_elder_50 rfl rfl ?_
            obtain ⟨q88, g89, h90⟩ := Option.bind_eq_some_iff.mp h86
            refine mr_cv (pc' := 54) (a := 145) (d1 := 0) dX11_elder_51 rfl rfl rfl rfl rfl rfl (by decide) rfl (by decide) (ok_X11_keeps hR  g89) ?_
            show mr X _ _ 54 _ [] (MM RR q88) _
            refine mr_iconst (pc' := 55) (v := (0 : Int32)) dX11_elder_54 rfl (by decide) ?_
            refine mr_istore (pc' := 57) (lv' := [(4, .int (0 : Int32)), (0, .ref 145), (1, .int v1), (2, .int v2), (3, .int v3)]) dX11_elder_55 rfl (by decide) rfl ?_
            refine mr_sub [(0, .ref 145), (1, .int v1), (2, .int v2), (3, .int v3), (4, .int (0 : Int32))] ⟨rfl, rfl, rfl, rfl, rfl, trivial⟩ rfl ?_
            refine ok_lp_X11_elder_57 hR  (fun S91 h92 => ?_) FU _ _  h90
            refine mr_iconst (pc' := 75) (v := (0 : Int32)) dX11_elder_74 rfl (by decide) ?_
            refine mr_istore (pc' := 77) (lv' := [(4, .int (0 : Int32)), (0, .ref 145), (3, .int v3)]) dX11_elder_75 rfl (by decide) rfl ?_
            refine mr_iconst (pc' := 78) (v := (0 : Int32)) dX11_elder_77 rfl (by decide) ?_
            refine mr_istore (pc' := 80) (lv' := [(5, .int (0 : Int32)), (4, .int (0 : Int32)), (0, .ref 145), (3, .int v3)]) dX11_elder_78 rfl (by decide) rfl ?_
            refine mr_iconst (pc' := 81) (v := (1 : Int32)) dX11_elder_80 rfl (by decide) ?_
            refine mr_istore (pc' := 83) (lv' := [(6, .int (1 : Int32)), (5, .int (0 : Int32)), (4, .int (0 : Int32)), (0, .ref 145), (3, .int v3)]) dX11_elder_81 rfl (by decide) rfl ?_
            refine mr_sub [(0, .ref 145), (3, .int v3), (4, .int (0 : Int32)), (5, .int (0 : Int32)), (6, .int (1 : Int32))] ⟨rfl, rfl, rfl, rfl, rfl, trivial⟩ rfl ?_
            refine ok_lp_X11_elder_83 hR  (fun u93 u94 S95 h96 => ?_) FU _ _ _ _  h92
            refine mr_iload_n (pc' := 155) dX11_elder_154 rfl rfl ?_
            by_cases c97 : v3 = (0 : Int32)
            · rw [if_pos c97] at h96
              refine mr_if_ne_f (t := 164) (pc' := 158) dX11_elder_155 (by decide) rfl (not_not_intro c97) ?_
              refine mr_iload (pc' := 160) dX11_elder_158 rfl rfl ?_
              refine mr_i2l (pc' := 161) dX11_elder_160 rfl ?_
              refine mr_goto (t := 199) dX11_elder_161 (by decide) ?_
              refine mr_lstore (pc' := 201) (lv' := [(6, .long (Int32.toInt64 u93)), (0, .ref 145), (3, .int v3), (4, .int u93), (5, .int u94)]) dX11_elder_199 rfl (by decide) rfl ?_
              refine mr_aload_n (pc' := 202) dX11_elder_201 rfl rfl ?_
              obtain ⟨q114, g115, h116⟩ := Option.bind_eq_some_iff.mp h96
              refine mr_cv (pc' := 205) (a := 145) (d1 := 0) dX11_elder_202 rfl rfl rfl rfl rfl rfl (by decide) rfl (by decide) (ok_X11_putsBack hR  g115) ?_
              show mr X _ _ 205 _ [] (MM RR q114) _
              refine mr_lload (pc' := 207) dX11_elder_205 rfl rfl ?_
              obtain rfl := Option.some.inj h116
              exact mr_lreturn dX11_elder_207 rfl
            · rw [if_neg c97] at h96
              refine mr_if_ne_t (t := 164) dX11_elder_155 (by decide) c97 ?_
              refine mr_iload_n (pc' := 165) dX11_elder_164 rfl rfl ?_
              refine mr_iconst (pc' := 166) (v := (1 : Int32)) dX11_elder_165 rfl (by decide) ?_
              by_cases c98 : v3 = (1 : Int32)
              · rw [if_pos c98] at h96
                refine mr_icmp_ne_f (t := 175) (pc' := 169) dX11_elder_166 (by decide) rfl (not_not_intro c98) ?_
                refine mr_iload (pc' := 171) dX11_elder_169 rfl rfl ?_
                refine mr_i2l (pc' := 172) dX11_elder_171 rfl ?_
                refine mr_goto (t := 199) dX11_elder_172 (by decide) ?_
                refine mr_lstore (pc' := 201) (lv' := [(6, .long (Int32.toInt64 u94)), (0, .ref 145), (3, .int v3), (4, .int u93), (5, .int u94)]) dX11_elder_199 rfl (by decide) rfl ?_
                refine mr_aload_n (pc' := 202) dX11_elder_201 rfl rfl ?_
                obtain ⟨q111, g112, h113⟩ := Option.bind_eq_some_iff.mp h96
                refine mr_cv (pc' := 205) (a := 145) (d1 := 0) dX11_elder_202 rfl rfl rfl rfl rfl rfl (by decide) rfl (by decide) (ok_X11_putsBack hR  g112) ?_
                show mr X _ _ 205 _ [] (MM RR q111) _
                refine mr_lload (pc' := 207) dX11_elder_205 rfl rfl ?_
                obtain rfl := Option.some.inj h113
                exact mr_lreturn dX11_elder_207 rfl
              · rw [if_neg c98] at h96
                refine mr_icmp_ne_t (t := 175) dX11_elder_166 (by decide) c98 ?_
                refine mr_aload_n (pc' := 176) dX11_elder_175 rfl rfl ?_
                refine mr_getR (pc' := 179) (ci := 11) (j := 26) (b := 158) hR dX11_elder_176 rfl rfl rfl (by decide) (by decide) (by decide) rfl rfl ?_
                refine mr_iload (pc' := 181) dX11_elder_179 rfl rfl ?_
                obtain ⟨a99, g100, h101⟩ := Option.bind_eq_some_iff.mp h96
                refine mr_lald (pc' := 182) dX11_elder_181 rfl rfl rfl g100 ?_
                refine mr_aload_n (pc' := 183) dX11_elder_182 rfl rfl ?_
                refine mr_getR (pc' := 186) (ci := 11) (j := 26) (b := 158) hR dX11_elder_183 rfl rfl rfl (by decide) (by decide) (by decide) rfl rfl ?_
                refine mr_iload (pc' := 188) dX11_elder_186 rfl rfl ?_
                obtain ⟨a102, g103, h104⟩ := Option.bind_eq_some_iff.mp h101
                refine mr_lald (pc' := 189) dX11_elder_188 rfl rfl rfl g103 ?_
                refine mr_lsub (pc' := 190) dX11_elder_189 rfl ?_
                refine mr_ldc2 (pc' := 193) (v := (232792560 : Int64)) dX11_elder_190 rfl rfl ?_
                refine mr_iload_n (pc' := 194) dX11_elder_193 rfl rfl ?_
                refine mr_iconst (pc' := 195) (v := (2 : Int32)) dX11_elder_194 rfl (by decide) ?_
                refine mr_isub (pc' := 196) dX11_elder_195 rfl ?_
                obtain ⟨q105, g106, h107⟩ := Option.bind_eq_some_iff.mp h104
                refine mr_cs (pc' := 199) (d1 := 1) dX11_elder_196 rfl rfl rfl rfl (by decide) (Nat.le_of_ble_eq_true rfl) rfl rfl rfl (by decide) (ok_X11_lowest hR  g106) ?_
                show mr X _ _ 199 _ [.long q105] (MM RR S95) _
                refine mr_lstore (pc' := 201) (lv' := [(6, .long q105), (0, .ref 145), (3, .int v3), (4, .int u93), (5, .int u94)]) dX11_elder_199 rfl (by decide) rfl ?_
                refine mr_aload_n (pc' := 202) dX11_elder_201 rfl rfl ?_
                obtain ⟨q108, g109, h110⟩ := Option.bind_eq_some_iff.mp h107
                refine mr_cv (pc' := 205) (a := 145) (d1 := 0) dX11_elder_202 rfl rfl rfl rfl rfl rfl (by decide) rfl (by decide) (ok_X11_putsBack hR  g109) ?_
                show mr X _ _ 205 _ [] (MM RR q108) _
                refine mr_lload (pc' := 207) dX11_elder_205 rfl rfl ?_
                obtain rfl := Option.some.inj h110
                exact mr_lreturn dX11_elder_207 rfl
def lp_X11_comes_3 (p1 : Int32) (p2 : Int32) (p3 : Int64) (p5 : Int32) (K : fS → Option (fS)) : Nat → Int32 → fS → Option (fS)
  | 0, _, _ => none
  | n + 1, p6, S0 =>
    if (S0.1 145 36) ≤ p6 then (K S0) else
    ((gI S0 164 4001 p6).bind fun a2 =>
    if a2 = p1 then ((gI S0 165 4001 p6).bind fun a6 =>
    if a6 = p2 then ((gL S0 166 4001 p6).bind fun a10 =>
    if a10 = p3 then ((gI S0 167 4001 p6).bind fun a14 =>
    if a14 ≤ p5 then ((gI S0 167 4001 p6).bind fun a18 =>
    (sI S0 167 4001 p6 a18).bind fun S21 =>
    some S21) else
    ((sI S0 167 4001 p6 p5).bind fun S24 =>
    some S24)) else
    (lp_X11_comes_3 p1 p2 p3 p5 K n (p6 + (1 : Int32)) S0)) else
    (lp_X11_comes_3 p1 p2 p3 p5 K n (p6 + (1 : Int32)) S0)) else
    (lp_X11_comes_3 p1 p2 p3 p5 K n (p6 + (1 : Int32)) S0))
set_option maxHeartbeats 4000000 in
set_option maxRecDepth 100000 in
theorem ok_lp_X11_comes_3 {X : mm_C} {RR : Nat → Nat → Option Nat} (hR : RRok RR) {p1 : Int32} {p2 : Int32} {p3 : Int64} {p5 : Int32}  {K : fS → Option (fS)} {r : fS} (hK : ∀ (Sk : fS), K Sk = some r → mr X 0 mY_X11_comes 87 [(0, .ref 145), (1, .int p1), (2, .int p2), (3, .long p3), (5, .int p5)] [] (MM RR Sk) (none, MM RR r)) : ∀ (n : Nat) (p6 : Int32) (S0 : fS), lp_X11_comes_3 p1 p2 p3 p5 K n p6 S0 = some r → mr X 0 mY_X11_comes 3 [(0, .ref 145), (1, .int p1), (2, .int p2), (3, .long p3), (5, .int p5), (6, .int p6)] [] (MM RR S0) (none, MM RR r) := by
  intro n
  induction n with
  | zero => intro p6 S0 h; exact mm_no h
  | succ n ih =>
    intro p6 S0 h
    unfold lp_X11_comes_3 at h
    refine mr_iload (pc' := 5) dX11_comes_3 rfl rfl ?_
    refine mr_aload_n (pc' := 6) dX11_comes_5 rfl rfl ?_
    refine mr_getI (pc' := 9) (ci := 11) (j := 36) dX11_comes_6 rfl rfl rfl (by decide) (by decide) rfl ?_
    by_cases c1 : (S0.1 145 36) ≤ p6
    · rw [if_pos c1] at h
      refine mr_icmp_ge_t (t := 87) dX11_comes_9 (by decide) c1 ?_
      exact mr_sub [(0, .ref 145), (1, .int p1), (2, .int p2), (3, .long p3), (5, .int p5)] ⟨rfl, rfl, rfl, rfl, rfl, trivial⟩ rfl (hK _  h)
    · rw [if_neg c1] at h
      refine mr_icmp_ge_f (t := 87) (pc' := 12) dX11_comes_9 (by decide) rfl c1 ?_
      refine mr_aload_n (pc' := 13) dX11_comes_12 rfl rfl ?_
      refine mr_getR (pc' := 16) (ci := 11) (j := 32) (b := 164) hR dX11_comes_13 rfl rfl rfl (by decide) (by decide) (by decide) rfl rfl ?_
      refine mr_iload (pc' := 18) dX11_comes_16 rfl rfl ?_
      obtain ⟨a2, g3, h4⟩ := Option.bind_eq_some_iff.mp h
      refine mr_iald (pc' := 19) dX11_comes_18 rfl rfl rfl g3 ?_
      refine mr_iload_n (pc' := 20) dX11_comes_19 rfl rfl ?_
      by_cases c5 : a2 = p1
      · rw [if_pos c5] at h4
        refine mr_icmp_ne_f (t := 81) (pc' := 23) dX11_comes_20 (by decide) rfl (not_not_intro c5) ?_
        refine mr_aload_n (pc' := 24) dX11_comes_23 rfl rfl ?_
        refine mr_getR (pc' := 27) (ci := 11) (j := 33) (b := 165) hR dX11_comes_24 rfl rfl rfl (by decide) (by decide) (by decide) rfl rfl ?_
        refine mr_iload (pc' := 29) dX11_comes_27 rfl rfl ?_
        obtain ⟨a6, g7, h8⟩ := Option.bind_eq_some_iff.mp h4
        refine mr_iald (pc' := 30) dX11_comes_29 rfl rfl rfl g7 ?_
        refine mr_iload_n (pc' := 31) dX11_comes_30 rfl rfl ?_
        by_cases c9 : a6 = p2
        · rw [if_pos c9] at h8
          refine mr_icmp_ne_f (t := 81) (pc' := 34) dX11_comes_31 (by decide) rfl (not_not_intro c9) ?_
          refine mr_aload_n (pc' := 35) dX11_comes_34 rfl rfl ?_
          refine mr_getR (pc' := 38) (ci := 11) (j := 34) (b := 166) hR dX11_comes_35 rfl rfl rfl (by decide) (by decide) (by decide) rfl rfl ?_
          refine mr_iload (pc' := 40) dX11_comes_38 rfl rfl ?_
          obtain ⟨a10, g11, h12⟩ := Option.bind_eq_some_iff.mp h8
          refine mr_lald (pc' := 41) dX11_comes_40 rfl rfl rfl g11 ?_
          refine mr_lload_n (pc' := 42) dX11_comes_41 rfl rfl ?_
          by_cases c13 : a10 = p3
          · rw [if_pos c13] at h12
            refine mr_lcmp_eq_t (t := 49) dX11_comes_42 rfl dX11_comes_43 (by decide) c13 ?_
            refine mr_aload_n (pc' := 50) dX11_comes_49 rfl rfl ?_
            refine mr_getR (pc' := 53) (ci := 11) (j := 35) (b := 167) hR dX11_comes_50 rfl rfl rfl (by decide) (by decide) (by decide) rfl rfl ?_
            refine mr_iload (pc' := 55) dX11_comes_53 rfl rfl ?_
            refine mr_iload (pc' := 57) dX11_comes_55 rfl rfl ?_
            refine mr_aload_n (pc' := 58) dX11_comes_57 rfl rfl ?_
            refine mr_getR (pc' := 61) (ci := 11) (j := 35) (b := 167) hR dX11_comes_58 rfl rfl rfl (by decide) (by decide) (by decide) rfl rfl ?_
            refine mr_iload (pc' := 63) dX11_comes_61 rfl rfl ?_
            obtain ⟨a14, g15, h16⟩ := Option.bind_eq_some_iff.mp h12
            refine mr_iald (pc' := 64) dX11_comes_63 rfl rfl rfl g15 ?_
            by_cases c17 : a14 ≤ p5
            · rw [if_pos c17] at h16
              refine mr_icmp_ge_t (t := 72) dX11_comes_64 (by decide) c17 ?_
              refine mr_aload_n (pc' := 73) dX11_comes_72 rfl rfl ?_
              refine mr_getR (pc' := 76) (ci := 11) (j := 35) (b := 167) hR dX11_comes_73 rfl rfl rfl (by decide) (by decide) (by decide) rfl rfl ?_
              refine mr_iload (pc' := 78) dX11_comes_76 rfl rfl ?_
              obtain ⟨a18, g19, h20⟩ := Option.bind_eq_some_iff.mp h16
              refine mr_iald (pc' := 79) dX11_comes_78 rfl rfl rfl g19 ?_
              obtain ⟨S21, g22, h23⟩ := Option.bind_eq_some_iff.mp h20
              refine mr_iast (pc' := 80) dX11_comes_79 rfl rfl rfl g22 ?_
              obtain rfl := Option.some.inj h23
              exact mr_return dX11_comes_80 rfl
            · rw [if_neg c17] at h16
              refine mr_icmp_ge_f (t := 72) (pc' := 67) dX11_comes_64 (by decide) rfl c17 ?_
              refine mr_iload (pc' := 69) dX11_comes_67 rfl rfl ?_
              refine mr_goto (t := 79) dX11_comes_69 (by decide) ?_
              obtain ⟨S24, g25, h26⟩ := Option.bind_eq_some_iff.mp h16
              refine mr_iast (pc' := 80) dX11_comes_79 rfl rfl rfl g25 ?_
              obtain rfl := Option.some.inj h26
              exact mr_return dX11_comes_80 rfl
          · rw [if_neg c13] at h12
            refine mr_lcmp_eq_f (t := 49) (pc' := 46) dX11_comes_42 rfl dX11_comes_43 (by decide) rfl c13 ?_
            refine mr_goto (t := 81) dX11_comes_46 (by decide) ?_
            refine mr_iinc (pc' := 84) (x' := (p6 + (1 : Int32))) (lv' := [(6, .int (p6 + (1 : Int32))), (0, .ref 145), (1, .int p1), (2, .int p2), (3, .long p3), (5, .int p5)]) dX11_comes_81 rfl (by decide) rfl rfl rfl ?_
            refine mr_goto (t := 3) dX11_comes_84 (by decide) ?_
            exact mr_sub [(0, .ref 145), (1, .int p1), (2, .int p2), (3, .long p3), (5, .int p5), (6, .int (p6 + (1 : Int32)))] ⟨rfl, rfl, rfl, rfl, rfl, rfl, trivial⟩ rfl (ih _ _  h12)
        · rw [if_neg c9] at h8
          refine mr_icmp_ne_t (t := 81) dX11_comes_31 (by decide) c9 ?_
          refine mr_iinc (pc' := 84) (x' := (p6 + (1 : Int32))) (lv' := [(6, .int (p6 + (1 : Int32))), (0, .ref 145), (1, .int p1), (2, .int p2), (3, .long p3), (5, .int p5)]) dX11_comes_81 rfl (by decide) rfl rfl rfl ?_
          refine mr_goto (t := 3) dX11_comes_84 (by decide) ?_
          exact mr_sub [(0, .ref 145), (1, .int p1), (2, .int p2), (3, .long p3), (5, .int p5), (6, .int (p6 + (1 : Int32)))] ⟨rfl, rfl, rfl, rfl, rfl, rfl, trivial⟩ rfl (ih _ _  h8)
      · rw [if_neg c5] at h4
        refine mr_icmp_ne_t (t := 81) dX11_comes_20 (by decide) c5 ?_
        refine mr_iinc (pc' := 84) (x' := (p6 + (1 : Int32))) (lv' := [(6, .int (p6 + (1 : Int32))), (0, .ref 145), (1, .int p1), (2, .int p2), (3, .long p3), (5, .int p5)]) dX11_comes_81 rfl (by decide) rfl rfl rfl ?_
        refine mr_goto (t := 3) dX11_comes_84 (by decide) ?_
        exact mr_sub [(0, .ref 145), (1, .int p1), (2, .int p2), (3, .long p3), (5, .int p5), (6, .int (p6 + (1 : Int32)))] ⟨rfl, rfl, rfl, rfl, rfl, rfl, trivial⟩ rfl (ih _ _  h4)
def f_X11_comes (v1 : Int32) (v2 : Int32) (v3 : Int64) (v5 : Int32) (S : fS) : Option (fS) :=
  lp_X11_comes_3 v1 v2 v3 v5 (fun S27 => if (S27.1 145 36) ≤ (4000 : Int32) then ((sI S27 164 4001 (S27.1 145 36) v1).bind fun S30 =>
  (sI S30 165 4001 (S30.1 145 36) v2).bind fun S33 =>
  (sL S33 166 4001 (S33.1 145 36) v3).bind fun S36 =>
  (sI S36 167 4001 (S36.1 145 36) v5).bind fun S39 =>
  (some (pI S39 145 36 ((S39.1 145 36) + (1 : Int32)))).bind fun S42 =>
  some S42) else
  (some S27)) FU (0 : Int32) S
set_option maxHeartbeats 4000000 in
set_option maxRecDepth 100000 in
theorem ok_X11_comes {X : mm_C} {RR : Nat → Nat → Option Nat} (hR : RRok RR) {v1 : Int32} {v2 : Int32} {v3 : Int64} {v5 : Int32}  {S : fS} {r : fS} (h : f_X11_comes v1 v2 v3 v5 S = some r) : mr X 0 mY_X11_comes 0 (lv_args 0 [.ref 145, .int v1, .int v2, .long v3, .int v5]) [] (MM RR S) (none, MM RR r) := by
  unfold f_X11_comes at h
  show mr X _ _ 0 [(0, .ref 145), (1, .int v1), (2, .int v2), (3, .long v3), (5, .int v5)] [] (MM RR S) _
  refine mr_iconst (pc' := 1) (v := (0 : Int32)) dX11_comes_0 rfl (by decide) ?_
  refine mr_istore (pc' := 3) (lv' := [(6, .int (0 : Int32)), (0, .ref 145), (1, .int v1), (2, .int v2), (3, .long v3), (5, .int v5)]) dX11_comes_1 rfl (by decide) rfl ?_
  refine mr_sub [(0, .ref 145), (1, .int v1), (2, .int v2), (3, .long v3), (5, .int v5), (6, .int (0 : Int32))] ⟨rfl, rfl, rfl, rfl, rfl, rfl, trivial⟩ rfl ?_
  refine ok_lp_X11_comes_3 hR  (fun S27 h28 => ?_) FU _ _  h
  refine mr_aload_n (pc' := 88) dX11_comes_87 rfl rfl ?_
  refine mr_getI (pc' := 91) (ci := 11) (j := 36) dX11_comes_88 rfl rfl rfl (by decide) (by decide) rfl ?_
  refine mr_sipush (pc' := 94) (v := (4000 : Int32)) dX11_comes_91 rfl (by decide) ?_
  by_cases c29 : (S27.1 145 36) ≤ (4000 : Int32)
  · rw [if_pos c29] at h28
    refine mr_icmp_le_t (t := 98) dX11_comes_94 (by decide) c29 ?_
    refine mr_aload_n (pc' := 99) dX11_comes_98 rfl rfl ?_
    refine mr_getR (pc' := 102) (ci := 11) (j := 32) (b := 164) hR dX11_comes_99 rfl rfl rfl (by decide) (by decide) (by decide) rfl rfl ?_
    refine mr_aload_n (pc' := 103) dX11_comes_102 rfl rfl ?_
    refine mr_getI (pc' := 106) (ci := 11) (j := 36) dX11_comes_103 rfl rfl rfl (by decide) (by decide) rfl ?_
    refine mr_iload_n (pc' := 107) dX11_comes_106 rfl rfl ?_
    obtain ⟨S30, g31, h32⟩ := Option.bind_eq_some_iff.mp h28
    refine mr_iast (pc' := 108) dX11_comes_107 rfl rfl rfl g31 ?_
    refine mr_aload_n (pc' := 109) dX11_comes_108 rfl rfl ?_
    refine mr_getR (pc' := 112) (ci := 11) (j := 33) (b := 165) hR dX11_comes_109 rfl rfl rfl (by decide) (by decide) (by decide) rfl rfl ?_
    refine mr_aload_n (pc' := 113) dX11_comes_112 rfl rfl ?_
    refine mr_getI (pc' := 116) (ci := 11) (j := 36) dX11_comes_113 rfl rfl rfl (by decide) (by decide) rfl ?_
    refine mr_iload_n (pc' := 117) dX11_comes_116 rfl rfl ?_
    obtain ⟨S33, g34, h35⟩ := Option.bind_eq_some_iff.mp h32
    refine mr_iast (pc' := 118) dX11_comes_117 rfl rfl rfl g34 ?_
    refine mr_aload_n (pc' := 119) dX11_comes_118 rfl rfl ?_
    refine mr_getR (pc' := 122) (ci := 11) (j := 34) (b := 166) hR dX11_comes_119 rfl rfl rfl (by decide) (by decide) (by decide) rfl rfl ?_
    refine mr_aload_n (pc' := 123) dX11_comes_122 rfl rfl ?_
    refine mr_getI (pc' := 126) (ci := 11) (j := 36) dX11_comes_123 rfl rfl rfl (by decide) (by decide) rfl ?_
    refine mr_lload_n (pc' := 127) dX11_comes_126 rfl rfl ?_
    obtain ⟨S36, g37, h38⟩ := Option.bind_eq_some_iff.mp h35
    refine mr_last (pc' := 128) dX11_comes_127 rfl rfl rfl g37 ?_
    refine mr_aload_n (pc' := 129) dX11_comes_128 rfl rfl ?_
    refine mr_getR (pc' := 132) (ci := 11) (j := 35) (b := 167) hR dX11_comes_129 rfl rfl rfl (by decide) (by decide) (by decide) rfl rfl ?_
    refine mr_aload_n (pc' := 133) dX11_comes_132 rfl rfl ?_
    refine mr_getI (pc' := 136) (ci := 11) (j := 36) dX11_comes_133 rfl rfl rfl (by decide) (by decide) rfl ?_
    refine mr_iload (pc' := 138) dX11_comes_136 rfl rfl ?_
    obtain ⟨S39, g40, h41⟩ := Option.bind_eq_some_iff.mp h38
    refine mr_iast (pc' := 139) dX11_comes_138 rfl rfl rfl g40 ?_
    refine mr_aload_n (pc' := 140) dX11_comes_139 rfl rfl ?_
    refine mr_dup_ref (pc' := 141) dX11_comes_140 rfl ?_
    refine mr_getI (pc' := 144) (ci := 11) (j := 36) dX11_comes_141 rfl rfl rfl (by decide) (by decide) rfl ?_
    refine mr_iconst (pc' := 145) (v := (1 : Int32)) dX11_comes_144 rfl (by decide) ?_
    refine mr_iadd (pc' := 146) dX11_comes_145 rfl ?_
    obtain ⟨S42, g43, h44⟩ := Option.bind_eq_some_iff.mp h41
    refine mr_putI (pc' := 149) (ci := 11) (j := 36) dX11_comes_146 rfl rfl rfl (by decide) (by decide) rfl rfl ?_
    rw [Option.some.inj g43]
    obtain rfl := Option.some.inj h44
    exact mr_return dX11_comes_149 rfl
  · rw [if_neg c29] at h28
    refine mr_icmp_le_f (t := 98) (pc' := 97) dX11_comes_94 (by decide) rfl c29 ?_
    obtain rfl := Option.some.inj h28
    exact mr_return dX11_comes_97 rfl
def lp_X11_goesOn_51 (p1 : Int32) (p2 : Int32) (p3 : Int32) (p4 : Int32) (K : fS → Option (fS)) : Nat → Int32 → fS → Option (fS)
  | 0, _, _ => none
  | n + 1, p5, S0 =>
    (gI S0 157 158 (1 : Int32)).bind fun a8 =>
    if a8 ≤ p5 then (K S0) else
    ((f_X11_stairOf p5 (2 : Int32) S0).bind fun q12 =>
    (f_X11_otherEnd p5 p4 S0).bind fun q15 =>
    if q15 < (0 : Int32) then (lp_X11_goesOn_51 p1 p2 p3 p4 K n (p5 + (1 : Int32)) S0) else
    (if p2 < (p3 + q12) then (lp_X11_goesOn_51 p1 p2 p3 p4 K n (p5 + (1 : Int32)) S0) else
    ((f_X11_otherEnd p5 p4 S0).bind fun q20 =>
    (gL S0 166 4001 p1).bind fun a23 =>
    (f_X11_stairParts p5 S0).bind fun q26 =>
    (gI S0 167 4001 p1).bind fun a29 =>
    (f_X11_comes (p3 + q12) q20 (a23 + ((Int32.toInt64 q12) * q26)) (a29 + q12) S0).bind fun q32 =>
    lp_X11_goesOn_51 p1 p2 p3 p4 K n (p5 + (1 : Int32)) q32)))
set_option maxHeartbeats 4000000 in
set_option maxRecDepth 100000 in
theorem ok_lp_X11_goesOn_51 {X : mm_C} {RR : Nat → Nat → Option Nat} (hR : RRok RR) {p1 : Int32} {p2 : Int32} {p3 : Int32} {p4 : Int32}  {K : fS → Option (fS)} {r : fS} (hK : ∀ (Sk : fS), K Sk = some r → mr X 2 mY_X11_goesOn 138 [] [] (MM RR Sk) (none, MM RR r)) : ∀ (n : Nat) (p5 : Int32) (S0 : fS), lp_X11_goesOn_51 p1 p2 p3 p4 K n p5 S0 = some r → mr X 2 mY_X11_goesOn 51 [(0, .ref 145), (1, .int p1), (2, .int p2), (3, .int p3), (4, .int p4), (5, .int p5)] [] (MM RR S0) (none, MM RR r) := by
  intro n
  induction n with
  | zero => intro p5 S0 h; exact mm_no h
  | succ n ih =>
    intro p5 S0 h
    unfold lp_X11_goesOn_51 at h
    refine mr_iload (pc' := 53) dX11_goesOn_51 rfl rfl ?_
    refine mr_aload_n (pc' := 54) dX11_goesOn_53 rfl rfl ?_
    refine mr_getR (pc' := 57) (ci := 11) (j := 25) (b := 157) hR dX11_goesOn_54 rfl rfl rfl (by decide) (by decide) (by decide) rfl rfl ?_
    refine mr_iconst (pc' := 58) (v := (1 : Int32)) dX11_goesOn_57 rfl (by decide) ?_
    obtain ⟨a8, g9, h10⟩ := Option.bind_eq_some_iff.mp h
    refine mr_iald (pc' := 59) dX11_goesOn_58 rfl rfl rfl g9 ?_
    by_cases c11 : a8 ≤ p5
    · rw [if_pos c11] at h10
      refine mr_icmp_ge_t (t := 138) dX11_goesOn_59 (by decide) c11 ?_
      exact mr_sub [] trivial rfl (hK _  h10)
    · rw [if_neg c11] at h10
      refine mr_icmp_ge_f (t := 138) (pc' := 62) dX11_goesOn_59 (by decide) rfl c11 ?_
      refine mr_aload_n (pc' := 63) dX11_goesOn_62 rfl rfl ?_
      refine mr_iload (pc' := 65) dX11_goesOn_63 rfl rfl ?_
      refine mr_iconst (pc' := 66) (v := (2 : Int32)) dX11_goesOn_65 rfl (by decide) ?_
      obtain ⟨q12, g13, h14⟩ := Option.bind_eq_some_iff.mp h10
      refine mr_cv (pc' := 69) (a := 145) (d1 := 0) dX11_goesOn_66 rfl rfl rfl rfl rfl rfl (by decide) rfl (by decide) (ok_X11_stairOf hR  g13) ?_
      show mr X _ _ 69 _ [.int q12] (MM RR S0) _
      refine mr_istore (pc' := 71) (lv' := [(6, .int q12), (0, .ref 145), (1, .int p1), (2, .int p2), (3, .int p3), (4, .int p4), (5, .int p5)]) dX11_goesOn_69 rfl (by decide) rfl ?_
      refine mr_aload_n (pc' := 72) dX11_goesOn_71 rfl rfl ?_
      refine mr_iload (pc' := 74) dX11_goesOn_72 rfl rfl ?_
      refine mr_iload (pc' := 76) dX11_goesOn_74 rfl rfl ?_
      obtain ⟨q15, g16, h17⟩ := Option.bind_eq_some_iff.mp h14
      refine mr_cv (pc' := 79) (a := 145) (d1 := 1) dX11_goesOn_76 rfl rfl rfl rfl rfl rfl (by decide) rfl (by decide) (ok_X11_otherEnd hR  g16) ?_
      show mr X _ _ 79 _ [.int q15] (MM RR S0) _
      by_cases c18 : q15 < (0 : Int32)
      · rw [if_pos c18] at h17
        refine mr_if_lt_t (t := 132) dX11_goesOn_79 (by decide) c18 ?_
        refine mr_iinc (pc' := 135) (x' := (p5 + (1 : Int32))) (lv' := [(5, .int (p5 + (1 : Int32))), (6, .int q12), (0, .ref 145), (1, .int p1), (2, .int p2), (3, .int p3), (4, .int p4)]) dX11_goesOn_132 rfl (by decide) rfl rfl rfl ?_
        refine mr_goto (t := 51) dX11_goesOn_135 (by decide) ?_
        exact mr_sub [(0, .ref 145), (1, .int p1), (2, .int p2), (3, .int p3), (4, .int p4), (5, .int (p5 + (1 : Int32)))] ⟨rfl, rfl, rfl, rfl, rfl, rfl, trivial⟩ rfl (ih _ _  h17)
      · rw [if_neg c18] at h17
        refine mr_if_lt_f (t := 132) (pc' := 82) dX11_goesOn_79 (by decide) rfl c18 ?_
        refine mr_iload_n (pc' := 83) dX11_goesOn_82 rfl rfl ?_
        refine mr_iload (pc' := 85) dX11_goesOn_83 rfl rfl ?_
        refine mr_iadd (pc' := 86) dX11_goesOn_85 rfl ?_
        refine mr_iload_n (pc' := 87) dX11_goesOn_86 rfl rfl ?_
        by_cases c19 : p2 < (p3 + q12)
        · rw [if_pos c19] at h17
          refine mr_icmp_gt_t (t := 132) dX11_goesOn_87 (by decide) c19 ?_
          refine mr_iinc (pc' := 135) (x' := (p5 + (1 : Int32))) (lv' := [(5, .int (p5 + (1 : Int32))), (6, .int q12), (0, .ref 145), (1, .int p1), (2, .int p2), (3, .int p3), (4, .int p4)]) dX11_goesOn_132 rfl (by decide) rfl rfl rfl ?_
          refine mr_goto (t := 51) dX11_goesOn_135 (by decide) ?_
          exact mr_sub [(0, .ref 145), (1, .int p1), (2, .int p2), (3, .int p3), (4, .int p4), (5, .int (p5 + (1 : Int32)))] ⟨rfl, rfl, rfl, rfl, rfl, rfl, trivial⟩ rfl (ih _ _  h17)
        · rw [if_neg c19] at h17
          refine mr_icmp_gt_f (t := 132) (pc' := 90) dX11_goesOn_87 (by decide) rfl c19 ?_
          refine mr_aload_n (pc' := 91) dX11_goesOn_90 rfl rfl ?_
          refine mr_iload_n (pc' := 92) dX11_goesOn_91 rfl rfl ?_
          refine mr_iload (pc' := 94) dX11_goesOn_92 rfl rfl ?_
          refine mr_iadd (pc' := 95) dX11_goesOn_94 rfl ?_
          refine mr_aload_n (pc' := 96) dX11_goesOn_95 rfl rfl ?_
          refine mr_iload (pc' := 98) dX11_goesOn_96 rfl rfl ?_
          refine mr_iload (pc' := 100) dX11_goesOn_98 rfl rfl ?_
          obtain ⟨q20, g21, h22⟩ := Option.bind_eq_some_iff.mp h17
          refine mr_cv (pc' := 103) (a := 145) (d1 := 1) dX11_goesOn_100 rfl rfl rfl rfl rfl rfl (by decide) rfl (by decide) (ok_X11_otherEnd hR  g21) ?_
          show mr X _ _ 103 _ [.int q20, .int (p3 + q12), .ref 145] (MM RR S0) _
          refine mr_aload_n (pc' := 104) dX11_goesOn_103 rfl rfl ?_
          refine mr_getR (pc' := 107) (ci := 11) (j := 34) (b := 166) hR dX11_goesOn_104 rfl rfl rfl (by decide) (by decide) (by decide) rfl rfl ?_
          refine mr_iload_n (pc' := 108) dX11_goesOn_107 rfl rfl ?_
          obtain ⟨a23, g24, h25⟩ := Option.bind_eq_some_iff.mp h22
          refine mr_lald (pc' := 109) dX11_goesOn_108 rfl rfl rfl g24 ?_
          refine mr_iload (pc' := 111) dX11_goesOn_109 rfl rfl ?_
          refine mr_i2l (pc' := 112) dX11_goesOn_111 rfl ?_
          refine mr_aload_n (pc' := 113) dX11_goesOn_112 rfl rfl ?_
          refine mr_iload (pc' := 115) dX11_goesOn_113 rfl rfl ?_
          obtain ⟨q26, g27, h28⟩ := Option.bind_eq_some_iff.mp h25
          refine mr_cv (pc' := 118) (a := 145) (d1 := 1) dX11_goesOn_115 rfl rfl rfl rfl rfl rfl (by decide) rfl (by decide) (ok_X11_stairParts hR  g27) ?_
          show mr X _ _ 118 _ [.long q26, .long (Int32.toInt64 q12), .long a23, .int q20, .int (p3 + q12), .ref 145] (MM RR S0) _
          refine mr_lmul (pc' := 119) dX11_goesOn_118 rfl ?_
          refine mr_ladd (pc' := 120) dX11_goesOn_119 rfl ?_
          refine mr_aload_n (pc' := 121) dX11_goesOn_120 rfl rfl ?_
          refine mr_getR (pc' := 124) (ci := 11) (j := 35) (b := 167) hR dX11_goesOn_121 rfl rfl rfl (by decide) (by decide) (by decide) rfl rfl ?_
          refine mr_iload_n (pc' := 125) dX11_goesOn_124 rfl rfl ?_
          obtain ⟨a29, g30, h31⟩ := Option.bind_eq_some_iff.mp h28
          refine mr_iald (pc' := 126) dX11_goesOn_125 rfl rfl rfl g30 ?_
          refine mr_iload (pc' := 128) dX11_goesOn_126 rfl rfl ?_
          refine mr_iadd (pc' := 129) dX11_goesOn_128 rfl ?_
          obtain ⟨q32, g33, h34⟩ := Option.bind_eq_some_iff.mp h31
          refine mr_cv (pc' := 132) (a := 145) (d1 := 0) dX11_goesOn_129 rfl rfl rfl rfl rfl rfl (by decide) rfl (by decide) (ok_X11_comes hR  g33) ?_
          show mr X _ _ 132 _ [] (MM RR q32) _
          refine mr_iinc (pc' := 135) (x' := (p5 + (1 : Int32))) (lv' := [(5, .int (p5 + (1 : Int32))), (6, .int q12), (0, .ref 145), (1, .int p1), (2, .int p2), (3, .int p3), (4, .int p4)]) dX11_goesOn_132 rfl (by decide) rfl rfl rfl ?_
          refine mr_goto (t := 51) dX11_goesOn_135 (by decide) ?_
          exact mr_sub [(0, .ref 145), (1, .int p1), (2, .int p2), (3, .int p3), (4, .int p4), (5, .int (p5 + (1 : Int32)))] ⟨rfl, rfl, rfl, rfl, rfl, rfl, trivial⟩ rfl (ih _ _  h34)
def f_X11_goesOn (v1 : Int32) (v2 : Int32) (S : fS) : Option (fS) :=
  (gI S 164 4001 v1).bind fun a1 =>
  (gI S 165 4001 v1).bind fun a4 =>
  if v2 ≤ a1 then (lp_X11_goesOn_51 v1 v2 a1 a4 (fun S35 => some S35) FU (0 : Int32) S) else
  ((gL S 166 4001 v1).bind fun a37 =>
  (f_X11_floorParts a4 S).bind fun q40 =>
  (gI S 167 4001 v1).bind fun a43 =>
  (f_X11_comes (a1 + (1 : Int32)) a4 (a37 + q40) a43 S).bind fun q46 =>
  lp_X11_goesOn_51 v1 v2 a1 a4 (fun S49 => some S49) FU (0 : Int32) q46)
set_option maxHeartbeats 4000000 in
set_option maxRecDepth 100000 in
theorem ok_X11_goesOn {X : mm_C} {RR : Nat → Nat → Option Nat} (hR : RRok RR) {v1 : Int32} {v2 : Int32}  {S : fS} {r : fS} (h : f_X11_goesOn v1 v2 S = some r) : mr X 2 mY_X11_goesOn 0 (lv_args 0 [.ref 145, .int v1, .int v2]) [] (MM RR S) (none, MM RR r) := by
  unfold f_X11_goesOn at h
  show mr X _ _ 0 [(0, .ref 145), (1, .int v1), (2, .int v2)] [] (MM RR S) _
  refine mr_aload_n (pc' := 1) dX11_goesOn_0 rfl rfl ?_
  refine mr_getR (pc' := 4) (ci := 11) (j := 32) (b := 164) hR dX11_goesOn_1 rfl rfl rfl (by decide) (by decide) (by decide) rfl rfl ?_
  refine mr_iload_n (pc' := 5) dX11_goesOn_4 rfl rfl ?_
  obtain ⟨a1, g2, h3⟩ := Option.bind_eq_some_iff.mp h
  refine mr_iald (pc' := 6) dX11_goesOn_5 rfl rfl rfl g2 ?_
  refine mr_istore_n (pc' := 7) (lv' := [(3, .int a1), (0, .ref 145), (1, .int v1), (2, .int v2)]) dX11_goesOn_6 rfl (by decide) rfl ?_
  refine mr_aload_n (pc' := 8) dX11_goesOn_7 rfl rfl ?_
  refine mr_getR (pc' := 11) (ci := 11) (j := 33) (b := 165) hR dX11_goesOn_8 rfl rfl rfl (by decide) (by decide) (by decide) rfl rfl ?_
  refine mr_iload_n (pc' := 12) dX11_goesOn_11 rfl rfl ?_
  obtain ⟨a4, g5, h6⟩ := Option.bind_eq_some_iff.mp h3
  refine mr_iald (pc' := 13) dX11_goesOn_12 rfl rfl rfl g5 ?_
  refine mr_istore (pc' := 15) (lv' := [(4, .int a4), (3, .int a1), (0, .ref 145), (1, .int v1), (2, .int v2)]) dX11_goesOn_13 rfl (by decide) rfl ?_
  refine mr_iload_n (pc' := 16) dX11_goesOn_15 rfl rfl ?_
  refine mr_iload_n (pc' := 17) dX11_goesOn_16 rfl rfl ?_
  by_cases c7 : v2 ≤ a1
  · rw [if_pos c7] at h6
    refine mr_icmp_ge_t (t := 48) dX11_goesOn_17 (by decide) c7 ?_
    refine mr_iconst (pc' := 49) (v := (0 : Int32)) dX11_goesOn_48 rfl (by decide) ?_
    refine mr_istore (pc' := 51) (lv' := [(5, .int (0 : Int32)), (4, .int a4), (3, .int a1), (0, .ref 145), (1, .int v1), (2, .int v2)]) dX11_goesOn_49 rfl (by decide) rfl ?_
    refine mr_sub [(0, .ref 145), (1, .int v1), (2, .int v2), (3, .int a1), (4, .int a4), (5, .int (0 : Int32))] ⟨rfl, rfl, rfl, rfl, rfl, rfl, trivial⟩ rfl ?_
    refine ok_lp_X11_goesOn_51 hR  (fun S35 h36 => ?_) FU _ _  h6
    obtain rfl := Option.some.inj h36
    exact mr_return dX11_goesOn_138 rfl
  · rw [if_neg c7] at h6
    refine mr_icmp_ge_f (t := 48) (pc' := 20) dX11_goesOn_17 (by decide) rfl c7 ?_
    refine mr_aload_n (pc' := 21) dX11_goesOn_20 rfl rfl ?_
    refine mr_iload_n (pc' := 22) dX11_goesOn_21 rfl rfl ?_
    refine mr_iconst (pc' := 23) (v := (1 : Int32)) dX11_goesOn_22 rfl (by decide) ?_
    refine mr_iadd (pc' := 24) dX11_goesOn_23 rfl ?_
    refine mr_iload (pc' := 26) dX11_goesOn_24 rfl rfl ?_
    refine mr_aload_n (pc' := 27) dX11_goesOn_26 rfl rfl ?_
    refine mr_getR (pc' := 30) (ci := 11) (j := 34) (b := 166) hR dX11_goesOn_27 rfl rfl rfl (by decide) (by decide) (by decide) rfl rfl ?_
    refine mr_iload_n (pc' := 31) dX11_goesOn_30 rfl rfl ?_
    obtain ⟨a37, g38, h39⟩ := Option.bind_eq_some_iff.mp h6
    refine mr_lald (pc' := 32) dX11_goesOn_31 rfl rfl rfl g38 ?_
    refine mr_aload_n (pc' := 33) dX11_goesOn_32 rfl rfl ?_
    refine mr_iload (pc' := 35) dX11_goesOn_33 rfl rfl ?_
    obtain ⟨q40, g41, h42⟩ := Option.bind_eq_some_iff.mp h39
    refine mr_cv (pc' := 38) (a := 145) (d1 := 0) dX11_goesOn_35 rfl rfl rfl rfl rfl rfl (by decide) rfl (by decide) (ok_X11_floorParts hR  g41) ?_
    show mr X _ _ 38 _ [.long q40, .long a37, .int a4, .int (a1 + (1 : Int32)), .ref 145] (MM RR S) _
    refine mr_ladd (pc' := 39) dX11_goesOn_38 rfl ?_
    refine mr_aload_n (pc' := 40) dX11_goesOn_39 rfl rfl ?_
    refine mr_getR (pc' := 43) (ci := 11) (j := 35) (b := 167) hR dX11_goesOn_40 rfl rfl rfl (by decide) (by decide) (by decide) rfl rfl ?_
    refine mr_iload_n (pc' := 44) dX11_goesOn_43 rfl rfl ?_
    obtain ⟨a43, g44, h45⟩ := Option.bind_eq_some_iff.mp h42
    refine mr_iald (pc' := 45) dX11_goesOn_44 rfl rfl rfl g44 ?_
    obtain ⟨q46, g47, h48⟩ := Option.bind_eq_some_iff.mp h45
    refine mr_cv (pc' := 48) (a := 145) (d1 := 0) dX11_goesOn_45 rfl rfl rfl rfl rfl rfl (by decide) rfl (by decide) (ok_X11_comes hR  g47) ?_
    show mr X _ _ 48 _ [] (MM RR q46) _
    refine mr_iconst (pc' := 49) (v := (0 : Int32)) dX11_goesOn_48 rfl (by decide) ?_
    refine mr_istore (pc' := 51) (lv' := [(5, .int (0 : Int32)), (4, .int a4), (3, .int a1), (0, .ref 145), (1, .int v1), (2, .int v2)]) dX11_goesOn_49 rfl (by decide) rfl ?_
    refine mr_sub [(0, .ref 145), (1, .int v1), (2, .int v2), (3, .int a1), (4, .int a4), (5, .int (0 : Int32))] ⟨rfl, rfl, rfl, rfl, rfl, rfl, trivial⟩ rfl ?_
    refine ok_lp_X11_goesOn_51 hR  (fun S49 h50 => ?_) FU _ _  h48
    obtain rfl := Option.some.inj h50
    exact mr_return dX11_goesOn_138 rfl
