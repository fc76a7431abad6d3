def lp_X11_putsBack_2  (K : fS → Option (fS)) : Nat → Int32 → fS → Option (fS)
  | 0, _, _ => none
  | n + 1, p1, S0 =>
    if (158 : Int32) ≤ p1 then (K S0) else
    ((gI S0 159 158 p1).bind fun a2 =>
    (sI S0 157 158 p1 a2).bind fun S5 =>
    lp_X11_putsBack_2  K n (p1 + (1 : Int32)) S5)
set_option maxHeartbeats 4000000 in
set_option maxRecDepth 100000 in
theorem ok_lp_X11_putsBack_2 {X : mm_C} {RR : Nat → Nat → Option Nat} (hR : RRok RR)   {K : fS → Option (fS)} {r : fS} (hK : ∀ (Sk : fS), K Sk = some r → mr X 0 mY_X11_putsBack 27 [(0, .ref 145)] [] (MM RR Sk) (none, MM RR r)) : ∀ (n : Nat) (p1 : Int32) (S0 : fS), lp_X11_putsBack_2  K n p1 S0 = some r → mr X 0 mY_X11_putsBack 2 [(0, .ref 145), (1, .int p1)] [] (MM RR S0) (none, MM RR r) := by
  intro n
  induction n with
  | zero => intro p1 S0 h; exact mm_no h
  | succ n ih =>
    intro p1 S0 h
    unfold lp_X11_putsBack_2 at h
    refine mr_iload_n (pc' := 3) dX11_putsBack_2 rfl rfl ?_
    refine mr_sipush (pc' := 6) (v := (158 : Int32)) dX11_putsBack_3 rfl (by decide) ?_
    by_cases c1 : (158 : Int32) ≤ p1
    · rw [if_pos c1] at h
      refine mr_icmp_ge_t (t := 27) dX11_putsBack_6 (by decide) c1 ?_
      exact mr_sub [(0, .ref 145)] ⟨rfl, trivial⟩ rfl (hK _  h)
    · rw [if_neg c1] at h
      refine mr_icmp_ge_f (t := 27) (pc' := 9) dX11_putsBack_6 (by decide) rfl c1 ?_
      refine mr_aload_n (pc' := 10) dX11_putsBack_9 rfl rfl ?_
      refine mr_getR (pc' := 13) (ci := 11) (j := 25) (b := 157) hR dX11_putsBack_10 rfl rfl rfl (by decide) (by decide) (by decide) rfl rfl ?_
      refine mr_iload_n (pc' := 14) dX11_putsBack_13 rfl rfl ?_
      refine mr_aload_n (pc' := 15) dX11_putsBack_14 rfl rfl ?_
      refine mr_getR (pc' := 18) (ci := 11) (j := 27) (b := 159) hR dX11_putsBack_15 rfl rfl rfl (by decide) (by decide) (by decide) rfl rfl ?_
      refine mr_iload_n (pc' := 19) dX11_putsBack_18 rfl rfl ?_
      obtain ⟨a2, g3, h4⟩ := Option.bind_eq_some_iff.mp h
      refine mr_iald (pc' := 20) dX11_putsBack_19 rfl rfl rfl g3 ?_
      obtain ⟨S5, g6, h7⟩ := Option.bind_eq_some_iff.mp h4
      refine mr_iast (pc' := 21) dX11_putsBack_20 rfl rfl rfl g6 ?_
      refine mr_iinc (pc' := 24) (x' := (p1 + (1 : Int32))) (lv' := [(1, .int (p1 + (1 : Int32))), (0, .ref 145)]) dX11_putsBack_21 rfl (by decide) rfl rfl rfl ?_
      refine mr_goto (t := 2) dX11_putsBack_24 (by decide) ?_
      exact mr_sub [(0, .ref 145), (1, .int (p1 + (1 : Int32)))] ⟨rfl, rfl, trivial⟩ rfl (ih _ _  h7)
def lp_X11_putsBack_29  (K : fS → Option (fS)) : Nat → Int32 → fS → Option (fS)
  | 0, _, _ => none
  | n + 1, p1, S0 =>
    if (8 : Int32) ≤ p1 then (K S0) else
    ((gL S0 160 8 p1).bind fun a11 =>
    (sL S0 158 8 p1 a11).bind fun S14 =>
    lp_X11_putsBack_29  K n (p1 + (1 : Int32)) S14)
set_option maxHeartbeats 4000000 in
set_option maxRecDepth 100000 in
theorem ok_lp_X11_putsBack_29 {X : mm_C} {RR : Nat → Nat → Option Nat} (hR : RRok RR)   {K : fS → Option (fS)} {r : fS} (hK : ∀ (Sk : fS), K Sk = some r → mr X 0 mY_X11_putsBack 53 [] [] (MM RR Sk) (none, MM RR r)) : ∀ (n : Nat) (p1 : Int32) (S0 : fS), lp_X11_putsBack_29  K n p1 S0 = some r → mr X 0 mY_X11_putsBack 29 [(0, .ref 145), (1, .int p1)] [] (MM RR S0) (none, MM RR r) := by
  intro n
  induction n with
  | zero => intro p1 S0 h; exact mm_no h
  | succ n ih =>
    intro p1 S0 h
    unfold lp_X11_putsBack_29 at h
    refine mr_iload_n (pc' := 30) dX11_putsBack_29 rfl rfl ?_
    refine mr_bipush (pc' := 32) (v := (8 : Int32)) dX11_putsBack_30 rfl (by decide) ?_
    by_cases c10 : (8 : Int32) ≤ p1
    · rw [if_pos c10] at h
      refine mr_icmp_ge_t (t := 53) dX11_putsBack_32 (by decide) c10 ?_
      exact mr_sub [] trivial rfl (hK _  h)
    · rw [if_neg c10] at h
      refine mr_icmp_ge_f (t := 53) (pc' := 35) dX11_putsBack_32 (by decide) rfl c10 ?_
      refine mr_aload_n (pc' := 36) dX11_putsBack_35 rfl rfl ?_
      refine mr_getR (pc' := 39) (ci := 11) (j := 26) (b := 158) hR dX11_putsBack_36 rfl rfl rfl (by decide) (by decide) (by decide) rfl rfl ?_
      refine mr_iload_n (pc' := 40) dX11_putsBack_39 rfl rfl ?_
      refine mr_aload_n (pc' := 41) dX11_putsBack_40 rfl rfl ?_
      refine mr_getR (pc' := 44) (ci := 11) (j := 28) (b := 160) hR dX11_putsBack_41 rfl rfl rfl (by decide) (by decide) (by decide) rfl rfl ?_
      refine mr_iload_n (pc' := 45) dX11_putsBack_44 rfl rfl ?_
      obtain ⟨a11, g12, h13⟩ := Option.bind_eq_some_iff.mp h
      refine mr_lald (pc' := 46) dX11_putsBack_45 rfl rfl rfl g12 ?_
      obtain ⟨S14, g15, h16⟩ := Option.bind_eq_some_iff.mp h13
      refine mr_last (pc' := 47) dX11_putsBack_46 rfl rfl rfl g15 ?_
      refine mr_iinc (pc' := 50) (x' := (p1 + (1 : Int32))) (lv' := [(1, .int (p1 + (1 : Int32))), (0, .ref 145)]) dX11_putsBack_47 rfl (by decide) rfl rfl rfl ?_
      refine mr_goto (t := 29) dX11_putsBack_50 (by decide) ?_
      exact mr_sub [(0, .ref 145), (1, .int (p1 + (1 : Int32)))] ⟨rfl, rfl, trivial⟩ rfl (ih _ _  h16)
def f_X11_putsBack  (S : fS) : Option (fS) :=
  lp_X11_putsBack_2  (fun S8 => lp_X11_putsBack_29  (fun S17 => some S17) FU (0 : Int32) S8) FU (0 : Int32) S
set_option maxHeartbeats 4000000 in
set_option maxRecDepth 100000 in
theorem ok_X11_putsBack {X : mm_C} {RR : Nat → Nat → Option Nat} (hR : RRok RR)   {S : fS} {r : fS} (h : f_X11_putsBack  S = some r) : mr X 0 mY_X11_putsBack 0 (lv_args 0 [.ref 145]) [] (MM RR S) (none, MM RR r) := by
  unfold f_X11_putsBack at h
  show mr X _ _ 0 [(0, .ref 145)] [] (MM RR S) _
  refine mr_iconst (pc' := 1) (v := (0 : Int32)) dX11_putsBack_0 rfl (by decide) ?_
  refine mr_istore_n (pc' := 2) (lv' := [(1, .int (0 : Int32)), (0, .ref 145)]) dX11_putsBack_1 rfl (by decide) rfl ?_
  refine mr_sub [(0, .ref 145), (1, .int (0 : Int32))] ⟨rfl, rfl, trivial⟩ rfl ?_
  refine ok_lp_X11_putsBack_2 hR  (fun S8 h9 => ?_) FU _ _  h
  refine mr_iconst (pc' := 28) (v := (0 : Int32)) dX11_putsBack_27 rfl (by decide) ?_
  refine mr_istore_n (pc' := 29) (lv' := [(1, .int (0 : Int32)), (0, .ref 145)]) dX11_putsBack_28 rfl (by decide) rfl ?_
  refine mr_sub [(0, .ref 145), (1, .int (0 : Int32))] ⟨rfl, rfl, trivial⟩ rfl ?_
  refine ok_lp_X11_putsBack_29 hR  (fun S17 h18 => ?_) FU _ _  h9
  obtain rfl := Option.some.inj h18
  exact mr_return dX11_putsBack_53 rfl
def lp_X11_ahead_52 (p1 : Int32) (p2 : Int32) (p3 : Int32) (p4 : Int32) (K : fS → Option (Int64 × fS)) : Nat → Int32 → fS → Option (Int64 × fS)
  | 0, _, _ => none
  | n + 1, p5, S0 =>
    if p2 ≤ p5 then (K S0) else
    ((f_X11_hour p1 S0).bind fun q21 =>
    lp_X11_ahead_52 p1 p2 p3 p4 K n (p5 + (1 : Int32)) q21)
set_option maxHeartbeats 4000000 in
set_option maxRecDepth 100000 in
theorem ok_lp_X11_ahead_52 {X : mm_C} {RR : Nat → Nat → Option Nat} (hR : RRok RR) {p1 : Int32} {p2 : Int32} {p3 : Int32} {p4 : Int32}  {K : fS → Option (Int64 × fS)} {r : Int64 × fS} (hK : ∀ (Sk : fS), K Sk = some r → mr X 5 mY_X11_ahead 69 [(0, .ref 145), (3, .int p3), (4, .int p4)] [] (MM RR Sk) (some (.long r.1), MM RR r.2)) : ∀ (n : Nat) (p5 : Int32) (S0 : fS), lp_X11_ahead_52 p1 p2 p3 p4 K n p5 S0 = some r → mr X 5 mY_X11_ahead 52 [(0, .ref 145), (1, .int p1), (2, .int p2), (3, .int p3), (4, .int p4), (5, .int p5)] [] (MM RR S0) (some (.long r.1), MM RR r.2) := by
  intro n
  induction n with
  | zero => intro p5 S0 h; exact mm_no h
  | succ n ih =>
    intro p5 S0 h
    unfold lp_X11_ahead_52 at h
    refine mr_iload (pc' := 54) dX11_ahead_52 rfl rfl ?_
    refine mr_iload_n (pc' := 55) dX11_ahead_54 rfl rfl ?_
    by_cases c20 : p2 ≤ p5
    · rw [if_pos c20] at h
      refine mr_icmp_ge_t (t := 69) dX11_ahead_55 (by decide) c20 ?_
      exact mr_sub [(0, .ref 145), (3, .int p3), (4, .int p4)] ⟨rfl, rfl, rfl, trivial⟩ rfl (hK _  h)
    · rw [if_neg c20] at h
      refine mr_icmp_ge_f (t := 69) (pc' := 58) dX11_ahead_55 (by decide) rfl c20 ?_
      refine mr_aload_n (pc' := 59) dX11_ahead_58 rfl rfl ?_
      refine mr_iload_n (pc' := 60) dX11_ahead_59 rfl rfl ?_
      obtain ⟨q21, g22, h23⟩ := Option.bind_eq_some_iff.mp h
      refine mr_cv (pc' := 63) (a := 145) (d1 := 4) dX11_ahead_60 rfl rfl rfl rfl rfl rfl (by decide) rfl (by decide) (ok_X11_hour hR  g22) ?_
      show mr X _ _ 63 _ [] (MM RR q21) _
      refine mr_iinc (pc' := 66) (x' := (p5 + (1 : Int32))) (lv' := [(5, .int (p5 + (1 : Int32))), (0, .ref 145), (1, .int p1), (2, .int p2), (3, .int p3), (4, .int p4)]) dX11_ahead_63 rfl (by decide) rfl rfl rfl ?_
      refine mr_goto (t := 52) dX11_ahead_66 (by decide) ?_
      exact mr_sub [(0, .ref 145), (1, .int p1), (2, .int p2), (3, .int p3), (4, .int p4), (5, .int (p5 + (1 : Int32)))] ⟨rfl, rfl, rfl, rfl, rfl, rfl, trivial⟩ rfl (ih _ _  h23)
def lp_X11_ahead_81  (K : Int64 → fS → Option (Int64 × fS)) : Nat → Int64 → Int32 → fS → Option (Int64 × fS)
  | 0, _, _, _ => none
  | n + 1, p5, p7, S0 =>
    (gI S0 157 158 (2 : Int32)).bind fun a50 =>
    if a50 ≤ p7 then (K p5 S0) else
    ((f_X11_thingOf p7 (0 : Int32) S0).bind fun q54 =>
    if q54 < (0 : Int32) then (lp_X11_ahead_81  K n (p5 + (0 : Int64)) (p7 + (1 : Int32)) S0) else
    ((f_X11_thingOf p7 (0 : Int32) S0).bind fun q58 =>
    (f_X11_standing q58 S0).bind fun q61 =>
    if q61 ≤ (1 : Int32) then (lp_X11_ahead_81  K n (p5 + (0 : Int64)) (p7 + (1 : Int32)) S0) else
    (lp_X11_ahead_81  K n (p5 + (1 : Int64)) (p7 + (1 : Int32)) S0)))
set_option maxHeartbeats 4000000 in
set_option maxRecDepth 100000 in
theorem ok_lp_X11_ahead_81 {X : mm_C} {RR : Nat → Nat → Option Nat} (hR : RRok RR)   {K : Int64 → fS → Option (Int64 × fS)} {r : Int64 × fS} (hK : ∀ (k5 : Int64) (Sk : fS), K k5 Sk = some r → mr X 5 mY_X11_ahead 133 [(0, .ref 145), (5, .long k5)] [] (MM RR Sk) (some (.long r.1), MM RR r.2)) : ∀ (n : Nat) (p5 : Int64) (p7 : Int32) (S0 : fS), lp_X11_ahead_81  K n p5 p7 S0 = some r → mr X 5 mY_X11_ahead 81 [(0, .ref 145), (5, .long p5), (7, .int p7)] [] (MM RR S0) (some (.long r.1), MM RR r.2) := by
  intro n
  induction n with
  | zero => intro p5 p7 S0 h; exact mm_no h
  | succ n ih =>
    intro p5 p7 S0 h
    unfold lp_X11_ahead_81 at h
    refine mr_iload (pc' := 83) dX11_ahead_81 rfl rfl ?_
    refine mr_aload_n (pc' := 84) dX11_ahead_83 rfl rfl ?_
    refine mr_getR (pc' := 87) (ci := 11) (j := 25) (b := 157) hR dX11_ahead_84 rfl rfl rfl (by decide) (by decide) (by decide) rfl rfl ?_
    refine mr_iconst (pc' := 88) (v := (2 : Int32)) dX11_ahead_87 rfl (by decide) ?_
    obtain ⟨a50, g51, h52⟩ := Option.bind_eq_some_iff.mp h
    refine mr_iald (pc' := 89) dX11_ahead_88 rfl rfl rfl g51 ?_
    by_cases c53 : a50 ≤ p7
    · rw [if_pos c53] at h52
      refine mr_icmp_ge_t (t := 133) dX11_ahead_89 (by decide) c53 ?_
      exact mr_sub [(0, .ref 145), (5, .long p5)] ⟨rfl, rfl, trivial⟩ rfl (hK _ _  h52)
    · rw [if_neg c53] at h52
      refine mr_icmp_ge_f (t := 133) (pc' := 92) dX11_ahead_89 (by decide) rfl c53 ?_
      refine mr_lload (pc' := 94) dX11_ahead_92 rfl rfl ?_
      refine mr_aload_n (pc' := 95) dX11_ahead_94 rfl rfl ?_
      refine mr_iload (pc' := 97) dX11_ahead_95 rfl rfl ?_
      refine mr_iconst (pc' := 98) (v := (0 : Int32)) dX11_ahead_97 rfl (by decide) ?_
      obtain ⟨q54, g55, h56⟩ := Option.bind_eq_some_iff.mp h52
      refine mr_cv (pc' := 101) (a := 145) (d1 := 0) dX11_ahead_98 rfl rfl rfl rfl rfl rfl (by decide) rfl (by decide) (ok_X11_thingOf hR  g55) ?_
      show mr X _ _ 101 _ [.int q54, .long p5] (MM RR S0) _
      by_cases c57 : q54 < (0 : Int32)
      · rw [if_pos c57] at h56
        refine mr_if_lt_t (t := 123) dX11_ahead_101 (by decide) c57 ?_
        refine mr_lconst (pc' := 124) (v := (0 : Int64)) dX11_ahead_123 rfl (by decide) ?_
        refine mr_ladd (pc' := 125) dX11_ahead_124 rfl ?_
        refine mr_lstore (pc' := 127) (lv' := [(5, .long (p5 + (0 : Int64))), (0, .ref 145), (7, .int p7)]) dX11_ahead_125 rfl (by decide) rfl ?_
        refine mr_iinc (pc' := 130) (x' := (p7 + (1 : Int32))) (lv' := [(7, .int (p7 + (1 : Int32))), (5, .long (p5 + (0 : Int64))), (0, .ref 145)]) dX11_ahead_127 rfl (by decide) rfl rfl rfl ?_
        refine mr_goto (t := 81) dX11_ahead_130 (by decide) ?_
        exact mr_sub [(0, .ref 145), (5, .long (p5 + (0 : Int64))), (7, .int (p7 + (1 : Int32)))] ⟨rfl, rfl, rfl, trivial⟩ rfl (ih _ _ _  h56)
      · rw [if_neg c57] at h56
        refine mr_if_lt_f (t := 123) (pc' := 104) dX11_ahead_101 (by decide) rfl c57 ?_
        refine mr_aload_n (pc' := 105) dX11_ahead_104 rfl rfl ?_
        refine mr_aload_n (pc' := 106) dX11_ahead_105 rfl rfl ?_
        refine mr_iload (pc' := 108) dX11_ahead_106 rfl rfl ?_
        refine mr_iconst (pc' := 109) (v := (0 : Int32)) dX11_ahead_108 rfl (by decide) ?_
        obtain ⟨q58, g59, h60⟩ := Option.bind_eq_some_iff.mp h56
        refine mr_cv (pc' := 112) (a := 145) (d1 := 0) dX11_ahead_109 rfl rfl rfl rfl rfl rfl (by decide) rfl (by decide) (ok_X11_thingOf hR  g59) ?_
        show mr X _ _ 112 _ [.int q58, .ref 145, .long p5] (MM RR S0) _
        obtain ⟨q61, g62, h63⟩ := Option.bind_eq_some_iff.mp h60
        refine mr_cv (pc' := 115) (a := 145) (d1 := 1) dX11_ahead_112 rfl rfl rfl rfl rfl rfl (by decide) rfl (by decide) (ok_X11_standing hR  g62) ?_
        show mr X _ _ 115 _ [.int q61, .long p5] (MM RR S0) _
        refine mr_iconst (pc' := 116) (v := (1 : Int32)) dX11_ahead_115 rfl (by decide) ?_
        by_cases c64 : q61 ≤ (1 : Int32)
        · rw [if_pos c64] at h63
          refine mr_icmp_le_t (t := 123) dX11_ahead_116 (by decide) c64 ?_
          refine mr_lconst (pc' := 124) (v := (0 : Int64)) dX11_ahead_123 rfl (by decide) ?_
          refine mr_ladd (pc' := 125) dX11_ahead_124 rfl ?_
          refine mr_lstore (pc' := 127) (lv' := [(5, .long (p5 + (0 : Int64))), (0, .ref 145), (7, .int p7)]) dX11_ahead_125 rfl (by decide) rfl ?_
          refine mr_iinc (pc' := 130) (x' := (p7 + (1 : Int32))) (lv' := [(7, .int (p7 + (1 : Int32))), (5, .long (p5 + (0 : Int64))), (0, .ref 145)]) dX11_ahead_127 rfl (by decide) rfl rfl rfl ?_
          refine mr_goto (t := 81) dX11_ahead_130 (by decide) ?_
          exact mr_sub [(0, .ref 145), (5, .long (p5 + (0 : Int64))), (7, .int (p7 + (1 : Int32)))] ⟨rfl, rfl, rfl, trivial⟩ rfl (ih _ _ _  h63)
        · rw [if_neg c64] at h63
          refine mr_icmp_le_f (t := 123) (pc' := 119) dX11_ahead_116 (by decide) rfl c64 ?_
          refine mr_lconst (pc' := 120) (v := (1 : Int64)) dX11_ahead_119 rfl (by decide) ?_
          refine mr_goto (t := 124) dX11_ahead_120 (by decide) ?_
          refine mr_ladd (pc' := 125) dX11_ahead_124 rfl ?_
          refine mr_lstore (pc' := 127) (lv' := [(5, .long (p5 + (1 : Int64))), (0, .ref 145), (7, .int p7)]) dX11_ahead_125 rfl (by decide) rfl ?_
          refine mr_iinc (pc' := 130) (x' := (p7 + (1 : Int32))) (lv' := [(7, .int (p7 + (1 : Int32))), (5, .long (p5 + (1 : Int64))), (0, .ref 145)]) dX11_ahead_127 rfl (by decide) rfl rfl rfl ?_
          refine mr_goto (t := 81) dX11_ahead_130 (by decide) ?_
          exact mr_sub [(0, .ref 145), (5, .long (p5 + (1 : Int64))), (7, .int (p7 + (1 : Int32)))] ⟨rfl, rfl, rfl, trivial⟩ rfl (ih _ _ _  h63)
def f_X11_ahead (v1 : Int32) (v2 : Int32) (v3 : Int32) (v4 : Int32) (S : fS) : Option (Int64 × fS) :=
  (f_X11_isRule v1 S).bind fun q1 =>
  if q1 = (0 : Int32) then (some ((-1 : Int64), S)) else
  ((f_X11_in (Int32.toInt64 v2) (0 : Int64) (200 : Int64) S).bind fun q5 =>
  if q5 = (0 : Int32) then (some ((-1 : Int64), S)) else
  ((f_X11_in (Int32.toInt64 v4) (0 : Int64) (3 : Int64) S).bind fun q9 =>
  if q9 = (0 : Int32) then (some ((-1 : Int64), S)) else
  ((f_X11_isThing v3 S).bind fun q13 =>
  if q13 = (0 : Int32) then (some ((-1 : Int64), S)) else
  ((f_X11_keeps  S).bind fun q17 =>
  lp_X11_ahead_52 v1 v2 v3 v4 (fun S24 => if v4 = (3 : Int32) then (lp_X11_ahead_81  (fun u65 S66 => (f_X11_putsBack  S66).bind fun q68 =>
  some (u65, q68)) FU (0 : Int64) (0 : Int32) S24) else
  (if v4 = (0 : Int32) then ((f_X11_thingOf v3 (0 : Int32) S24).bind fun q37 =>
  if (0 : Int32) ≤ q37 then ((f_X11_thingOf v3 (0 : Int32) S24).bind fun q41 =>
  (f_X11_putsBack  S24).bind fun q44 =>
  some ((Int32.toInt64 q41), q44)) else
  ((f_X11_putsBack  S24).bind fun q47 =>
  some ((-2 : Int64), q47))) else
  ((gL S24 158 8 v3).bind fun a28 =>
  (f_X11_lowest a28 (232792560 : Int64) (v4 - (1 : Int32)) S24).bind fun q31 =>
  (f_X11_putsBack  S24).bind fun q34 =>
  some (q31, q34)))) FU (0 : Int32) q17))))
set_option maxHeartbeats 4000000 in
set_option maxRecDepth 100000 in
theorem ok_X11_ahead {X : mm_C} {RR : Nat → Nat → Option Nat} (hR : RRok RR) {v1 : Int32} {v2 : Int32} {v3 : Int32} {v4 : Int32}  {S : fS} {r : Int64 × fS} (h : f_X11_ahead v1 v2 v3 v4 S = some r) : mr X 5 mY_X11_ahead 0 (lv_args 0 [.ref 145, .int v1, .int v2, .int v3, .int v4]) [] (MM RR S) (some (.long r.1), MM RR r.2) := by
  unfold f_X11_ahead at h
  show mr X _ _ 0 [(0, .ref 145), (1, .int v1), (2, .int v2), (3, .int v3), (4, .int v4)] [] (MM RR S) _
  refine mr_aload_n (pc' := 1) dX11_ahead_0 rfl rfl ?_
  refine mr_iload_n (pc' := 2) dX11_ahead_1 rfl rfl ?_
  obtain ⟨q1, g2, h3⟩ := Option.bind_eq_some_iff.mp h
  refine mr_cv (pc' := 5) (a := 145) (d1 := 0) dX11_ahead_2 rfl rfl rfl rfl rfl rfl (by decide) rfl (by decide) (ok_X11_isRule hR  g2) ?_
  show mr X _ _ 5 _ [.int q1] (MM RR S) _
  by_cases c4 : q1 = (0 : Int32)
  · rw [if_pos c4] at h3
    refine mr_if_eq_t (t := 41) dX11_ahead_5 (by decide) c4 ?_
    refine mr_ldc2 (pc' := 44) (v := (-1 : Int64)) dX11_ahead_41 rfl rfl ?_
    obtain rfl := Option.some.inj h3
    exact mr_lreturn dX11_ahead_44 rfl
  · rw [if_neg c4] at h3
    refine mr_if_eq_f (t := 41) (pc' := 8) dX11_ahead_5 (by decide) rfl c4 ?_
    refine mr_iload_n (pc' := 9) dX11_ahead_8 rfl rfl ?_
    refine mr_i2l (pc' := 10) dX11_ahead_9 rfl ?_
    refine mr_lconst (pc' := 11) (v := (0 : Int64)) dX11_ahead_10 rfl (by decide) ?_
    refine mr_ldc2 (pc' := 14) (v := (200 : Int64)) dX11_ahead_11 rfl rfl ?_
    obtain ⟨q5, g6, h7⟩ := Option.bind_eq_some_iff.mp h3
    refine mr_cs (pc' := 17) (d1 := 0) dX11_ahead_14 rfl rfl rfl rfl (by decide) (Nat.le_of_ble_eq_true rfl) rfl rfl rfl (by decide) (ok_X11_in hR  g6) ?_
    show mr X _ _ 17 _ [.int q5] (MM RR S) _
    by_cases c8 : q5 = (0 : Int32)
    · rw [if_pos c8] at h7
      refine mr_if_eq_t (t := 41) dX11_ahead_17 (by decide) c8 ?_
      refine mr_ldc2 (pc' := 44) (v := (-1 : Int64)) dX11_ahead_41 rfl rfl ?_
      obtain rfl := Option.some.inj h7
      exact mr_lreturn dX11_ahead_44 rfl
    · rw [if_neg c8] at h7
      refine mr_if_eq_f (t := 41) (pc' := 20) dX11_ahead_17 (by decide) rfl c8 ?_
      refine mr_iload (pc' := 22) dX11_ahead_20 rfl rfl ?_
      refine mr_i2l (pc' := 23) dX11_ahead_22 rfl ?_
      refine mr_lconst (pc' := 24) (v := (0 : Int64)) dX11_ahead_23 rfl (by decide) ?_
      refine mr_ldc2 (pc' := 27) (v := (3 : Int64)) dX11_ahead_24 rfl rfl ?_
      obtain ⟨q9, g10, h11⟩ := Option.bind_eq_some_iff.mp h7
      refine mr_cs (pc' := 30) (d1 := 0) dX11_ahead_27 rfl rfl rfl rfl (by decide) (Nat.le_of_ble_eq_true rfl) rfl rfl rfl (by decide) (ok_X11_in hR  g10) ?_
      show mr X _ _ 30 _ [.int q9] (MM RR S) _
      by_cases c12 : q9 = (0 : Int32)
      · rw [if_pos c12] at h11
        refine mr_if_eq_t (t := 41) dX11_ahead_30 (by decide) c12 ?_
        refine mr_ldc2 (pc' := 44) (v := (-1 : Int64)) dX11_ahead_41 rfl rfl ?_
        obtain rfl := Option.some.inj h11
        exact mr_lreturn dX11_ahead_44 rfl
      · rw [if_neg c12] at h11
        refine mr_if_eq_f (t := 41) (pc' := 33) dX11_ahead_30 (by decide) rfl c12 ?_
        refine mr_aload_n (pc' := 34) dX11_ahead_33 rfl rfl ?_
        refine mr_iload_n (pc' := 35) dX11_ahead_34 rfl rfl ?_
        obtain ⟨q13, g14, h15⟩ := Option.bind_eq_some_iff.mp h11
        refine mr_cv (pc' := 38) (a := 145) (d1 := 0) dX11_ahead_35 rfl rfl rfl rfl rfl rfl (by decide) rfl (by decide) (ok_X11_isThing hR  g14) ?_
        show mr X _ _ 38 _ [.int q13] (MM RR S) _
        by_cases c16 : q13 = (0 : Int32)
        · rw [if_pos c16] at h15
          refine mr_if_ne_f (t := 45) (pc' := 41) dX11_ahead_38 (by decide) rfl (not_not_intro c16) ?_
          refine mr_ldc2 (pc' := 44) (v := (-1 : Int64)) dX11_ahead_41 rfl rfl ?_
          obtain rfl := Option.some.inj h15
          exact mr_lreturn dX11_ahead_44 rfl
        · rw [if_neg c16] at h15
          refine mr_if_ne_t (t := 45) dX11_ahead_38 (by decide) c16 ?_
          refine mr_aload_n (pc' := 46) dX11_ahead_45 rfl rfl ?_
          obtain ⟨q17, g18, h19⟩ := Option.bind_eq_some_iff.mp h15
          refine mr_cv (pc' := 49) (a := 145) (d1 := 0) dX11_ahead_46 rfl rfl rfl rfl rfl rfl (by decide) rfl (by decide) (ok_X11_keeps hR  g18) ?_
          show mr X _ _ 49 _ [] (MM RR q17) _
          refine mr_iconst (pc' := 50) (v := (0 : Int32)) dX11_ahead_49 rfl (by decide) ?_
          refine mr_istore (pc' := 52) (lv' := [(5, .int (0 : Int32)), (0, .ref 145), (1, .int v1), (2, .int v2), (3, .int v3), (4, .int v4)]) dX11_ahead_50 rfl (by decide) rfl ?_
          refine mr_sub [(0, .ref 145), (1, .int v1), (2, .int v2), (3, .int v3), (4, .int v4), (5, .int (0 : Int32))] ⟨rfl, rfl, rfl, rfl, rfl, rfl, trivial⟩ rfl ?_
          refine ok_lp_X11_ahead_52 hR  (fun S24 h25 => ?_) FU _ _  h19
          refine mr_lconst (pc' := 70) (v := (0 : Int64)) dX11_ahead_69 rfl (by decide) ?_
          refine mr_lstore (pc' := 72) (lv' := [(5, .long (0 : Int64)), (0, .ref 145), (3, .int v3), (4, .int v4)]) dX11_ahead_70 rfl (by decide) rfl ?_
          refine mr_iload (pc' := 74) dX11_ahead_72 rfl rfl ?_
          refine mr_iconst (pc' := 75) (v := (3 : Int32)) dX11_ahead_74 rfl (by decide) ?_
          by_cases c26 : v4 = (3 : Int32)
          · rw [if_pos c26] at h25
            refine mr_icmp_ne_f (t := 136) (pc' := 78) dX11_ahead_75 (by decide) rfl (not_not_intro c26) ?_
            refine mr_iconst (pc' := 79) (v := (0 : Int32)) dX11_ahead_78 rfl (by decide) ?_
            refine mr_istore (pc' := 81) (lv' := [(7, .int (0 : Int32)), (5, .long (0 : Int64)), (0, .ref 145), (3, .int v3), (4, .int v4)]) dX11_ahead_79 rfl (by decide) rfl ?_
            refine mr_sub [(0, .ref 145), (5, .long (0 : Int64)), (7, .int (0 : Int32))] ⟨rfl, rfl, rfl, trivial⟩ rfl ?_
            refine ok_lp_X11_ahead_81 hR  (fun u65 S66 h67 => ?_) FU _ _ _  h25
            refine mr_goto (t := 184) dX11_ahead_133 (by decide) ?_
            refine mr_aload_n (pc' := 185) dX11_ahead_184 rfl rfl ?_
            obtain ⟨q68, g69, h70⟩ := Option.bind_eq_some_iff.mp h67
            refine mr_cv (pc' := 188) (a := 145) (d1 := 0) dX11_ahead_185 rfl rfl rfl rfl rfl rfl (by decide) rfl (by decide) (ok_X11_putsBack hR  g69) ?_
            show mr X _ _ 188 _ [] (MM RR q68) _
            refine mr_lload (pc' := 190) dX11_ahead_188 rfl rfl ?_
            obtain rfl := Option.some.inj h70
            exact mr_lreturn dX11_ahead_190 rfl
          · rw [if_neg c26] at h25
            refine mr_icmp_ne_t (t := 136) dX11_ahead_75 (by decide) c26 ?_
            refine mr_iload (pc' := 138) dX11_ahead_136 rfl rfl ?_
            by_cases c27 : v4 = (0 : Int32)
            · rw [if_pos c27] at h25
              refine mr_if_ne_f (t := 166) (pc' := 141) dX11_ahead_138 (by decide) rfl (not_not_intro c27) ?_
              refine mr_aload_n (pc' := 142) dX11_ahead_141 rfl rfl ?_
              refine mr_iload_n (pc' := 143) dX11_ahead_142 rfl rfl ?_
              refine mr_iconst (pc' := 144) (v := (0 : Int32)) dX11_ahead_143 rfl (by decide) ?_
              obtain ⟨q37, g38, h39⟩ := Option.bind_eq_some_iff.mp h25
              refine mr_cv (pc' := 147) (a := 145) (d1 := 0) dX11_ahead_144 rfl rfl rfl rfl rfl rfl (by decide) rfl (by decide) (ok_X11_thingOf hR  g38) ?_
              show mr X _ _ 147 _ [.int q37] (MM RR S24) _
              by_cases c40 : (0 : Int32) ≤ q37
              · rw [if_pos c40] at h39
                refine mr_if_ge_t (t := 156) dX11_ahead_147 (by decide) c40 ?_
                refine mr_aload_n (pc' := 157) dX11_ahead_156 rfl rfl ?_
                refine mr_iload_n (pc' := 158) dX11_ahead_157 rfl rfl ?_
                refine mr_iconst (pc' := 159) (v := (0 : Int32)) dX11_ahead_158 rfl (by decide) ?_
                obtain ⟨q41, g42, h43⟩ := Option.bind_eq_some_iff.mp h39
                refine mr_cv (pc' := 162) (a := 145) (d1 := 0) dX11_ahead_159 rfl rfl rfl rfl rfl rfl (by decide) rfl (by decide) (ok_X11_thingOf hR  g42) ?_
                show mr X _ _ 162 _ [.int q41] (MM RR S24) _
                refine mr_i2l (pc' := 163) dX11_ahead_162 rfl ?_
                refine mr_goto (t := 182) dX11_ahead_163 (by decide) ?_
                refine mr_lstore (pc' := 184) (lv' := [(5, .long (Int32.toInt64 q41)), (0, .ref 145), (3, .int v3), (4, .int v4)]) dX11_ahead_182 rfl (by decide) rfl ?_
                refine mr_aload_n (pc' := 185) dX11_ahead_184 rfl rfl ?_
                obtain ⟨q44, g45, h46⟩ := Option.bind_eq_some_iff.mp h43
                refine mr_cv (pc' := 188) (a := 145) (d1 := 0) dX11_ahead_185 rfl rfl rfl rfl rfl rfl (by decide) rfl (by decide) (ok_X11_putsBack hR  g45) ?_
                show mr X _ _ 188 _ [] (MM RR q44) _
                refine mr_lload (pc' := 190) dX11_ahead_188 rfl rfl ?_
                obtain rfl := Option.some.inj h46
                exact mr_lreturn dX11_ahead_190 rfl
              · rw [if_neg c40] at h39
                refine mr_if_ge_f (t := 156) (pc' := 150) dX11_ahead_147 (by decide) rfl c40 ?_
                refine mr_ldc2 (pc' := 153) (v := (-2 : Int64)) dX11_ahead_150 rfl rfl ?_
                refine mr_goto (t := 182) dX11_ahead_153 (by decide) ?_
                refine mr_lstore (pc' := 184) (lv' := [(5, .long (-2 : Int64)), (0, .ref 145), (3, .int v3), (4, .int v4)]) dX11_ahead_182 rfl (by decide) rfl ?_
                refine mr_aload_n (pc' := 185) dX11_ahead_184 rfl rfl ?_
                obtain ⟨q47, g48, h49⟩ := Option.bind_eq_some_iff.mp h39
                refine mr_cv (pc' := 188) (a := 145) (d1 := 0) dX11_ahead_185 rfl rfl rfl rfl rfl rfl (by decide) rfl (by decide) (ok_X11_putsBack hR  g48) ?_
                show mr X _ _ 188 _ [] (MM RR q47) _
                refine mr_lload (pc' := 190) dX11_ahead_188 rfl rfl ?_
                obtain rfl := Option.some.inj h49
                exact mr_lreturn dX11_ahead_190 rfl
            · rw [if_neg c27] at h25
              refine mr_if_ne_t (t := 166) dX11_ahead_138 (by decide) c27 ?_
              refine mr_aload_n (pc' := 167) dX11_ahead_166 rfl rfl ?_
              refine mr_getR (pc' := 170) (ci := 11) (j := 26) (b := 158) hR dX11_ahead_167 rfl rfl rfl (by decide) (by decide) (by decide) rfl rfl ?_
              refine mr_iload_n (pc' := 171) dX11_ahead_170 rfl rfl ?_
              obtain ⟨a28, g29, h30⟩ := Option.bind_eq_some_iff.mp h25
              refine mr_lald (pc' := 172) dX11_ahead_171 rfl rfl rfl g29 ?_
              refine mr_ldc2 (pc' := 175) (v := (232792560 : Int64)) dX11_ahead_172 rfl rfl ?_
              refine mr_iload (pc' := 177) dX11_ahead_175 rfl rfl ?_
              refine mr_iconst (pc' := 178) (v := (1 : Int32)) dX11_ahead_177 rfl (by decide) ?_
              refine mr_isub (pc' := 179) dX11_ahead_178 rfl ?_
              obtain ⟨q31, g32, h33⟩ := Option.bind_eq_some_iff.mp h30
              refine mr_cs (pc' := 182) (d1 := 1) dX11_ahead_179 rfl rfl rfl rfl (by decide) (Nat.le_of_ble_eq_true rfl) rfl rfl rfl (by decide) (ok_X11_lowest hR  g32) ?_
              show mr X _ _ 182 _ [.long q31] (MM RR S24) _
              refine mr_lstore (pc' := 184) (lv' := [(5, .long q31), (0, .ref 145), (3, .int v3), (4, .int v4)]) dX11_ahead_182 rfl (by decide) rfl ?_
              refine mr_aload_n (pc' := 185) dX11_ahead_184 rfl rfl ?_
              obtain ⟨q34, g35, h36⟩ := Option.bind_eq_some_iff.mp h33
              refine mr_cv (pc' := 188) (a := 145) (d1 := 0) dX11_ahead_185 rfl rfl rfl rfl rfl rfl (by decide) rfl (by decide) (ok_X11_putsBack hR  g35) ?_
              show mr X _ _ 188 _ [] (MM RR q34) _
              refine mr_lload (pc' := 190) dX11_ahead_188 rfl rfl ?_
              obtain rfl := Option.some.inj h36
              exact mr_lreturn dX11_ahead_190 rfl
def f_X11_far (v1 : Int32) (v2 : Int32) (S : fS) : Option (Int32) :=
  (f_X11_isFloor v1 S).bind fun q1 =>
  if q1 = (0 : Int32) then (some (-1 : Int32)) else
  ((f_X11_isFloor v2 S).bind fun q5 =>
  if q5 = (0 : Int32) then (some (-1 : Int32)) else
  ((f_X11_between v1 v2 S).bind fun q9 =>
  if q9 < (99999 : Int64) then ((f_X11_between v1 v2 S).bind fun q13 =>
  some (Int64.toInt32 q13)) else
  (some (-2 : Int32))))
set_option maxHeartbeats 4000000 in
set_option maxRecDepth 100000 in
theorem ok_X11_far {X : mm_C} {RR : Nat → Nat → Option Nat} (hR : RRok RR) {v1 : Int32} {v2 : Int32}  {S : fS} {r : Int32} (h : f_X11_far v1 v2 S = some r) : mr X 1 mY_X11_far 0 (lv_args 0 [.ref 145, .int v1, .int v2]) [] (MM RR S) (some (.int r), MM RR S) := by
  unfold f_X11_far at h
  show mr X _ _ 0 [(0, .ref 145), (1, .int v1), (2, .int v2)] [] (MM RR S) _
  refine mr_aload_n (pc' := 1) dX11_far_0 rfl rfl ?_
  refine mr_iload_n (pc' := 2) dX11_far_1 rfl rfl ?_
  obtain ⟨q1, g2, h3⟩ := Option.bind_eq_some_iff.mp h
  refine mr_cv (pc' := 5) (a := 145) (d1 := 0) dX11_far_2 rfl rfl rfl rfl rfl rfl (by decide) rfl (by decide) (ok_X11_isFloor hR  g2) ?_
  show mr X _ _ 5 _ [.int q1] (MM RR S) _
  by_cases c4 : q1 = (0 : Int32)
  · rw [if_pos c4] at h3
    refine mr_if_eq_t (t := 16) dX11_far_5 (by decide) c4 ?_
    refine mr_iconst (pc' := 17) (v := (-1 : Int32)) dX11_far_16 rfl (by decide) ?_
    obtain rfl := Option.some.inj h3
    exact mr_ireturn dX11_far_17 rfl
  · rw [if_neg c4] at h3
    refine mr_if_eq_f (t := 16) (pc' := 8) dX11_far_5 (by decide) rfl c4 ?_
    refine mr_aload_n (pc' := 9) dX11_far_8 rfl rfl ?_
    refine mr_iload_n (pc' := 10) dX11_far_9 rfl rfl ?_
    obtain ⟨q5, g6, h7⟩ := Option.bind_eq_some_iff.mp h3
    refine mr_cv (pc' := 13) (a := 145) (d1 := 0) dX11_far_10 rfl rfl rfl rfl rfl rfl (by decide) rfl (by decide) (ok_X11_isFloor hR  g6) ?_
    show mr X _ _ 13 _ [.int q5] (MM RR S) _
    by_cases c8 : q5 = (0 : Int32)
    · rw [if_pos c8] at h7
      refine mr_if_ne_f (t := 18) (pc' := 16) dX11_far_13 (by decide) rfl (not_not_intro c8) ?_
      refine mr_iconst (pc' := 17) (v := (-1 : Int32)) dX11_far_16 rfl (by decide) ?_
      obtain rfl := Option.some.inj h7
      exact mr_ireturn dX11_far_17 rfl
    · rw [if_neg c8] at h7
      refine mr_if_ne_t (t := 18) dX11_far_13 (by decide) c8 ?_
      refine mr_aload_n (pc' := 19) dX11_far_18 rfl rfl ?_
      refine mr_iload_n (pc' := 20) dX11_far_19 rfl rfl ?_
      refine mr_iload_n (pc' := 21) dX11_far_20 rfl rfl ?_
      obtain ⟨q9, g10, h11⟩ := Option.bind_eq_some_iff.mp h7
      refine mr_cv (pc' := 24) (a := 145) (d1 := 0) dX11_far_21 rfl rfl rfl rfl rfl rfl (by decide) rfl (by decide) (ok_X11_between hR  g10) ?_
      show mr X _ _ 24 _ [.long q9] (MM RR S) _
      refine mr_ldc2 (pc' := 27) (v := (99999 : Int64)) dX11_far_24 rfl rfl ?_
      by_cases c12 : q9 < (99999 : Int64)
      · rw [if_pos c12] at h11
        refine mr_lcmp_lt_t (t := 36) dX11_far_27 rfl dX11_far_28 (by decide) c12 ?_
        refine mr_aload_n (pc' := 37) dX11_far_36 rfl rfl ?_
        refine mr_iload_n (pc' := 38) dX11_far_37 rfl rfl ?_
        refine mr_iload_n (pc' := 39) dX11_far_38 rfl rfl ?_
        obtain ⟨q13, g14, h15⟩ := Option.bind_eq_some_iff.mp h11
        refine mr_cv (pc' := 42) (a := 145) (d1 := 0) dX11_far_39 rfl rfl rfl rfl rfl rfl (by decide) rfl (by decide) (ok_X11_between hR  g14) ?_
        show mr X _ _ 42 _ [.long q13] (MM RR S) _
        refine mr_l2i (pc' := 43) dX11_far_42 rfl ?_
        obtain rfl := Option.some.inj h15
        exact mr_ireturn dX11_far_43 rfl
      · rw [if_neg c12] at h11
        refine mr_lcmp_lt_f (t := 36) (pc' := 31) dX11_far_27 rfl dX11_far_28 (by decide) rfl c12 ?_
        refine mr_bipush (pc' := 33) (v := (-2 : Int32)) dX11_far_31 rfl (by decide) ?_
        refine mr_goto (t := 43) dX11_far_33 (by decide) ?_
        obtain rfl := Option.some.inj h11
        exact mr_ireturn dX11_far_43 rfl
def f_X11_next (v1 : Int32) (v2 : Int32) (S : fS) : Option (Int32) :=
  (f_X11_isFloor v1 S).bind fun q1 =>
  if q1 = (0 : Int32) then (some (-1 : Int32)) else
  ((f_X11_isFloor v2 S).bind fun q5 =>
  if q5 = (0 : Int32) then (some (-1 : Int32)) else
  ((f_X11_nextStair v1 v2 S).bind fun q9 =>
  some q9))
set_option maxHeartbeats 4000000 in
set_option maxRecDepth 100000 in
theorem ok_X11_next {X : mm_C} {RR : Nat → Nat → Option Nat} (hR : RRok RR) {v1 : Int32} {v2 : Int32}  {S : fS} {r : Int32} (h : f_X11_next v1 v2 S = some r) : mr X 3 mY_X11_next 0 (lv_args 0 [.ref 145, .int v1, .int v2]) [] (MM RR S) (some (.int r), MM RR S) := by
  unfold f_X11_next at h
  show mr X _ _ 0 [(0, .ref 145), (1, .int v1), (2, .int v2)] [] (MM RR S) _
  refine mr_aload_n (pc' := 1) dX11_next_0 rfl rfl ?_
  refine mr_iload_n (pc' := 2) dX11_next_1 rfl rfl ?_
  obtain ⟨q1, g2, h3⟩ := Option.bind_eq_some_iff.mp h
  refine mr_cv (pc' := 5) (a := 145) (d1 := 0) dX11_next_2 rfl rfl rfl rfl rfl rfl (by decide) rfl (by decide) (ok_X11_isFloor hR  g2) ?_
  show mr X _ _ 5 _ [.int q1] (MM RR S) _
  by_cases c4 : q1 = (0 : Int32)
  · rw [if_pos c4] at h3
    refine mr_if_eq_t (t := 25) dX11_next_5 (by decide) c4 ?_
    refine mr_iconst (pc' := 26) (v := (-1 : Int32)) dX11_next_25 rfl (by decide) ?_
    obtain rfl := Option.some.inj h3
    exact mr_ireturn dX11_next_26 rfl
  · rw [if_neg c4] at h3
    refine mr_if_eq_f (t := 25) (pc' := 8) dX11_next_5 (by decide) rfl c4 ?_
    refine mr_aload_n (pc' := 9) dX11_next_8 rfl rfl ?_
    refine mr_iload_n (pc' := 10) dX11_next_9 rfl rfl ?_
    obtain ⟨q5, g6, h7⟩ := Option.bind_eq_some_iff.mp h3
    refine mr_cv (pc' := 13) (a := 145) (d1 := 0) dX11_next_10 rfl rfl rfl rfl rfl rfl (by decide) rfl (by decide) (ok_X11_isFloor hR  g6) ?_
    show mr X _ _ 13 _ [.int q5] (MM RR S) _
    by_cases c8 : q5 = (0 : Int32)
    · rw [if_pos c8] at h7
      refine mr_if_eq_t (t := 25) dX11_next_13 (by decide) c8 ?_
      refine mr_iconst (pc' := 26) (v := (-1 : Int32)) dX11_next_25 rfl (by decide) ?_
      obtain rfl := Option.some.inj h7
      exact mr_ireturn dX11_next_26 rfl
    · rw [if_neg c8] at h7
      refine mr_if_eq_f (t := 25) (pc' := 16) dX11_next_13 (by decide) rfl c8 ?_
      refine mr_aload_n (pc' := 17) dX11_next_16 rfl rfl ?_
      refine mr_iload_n (pc' := 18) dX11_next_17 rfl rfl ?_
      refine mr_iload_n (pc' := 19) dX11_next_18 rfl rfl ?_
      obtain ⟨q9, g10, h11⟩ := Option.bind_eq_some_iff.mp h7
      refine mr_cv (pc' := 22) (a := 145) (d1 := 2) dX11_next_19 rfl rfl rfl rfl rfl rfl (by decide) rfl (by decide) (ok_X11_nextStair hR  g10) ?_
      show mr X _ _ 22 _ [.int q9] (MM RR S) _
      refine mr_goto (t := 26) dX11_next_22 (by decide) ?_
      obtain rfl := Option.some.inj h11
      exact mr_ireturn dX11_next_26 rfl
def f_X11_clock (v1 : Int32) (v2 : Int32) (v3 : Int32) (S : fS) : Option (Int64) :=
  (f_X11_isFloor v1 S).bind fun q1 =>
  if q1 = (0 : Int32) then (some (-1 : Int64)) else
  ((f_X11_in (Int32.toInt64 v2) (0 : Int64) (9999 : Int64) S).bind fun q5 =>
  if q5 = (0 : Int32) then (some (-1 : Int64)) else
  ((f_X11_in (Int32.toInt64 v3) (0 : Int64) (1 : Int64) S).bind fun q9 =>
  if q9 = (0 : Int32) then (some (-1 : Int64)) else
  ((gI S 157 158 ((10 : Int32) + ((2 : Int32) * v1))).bind fun a13 =>
  (gI S 157 158 (((10 : Int32) + ((2 : Int32) * v1)) + (1 : Int32))).bind fun a16 =>
  (f_X11_lowest ((Int32.toInt64 v2) * (Int32.toInt64 a13)) (Int32.toInt64 a16) v3 S).bind fun q19 =>
  some q19)))
set_option maxHeartbeats 4000000 in
set_option maxRecDepth 100000 in
theorem ok_X11_clock {X : mm_C} {RR : Nat → Nat → Option Nat} (hR : RRok RR) {v1 : Int32} {v2 : Int32} {v3 : Int32}  {S : fS} {r : Int64} (h : f_X11_clock v1 v2 v3 S = some r) : mr X 2 mY_X11_clock 0 (lv_args 0 [.ref 145, .int v1, .int v2, .int v3]) [] (MM RR S) (some (.long r), MM RR S) := by
  unfold f_X11_clock at h
  show mr X _ _ 0 [(0, .ref 145), (1, .int v1), (2, .int v2), (3, .int v3)] [] (MM RR S) _
  refine mr_aload_n (pc' := 1) dX11_clock_0 rfl rfl ?_
  refine mr_iload_n (pc' := 2) dX11_clock_1 rfl rfl ?_
  obtain ⟨q1, g2, h3⟩ := Option.bind_eq_some_iff.mp h
  refine mr_cv (pc' := 5) (a := 145) (d1 := 0) dX11_clock_2 rfl rfl rfl rfl rfl rfl (by decide) rfl (by decide) (ok_X11_isFloor hR  g2) ?_
  show mr X _ _ 5 _ [.int q1] (MM RR S) _
  by_cases c4 : q1 = (0 : Int32)
  · rw [if_pos c4] at h3
    refine mr_if_eq_t (t := 30) dX11_clock_5 (by decide) c4 ?_
    refine mr_ldc2 (pc' := 33) (v := (-1 : Int64)) dX11_clock_30 rfl rfl ?_
    obtain rfl := Option.some.inj h3
    exact mr_lreturn dX11_clock_33 rfl
  · rw [if_neg c4] at h3
    refine mr_if_eq_f (t := 30) (pc' := 8) dX11_clock_5 (by decide) rfl c4 ?_
    refine mr_iload_n (pc' := 9) dX11_clock_8 rfl rfl ?_
    refine mr_i2l (pc' := 10) dX11_clock_9 rfl ?_
    refine mr_lconst (pc' := 11) (v := (0 : Int64)) dX11_clock_10 rfl (by decide) ?_
    refine mr_ldc2 (pc' := 14) (v := (9999 : Int64)) dX11_clock_11 rfl rfl ?_
    obtain ⟨q5, g6, h7⟩ := Option.bind_eq_some_iff.mp h3
    refine mr_cs (pc' := 17) (d1 := 0) dX11_clock_14 rfl rfl rfl rfl (by decide) (Nat.le_of_ble_eq_true rfl) rfl rfl rfl (by decide) (ok_X11_in hR  g6) ?_
    show mr X _ _ 17 _ [.int q5] (MM RR S) _
    by_cases c8 : q5 = (0 : Int32)
    · rw [if_pos c8] at h7
      refine mr_if_eq_t (t := 30) dX11_clock_17 (by decide) c8 ?_
      refine mr_ldc2 (pc' := 33) (v := (-1 : Int64)) dX11_clock_30 rfl rfl ?_
      obtain rfl := Option.some.inj h7
      exact mr_lreturn dX11_clock_33 rfl
    · rw [if_neg c8] at h7
      refine mr_if_eq_f (t := 30) (pc' := 20) dX11_clock_17 (by decide) rfl c8 ?_
      refine mr_iload_n (pc' := 21) dX11_clock_20 rfl rfl ?_
      refine mr_i2l (pc' := 22) dX11_clock_21 rfl ?_
      refine mr_lconst (pc' := 23) (v := (0 : Int64)) dX11_clock_22 rfl (by decide) ?_
      refine mr_lconst (pc' := 24) (v := (1 : Int64)) dX11_clock_23 rfl (by decide) ?_
      obtain ⟨q9, g10, h11⟩ := Option.bind_eq_some_iff.mp h7
      refine mr_cs (pc' := 27) (d1 := 0) dX11_clock_24 rfl rfl rfl rfl (by decide) (Nat.le_of_ble_eq_true rfl) rfl rfl rfl (by decide) (ok_X11_in hR  g10) ?_
      show mr X _ _ 27 _ [.int q9] (MM RR S) _
      by_cases c12 : q9 = (0 : Int32)
      · rw [if_pos c12] at h11
        refine mr_if_ne_f (t := 34) (pc' := 30) dX11_clock_27 (by decide) rfl (not_not_intro c12) ?_
        refine mr_ldc2 (pc' := 33) (v := (-1 : Int64)) dX11_clock_30 rfl rfl ?_
        obtain rfl := Option.some.inj h11
        exact mr_lreturn dX11_clock_33 rfl
      · rw [if_neg c12] at h11
        refine mr_if_ne_t (t := 34) dX11_clock_27 (by decide) c12 ?_
        refine mr_iload_n (pc' := 35) dX11_clock_34 rfl rfl ?_
        refine mr_i2l (pc' := 36) dX11_clock_35 rfl ?_
        refine mr_aload_n (pc' := 37) dX11_clock_36 rfl rfl ?_
        refine mr_getR (pc' := 40) (ci := 11) (j := 25) (b := 157) hR dX11_clock_37 rfl rfl rfl (by decide) (by decide) (by decide) rfl rfl ?_
        refine mr_bipush (pc' := 42) (v := (10 : Int32)) dX11_clock_40 rfl (by decide) ?_
        refine mr_iconst (pc' := 43) (v := (2 : Int32)) dX11_clock_42 rfl (by decide) ?_
        refine mr_iload_n (pc' := 44) dX11_clock_43 rfl rfl ?_
        refine mr_imul (pc' := 45) dX11_clock_44 rfl ?_
        refine mr_iadd (pc' := 46) dX11_clock_45 rfl ?_
        obtain ⟨a13, g14, h15⟩ := Option.bind_eq_some_iff.mp h11
        refine mr_iald (pc' := 47) dX11_clock_46 rfl rfl rfl g14 ?_
        refine mr_i2l (pc' := 48) dX11_clock_47 rfl ?_
        refine mr_lmul (pc' := 49) dX11_clock_48 rfl ?_
        refine mr_aload_n (pc' := 50) dX11_clock_49 rfl rfl ?_
        refine mr_getR (pc' := 53) (ci := 11) (j := 25) (b := 157) hR dX11_clock_50 rfl rfl rfl (by decide) (by decide) (by decide) rfl rfl ?_
        refine mr_bipush (pc' := 55) (v := (10 : Int32)) dX11_clock_53 rfl (by decide) ?_
        refine mr_iconst (pc' := 56) (v := (2 : Int32)) dX11_clock_55 rfl (by decide) ?_
        refine mr_iload_n (pc' := 57) dX11_clock_56 rfl rfl ?_
        refine mr_imul (pc' := 58) dX11_clock_57 rfl ?_
        refine mr_iadd (pc' := 59) dX11_clock_58 rfl ?_
        refine mr_iconst (pc' := 60) (v := (1 : Int32)) dX11_clock_59 rfl (by decide) ?_
        refine mr_iadd (pc' := 61) dX11_clock_60 rfl ?_
        obtain ⟨a16, g17, h18⟩ := Option.bind_eq_some_iff.mp h15
        refine mr_iald (pc' := 62) dX11_clock_61 rfl rfl rfl g17 ?_
        refine mr_i2l (pc' := 63) dX11_clock_62 rfl ?_
        refine mr_iload_n (pc' := 64) dX11_clock_63 rfl rfl ?_
        obtain ⟨q19, g20, h21⟩ := Option.bind_eq_some_iff.mp h18
        refine mr_cs (pc' := 67) (d1 := 1) dX11_clock_64 rfl rfl rfl rfl (by decide) (Nat.le_of_ble_eq_true rfl) rfl rfl rfl (by decide) (ok_X11_lowest hR  g20) ?_
        show mr X _ _ 67 _ [.long q19] (MM RR S) _
        obtain rfl := Option.some.inj h21
        exact mr_lreturn dX11_clock_67 rfl
def f_X11_noons (v1 : Int32) (v2 : Int32) (v3 : Int32) (S : fS) : Option (Int64) :=
  (f_X11_isFloor v1 S).bind fun q1 =>
  if q1 = (0 : Int32) then (some (-1 : Int64)) else
  ((f_X11_isFloor v2 S).bind fun q5 =>
  if q5 = (0 : Int32) then (some (-1 : Int64)) else
  ((f_X11_in (Int32.toInt64 v3) (0 : Int64) (1 : Int64) S).bind fun q9 =>
  if q9 = (0 : Int32) then (some (-1 : Int64)) else
  ((gI S 157 158 ((10 : Int32) + ((2 : Int32) * v1))).bind fun a13 =>
  (gI S 157 158 (((10 : Int32) + ((2 : Int32) * v1)) + (1 : Int32))).bind fun a16 =>
  (gI S 157 158 ((10 : Int32) + ((2 : Int32) * v2))).bind fun a19 =>
  (gI S 157 158 (((10 : Int32) + ((2 : Int32) * v2)) + (1 : Int32))).bind fun a22 =>
  (f_X11_lowest ((Int32.toInt64 a22) * (Int32.toInt64 a13)) ((Int32.toInt64 a16) * (Int32.toInt64 a19)) (0 : Int32) S).bind fun q25 =>
  (rL q25 (2 : Int64)).bind fun a28 =>
  if a28 = (0 : Int64) then (some (-2 : Int64)) else
  ((f_X11_lowest ((Int32.toInt64 a22) * (Int32.toInt64 a13)) ((Int32.toInt64 a16) * (Int32.toInt64 a19)) (1 : Int32) S).bind fun q32 =>
  (rL q32 (2 : Int64)).bind fun a35 =>
  if a35 = (0 : Int64) then (some (-2 : Int64)) else
  ((f_X11_lowest (((12 : Int64) * q25) * (Int32.toInt64 a16)) (Int32.toInt64 a13) v3 S).bind fun q39 =>
  some q39)))))
set_option maxHeartbeats 4000000 in
set_option maxRecDepth 100000 in
theorem ok_X11_noons {X : mm_C} {RR : Nat → Nat → Option Nat} (hR : RRok RR) {v1 : Int32} {v2 : Int32} {v3 : Int32}  {S : fS} {r : Int64} (h : f_X11_noons v1 v2 v3 S = some r) : mr X 2 mY_X11_noons 0 (lv_args 0 [.ref 145, .int v1, .int v2, .int v3]) [] (MM RR S) (some (.long r), MM RR S) := by
  unfold f_X11_noons at h
  show mr X _ _ 0 [(0, .ref 145), (1, .int v1), (2, .int v2), (3, .int v3)] [] (MM RR S) _
  refine mr_aload_n (pc' := 1) dX11_noons_0 rfl rfl ?_
  refine mr_iload_n (pc' := 2) dX11_noons_1 rfl rfl ?_
  obtain ⟨q1, g2, h3⟩ := Option.bind_eq_some_iff.mp h
  refine mr_cv (pc' := 5) (a := 145) (d1 := 0) dX11_noons_2 rfl rfl rfl rfl rfl rfl (by decide) rfl (by decide) (ok_X11_isFloor hR  g2) ?_
  show mr X _ _ 5 _ [.int q1] (MM RR S) _
  by_cases c4 : q1 = (0 : Int32)
  · rw [if_pos c4] at h3
    refine mr_if_eq_t (t := 26) dX11_noons_5 (by decide) c4 ?_
    refine mr_ldc2 (pc' := 29) (v := (-1 : Int64)) dX11_noons_26 rfl rfl ?_
    obtain rfl := Option.some.inj h3
    exact mr_lreturn dX11_noons_29 rfl
  · rw [if_neg c4] at h3
    refine mr_if_eq_f (t := 26) (pc' := 8) dX11_noons_5 (by decide) rfl c4 ?_
    refine mr_aload_n (pc' := 9) dX11_noons_8 rfl rfl ?_
    refine mr_iload_n (pc' := 10) dX11_noons_9 rfl rfl ?_
    obtain ⟨q5, g6, h7⟩ := Option.bind_eq_some_iff.mp h3
    refine mr_cv (pc' := 13) (a := 145) (d1 := 0) dX11_noons_10 rfl rfl rfl rfl rfl rfl (by decide) rfl (by decide) (ok_X11_isFloor hR  g6) ?_
    show mr X _ _ 13 _ [.int q5] (MM RR S) _
    by_cases c8 : q5 = (0 : Int32)
    · rw [if_pos c8] at h7
      refine mr_if_eq_t (t := 26) dX11_noons_13 (by decide) c8 ?_
      refine mr_ldc2 (pc' := 29) (v := (-1 : Int64)) dX11_noons_26 rfl rfl ?_
      obtain rfl := Option.some.inj h7
      exact mr_lreturn dX11_noons_29 rfl
    · rw [if_neg c8] at h7
      refine mr_if_eq_f (t := 26) (pc' := 16) dX11_noons_13 (by decide) rfl c8 ?_
      refine mr_iload_n (pc' := 17) dX11_noons_16 rfl rfl ?_
      refine mr_i2l (pc' := 18) dX11_noons_17 rfl ?_
      refine mr_lconst (pc' := 19) (v := (0 : Int64)) dX11_noons_18 rfl (by decide) ?_
      refine mr_lconst (pc' := 20) (v := (1 : Int64)) dX11_noons_19 rfl (by decide) ?_
      obtain ⟨q9, g10, h11⟩ := Option.bind_eq_some_iff.mp h7
      refine mr_cs (pc' := 23) (d1 := 0) dX11_noons_20 rfl rfl rfl rfl (by decide) (Nat.le_of_ble_eq_true rfl) rfl rfl rfl (by decide) (ok_X11_in hR  g10) ?_
      show mr X _ _ 23 _ [.int q9] (MM RR S) _
      by_cases c12 : q9 = (0 : Int32)
      · rw [if_pos c12] at h11
        refine mr_if_ne_f (t := 30) (pc' := 26) dX11_noons_23 (by decide) rfl (not_not_intro c12) ?_
        refine mr_ldc2 (pc' := 29) (v := (-1 : Int64)) dX11_noons_26 rfl rfl ?_
        obtain rfl := Option.some.inj h11
        exact mr_lreturn dX11_noons_29 rfl
      · rw [if_neg c12] at h11
        refine mr_if_ne_t (t := 30) dX11_noons_23 (by decide) c12 ?_
        refine mr_aload_n (pc' := 31) dX11_noons_30 rfl rfl ?_
        refine mr_getR (pc' := 34) (ci := 11) (j := 25) (b := 157) hR dX11_noons_31 rfl rfl rfl (by decide) (by decide) (by decide) rfl rfl ?_
        refine mr_bipush (pc' := 36) (v := (10 : Int32)) dX11_noons_34 rfl (by decide) ?_
        refine mr_iconst (pc' := 37) (v := (2 : Int32)) dX11_noons_36 rfl (by decide) ?_
        refine mr_iload_n (pc' := 38) dX11_noons_37 rfl rfl ?_
        refine mr_imul (pc' := 39) dX11_noons_38 rfl ?_
        refine mr_iadd (pc' := 40) dX11_noons_39 rfl ?_
        obtain ⟨a13, g14, h15⟩ := Option.bind_eq_some_iff.mp h11
        refine mr_iald (pc' := 41) dX11_noons_40 rfl rfl rfl g14 ?_
        refine mr_i2l (pc' := 42) dX11_noons_41 rfl ?_
        refine mr_lstore (pc' := 44) (lv' := [(4, .long (Int32.toInt64 a13)), (0, .ref 145), (1, .int v1), (2, .int v2), (3, .int v3)]) dX11_noons_42 rfl (by decide) rfl ?_
        refine mr_aload_n (pc' := 45) dX11_noons_44 rfl rfl ?_
        refine mr_getR (pc' := 48) (ci := 11) (j := 25) (b := 157) hR dX11_noons_45 rfl rfl rfl (by decide) (by decide) (by decide) rfl rfl ?_
        refine mr_bipush (pc' := 50) (v := (10 : Int32)) dX11_noons_48 rfl (by decide) ?_
        refine mr_iconst (pc' := 51) (v := (2 : Int32)) dX11_noons_50 rfl (by decide) ?_
        refine mr_iload_n (pc' := 52) dX11_noons_51 rfl rfl ?_
        refine mr_imul (pc' := 53) dX11_noons_52 rfl ?_
        refine mr_iadd (pc' := 54) dX11_noons_53 rfl ?_
        refine mr_iconst (pc' := 55) (v := (1 : Int32)) dX11_noons_54 rfl (by decide) ?_
        refine mr_iadd (pc' := 56) dX11_noons_55 rfl ?_
        obtain ⟨a16, g17, h18⟩ := Option.bind_eq_some_iff.mp h15
        refine mr_iald (pc' := 57) dX11_noons_56 rfl rfl rfl g17 ?_
        refine mr_i2l (pc' := 58) dX11_noons_57 rfl ?_
        refine mr_lstore (pc' := 60) (lv' := [(6, .long (Int32.toInt64 a16)), (4, .long (Int32.toInt64 a13)), (0, .ref 145), (1, .int v1), (2, .int v2), (3, .int v3)]) dX11_noons_58 rfl (by decide) rfl ?_
        refine mr_lload (pc' := 62) dX11_noons_60 rfl rfl ?_
        refine mr_aload_n (pc' := 63) dX11_noons_62 rfl rfl ?_
        refine mr_getR (pc' := 66) (ci := 11) (j := 25) (b := 157) hR dX11_noons_63 rfl rfl rfl (by decide) (by decide) (by decide) rfl rfl ?_
        refine mr_bipush (pc' := 68) (v := (10 : Int32)) dX11_noons_66 rfl (by decide) ?_
        refine mr_iconst (pc' := 69) (v := (2 : Int32)) dX11_noons_68 rfl (by decide) ?_
        refine mr_iload_n (pc' := 70) dX11_noons_69 rfl rfl ?_
        refine mr_imul (pc' := 71) dX11_noons_70 rfl ?_
        refine mr_iadd (pc' := 72) dX11_noons_71 rfl ?_
        obtain ⟨a19, g20, h21⟩ := Option.bind_eq_some_iff.mp h18
        refine mr_iald (pc' := 73) dX11_noons_72 rfl rfl rfl g20 ?_
        refine mr_i2l (pc' := 74) dX11_noons_73 rfl ?_
        refine mr_lmul (pc' := 75) dX11_noons_74 rfl ?_
        refine mr_lstore (pc' := 77) (lv' := [(8, .long ((Int32.toInt64 a16) * (Int32.toInt64 a19))), (6, .long (Int32.toInt64 a16)), (4, .long (Int32.toInt64 a13)), (0, .ref 145), (1, .int v1), (2, .int v2), (3, .int v3)]) dX11_noons_75 rfl (by decide) rfl ?_
        refine mr_aload_n (pc' := 78) dX11_noons_77 rfl rfl ?_
        refine mr_getR (pc' := 81) (ci := 11) (j := 25) (b := 157) hR dX11_noons_78 rfl rfl rfl (by decide) (by decide) (by decide) rfl rfl ?_
        refine mr_bipush (pc' := 83) (v := (10 : Int32)) dX11_noons_81 rfl (by decide) ?_
        refine mr_iconst (pc' := 84) (v := (2 : Int32)) dX11_noons_83 rfl (by decide) ?_
        refine mr_iload_n (pc' := 85) dX11_noons_84 rfl rfl ?_
        refine mr_imul (pc' := 86) dX11_noons_85 rfl ?_
        refine mr_iadd (pc' := 87) dX11_noons_86 rfl ?_
        refine mr_iconst (pc' := 88) (v := (1 : Int32)) dX11_noons_87 rfl (by decide) ?_
        refine mr_iadd (pc' := 89) dX11_noons_88 rfl ?_
        obtain ⟨a22, g23, h24⟩ := Option.bind_eq_some_iff.mp h21
        refine mr_iald (pc' := 90) dX11_noons_89 rfl rfl rfl g23 ?_
        refine mr_i2l (pc' := 91) dX11_noons_90 rfl ?_
        refine mr_lload (pc' := 93) dX11_noons_91 rfl rfl ?_
        refine mr_lmul (pc' := 94) dX11_noons_93 rfl ?_
        refine mr_lstore (pc' := 96) (lv' := [(10, .long ((Int32.toInt64 a22) * (Int32.toInt64 a13))), (8, .long ((Int32.toInt64 a16) * (Int32.toInt64 a19))), (6, .long (Int32.toInt64 a16)), (4, .long (Int32.toInt64 a13)), (0, .ref 145), (1, .int v1), (2, .int v2), (3, .int v3)]) dX11_noons_94 rfl (by decide) rfl ?_
        refine mr_lload (pc' := 98) dX11_noons_96 rfl rfl ?_
        refine mr_lload (pc' := 100) dX11_noons_98 rfl rfl ?_
        refine mr_iconst (pc' := 101) (v := (0 : Int32)) dX11_noons_100 rfl (by decide) ?_
        obtain ⟨q25, g26, h27⟩ := Option.bind_eq_some_iff.mp h24
        refine mr_cs (pc' := 104) (d1 := 1) dX11_noons_101 rfl rfl rfl rfl (by decide) (Nat.le_of_ble_eq_true rfl) rfl rfl rfl (by decide) (ok_X11_lowest hR  g26) ?_
        show mr X _ _ 104 _ [.long q25] (MM RR S) _
        refine mr_lstore (pc' := 106) (lv' := [(12, .long q25), (10, .long ((Int32.toInt64 a22) * (Int32.toInt64 a13))), (8, .long ((Int32.toInt64 a16) * (Int32.toInt64 a19))), (6, .long (Int32.toInt64 a16)), (4, .long (Int32.toInt64 a13)), (0, .ref 145), (1, .int v1), (2, .int v2), (3, .int v3)]) dX11_noons_104 rfl (by decide) rfl ?_
        refine mr_lload (pc' := 108) dX11_noons_106 rfl rfl ?_
        refine mr_ldc2 (pc' := 111) (v := (2 : Int64)) dX11_noons_108 rfl rfl ?_
        obtain ⟨a28, g29, h30⟩ := Option.bind_eq_some_iff.mp h27
        refine mr_lrem (pc' := 112) dX11_noons_111 rfl g29 ?_
        refine mr_lconst (pc' := 113) (v := (0 : Int64)) dX11_noons_112 rfl (by decide) ?_
        by_cases c31 : a28 = (0 : Int64)
        · rw [if_pos c31] at h30
          refine mr_lcmp_eq_t (t := 134) dX11_noons_113 rfl dX11_noons_114 (by decide) c31 ?_
          refine mr_ldc2 (pc' := 137) (v := (-2 : Int64)) dX11_noons_134 rfl rfl ?_
          obtain rfl := Option.some.inj h30
          exact mr_lreturn dX11_noons_137 rfl
        · rw [if_neg c31] at h30
          refine mr_lcmp_eq_f (t := 134) (pc' := 117) dX11_noons_113 rfl dX11_noons_114 (by decide) rfl c31 ?_
          refine mr_lload (pc' := 119) dX11_noons_117 rfl rfl ?_
          refine mr_lload (pc' := 121) dX11_noons_119 rfl rfl ?_
          refine mr_iconst (pc' := 122) (v := (1 : Int32)) dX11_noons_121 rfl (by decide) ?_
          obtain ⟨q32, g33, h34⟩ := Option.bind_eq_some_iff.mp h30
          refine mr_cs (pc' := 125) (d1 := 1) dX11_noons_122 rfl rfl rfl rfl (by decide) (Nat.le_of_ble_eq_true rfl) rfl rfl rfl (by decide) (ok_X11_lowest hR  g33) ?_
          show mr X _ _ 125 _ [.long q32] (MM RR S) _
          refine mr_ldc2 (pc' := 128) (v := (2 : Int64)) dX11_noons_125 rfl rfl ?_
          obtain ⟨a35, g36, h37⟩ := Option.bind_eq_some_iff.mp h34
          refine mr_lrem (pc' := 129) dX11_noons_128 rfl g36 ?_
          refine mr_lconst (pc' := 130) (v := (0 : Int64)) dX11_noons_129 rfl (by decide) ?_
          by_cases c38 : a35 = (0 : Int64)
          · rw [if_pos c38] at h37
            refine mr_lcmp_ne_f (t := 138) (pc' := 134) dX11_noons_130 rfl dX11_noons_131 (by decide) rfl (not_not_intro c38) ?_
            refine mr_ldc2 (pc' := 137) (v := (-2 : Int64)) dX11_noons_134 rfl rfl ?_
            obtain rfl := Option.some.inj h37
            exact mr_lreturn dX11_noons_137 rfl
          · rw [if_neg c38] at h37
            refine mr_lcmp_ne_t (t := 138) dX11_noons_130 rfl dX11_noons_131 (by decide) c38 ?_
            refine mr_ldc2 (pc' := 141) (v := (12 : Int64)) dX11_noons_138 rfl rfl ?_
            refine mr_lload (pc' := 143) dX11_noons_141 rfl rfl ?_
            refine mr_lmul (pc' := 144) dX11_noons_143 rfl ?_
            refine mr_lload (pc' := 146) dX11_noons_144 rfl rfl ?_
            refine mr_lmul (pc' := 147) dX11_noons_146 rfl ?_
            refine mr_lload (pc' := 149) dX11_noons_147 rfl rfl ?_
            refine mr_iload_n (pc' := 150) dX11_noons_149 rfl rfl ?_
            obtain ⟨q39, g40, h41⟩ := Option.bind_eq_some_iff.mp h37
            refine mr_cs (pc' := 153) (d1 := 1) dX11_noons_150 rfl rfl rfl rfl (by decide) (Nat.le_of_ble_eq_true rfl) rfl rfl rfl (by decide) (ok_X11_lowest hR  g40) ?_
            show mr X _ _ 153 _ [.long q39] (MM RR S) _
            obtain rfl := Option.some.inj h41
            exact mr_lreturn dX11_noons_153 rfl
def f_X11_by (v1 : Int32) (v2 : Int32) (v3 : Int32) (v4 : Int32) (S : fS) : Option (Int64) :=
  if (0 : Int32) ≤ v3 then ((f_X11_stairOf v3 (2 : Int32) S).bind fun q2 =>
  if (0 : Int32) ≤ v3 then ((f_X11_otherEnd v3 v1 S).bind fun q6 =>
  if q6 < (0 : Int32) then (some (-1 : Int64)) else
  (if v4 < (v2 + q2) then (some (-1 : Int64)) else
  ((gL S 162 1210 (((10 : Int32) * (v2 + q2)) + q6)).bind fun a11 =>
  if (0 : Int64) ≤ a11 then ((gL S 162 1210 (((10 : Int32) * (v2 + q2)) + q6)).bind fun a15 =>
  if (0 : Int32) ≤ v3 then ((f_X11_stairParts v3 S).bind fun q19 =>
  some (a15 + ((Int32.toInt64 q2) * q19))) else
  ((f_X11_floorParts v1 S).bind fun q22 =>
  some (a15 + ((Int32.toInt64 q2) * q22)))) else
  (some (-1 : Int64))))) else
  (if v1 < (0 : Int32) then (some (-1 : Int64)) else
  (if v4 < (v2 + q2) then (some (-1 : Int64)) else
  ((gL S 162 1210 (((10 : Int32) * (v2 + q2)) + v1)).bind fun a27 =>
  if (0 : Int64) ≤ a27 then ((gL S 162 1210 (((10 : Int32) * (v2 + q2)) + v1)).bind fun a31 =>
  if (0 : Int32) ≤ v3 then ((f_X11_stairParts v3 S).bind fun q35 =>
  some (a31 + ((Int32.toInt64 q2) * q35))) else
  ((f_X11_floorParts v1 S).bind fun q38 =>
  some (a31 + ((Int32.toInt64 q2) * q38)))) else
  (some (-1 : Int64)))))) else
  (if (0 : Int32) ≤ v3 then ((f_X11_otherEnd v3 v1 S).bind fun q42 =>
  if q42 < (0 : Int32) then (some (-1 : Int64)) else
  (if v4 < (v2 + (1 : Int32)) then (some (-1 : Int64)) else
  ((gL S 162 1210 (((10 : Int32) * (v2 + (1 : Int32))) + q42)).bind fun a47 =>
  if (0 : Int64) ≤ a47 then ((gL S 162 1210 (((10 : Int32) * (v2 + (1 : Int32))) + q42)).bind fun a51 =>
  if (0 : Int32) ≤ v3 then ((f_X11_stairParts v3 S).bind fun q55 =>
  some (a51 + ((Int32.toInt64 (1 : Int32)) * q55))) else
  ((f_X11_floorParts v1 S).bind fun q58 =>
  some (a51 + ((Int32.toInt64 (1 : Int32)) * q58)))) else
  (some (-1 : Int64))))) else
  (if v1 < (0 : Int32) then (some (-1 : Int64)) else
  (if v4 < (v2 + (1 : Int32)) then (some (-1 : Int64)) else
  ((gL S 162 1210 (((10 : Int32) * (v2 + (1 : Int32))) + v1)).bind fun a63 =>
  if (0 : Int64) ≤ a63 then ((gL S 162 1210 (((10 : Int32) * (v2 + (1 : Int32))) + v1)).bind fun a67 =>
  if (0 : Int32) ≤ v3 then ((f_X11_stairParts v3 S).bind fun q71 =>
  some (a67 + ((Int32.toInt64 (1 : Int32)) * q71))) else
  ((f_X11_floorParts v1 S).bind fun q74 =>
  some (a67 + ((Int32.toInt64 (1 : Int32)) * q74)))) else
  (some (-1 : Int64))))))
set_option maxHeartbeats 4000000 in
set_option maxRecDepth 100000 in
theorem ok_X11_by {X : mm_C} {RR : Nat → Nat → Option Nat} (hR : RRok RR) {v1 : Int32} {v2 : Int32} {v3 : Int32} {v4 : Int32}  {S : fS} {r : Int64} (h : f_X11_by v1 v2 v3 v4 S = some r) : mr X 2 mY_X11_by 0 (lv_args 0 [.ref 145, .int v1, .int v2, .int v3, .int v4]) [] (MM RR S) (some (.long r), MM RR S) := by
  unfold f_X11_by at h
  show mr X _ _ 0 [(0, .ref 145), (1, .int v1), (2, .int v2), (3, .int v3), (4, .int v4)] [] (MM RR S) _
  refine mr_iload_n (pc' := 1) dX11_by_0 rfl rfl ?_
  by_cases c1 : (0 : Int32) ≤ v3
  · rw [if_pos c1] at h
    refine mr_if_ge_t (t := 8) dX11_by_1 (by decide) c1 ?_
    refine mr_aload_n (pc' := 9) dX11_by_8 rfl rfl ?_
    refine mr_iload_n (pc' := 10) dX11_by_9 rfl rfl ?_
    refine mr_iconst (pc' := 11) (v := (2 : Int32)) dX11_by_10 rfl (by decide) ?_
    obtain ⟨q2, g3, h4⟩ := Option.bind_eq_some_iff.mp h
    refine mr_cv (pc' := 14) (a := 145) (d1 := 0) dX11_by_11 rfl rfl rfl rfl rfl rfl (by decide) rfl (by decide) (ok_X11_stairOf hR  g3) ?_
    show mr X _ _ 14 _ [.int q2] (MM RR S) _
    refine mr_istore (pc' := 16) (lv' := [(5, .int q2), (0, .ref 145), (1, .int v1), (2, .int v2), (3, .int v3), (4, .int v4)]) dX11_by_14 rfl (by decide) rfl ?_
    refine mr_iload_n (pc' := 17) dX11_by_16 rfl rfl ?_
    by_cases c5 : (0 : Int32) ≤ v3
    · rw [if_pos c5] at h4
      refine mr_if_ge_t (t := 24) dX11_by_17 (by decide) c5 ?_
      refine mr_aload_n (pc' := 25) dX11_by_24 rfl rfl ?_
      refine mr_iload_n (pc' := 26) dX11_by_25 rfl rfl ?_
      refine mr_iload_n (pc' := 27) dX11_by_26 rfl rfl ?_
      obtain ⟨q6, g7, h8⟩ := Option.bind_eq_some_iff.mp h4
      refine mr_cv (pc' := 30) (a := 145) (d1 := 1) dX11_by_27 rfl rfl rfl rfl rfl rfl (by decide) rfl (by decide) (ok_X11_otherEnd hR  g7) ?_
      show mr X _ _ 30 _ [.int q6] (MM RR S) _
      refine mr_istore (pc' := 32) (lv' := [(6, .int q6), (5, .int q2), (0, .ref 145), (1, .int v1), (2, .int v2), (3, .int v3), (4, .int v4)]) dX11_by_30 rfl (by decide) rfl ?_
      refine mr_iload (pc' := 34) dX11_by_32 rfl rfl ?_
      by_cases c9 : q6 < (0 : Int32)
      · rw [if_pos c9] at h8
        refine mr_if_lt_t (t := 66) dX11_by_34 (by decide) c9 ?_
        refine mr_ldc2 (pc' := 69) (v := (-1 : Int64)) dX11_by_66 rfl rfl ?_
        obtain rfl := Option.some.inj h8
        exact mr_lreturn dX11_by_69 rfl
      · rw [if_neg c9] at h8
        refine mr_if_lt_f (t := 66) (pc' := 37) dX11_by_34 (by decide) rfl c9 ?_
        refine mr_iload_n (pc' := 38) dX11_by_37 rfl rfl ?_
        refine mr_iload (pc' := 40) dX11_by_38 rfl rfl ?_
        refine mr_iadd (pc' := 41) dX11_by_40 rfl ?_
        refine mr_iload (pc' := 43) dX11_by_41 rfl rfl ?_
        by_cases c10 : v4 < (v2 + q2)
        · rw [if_pos c10] at h8
          refine mr_icmp_gt_t (t := 66) dX11_by_43 (by decide) c10 ?_
          refine mr_ldc2 (pc' := 69) (v := (-1 : Int64)) dX11_by_66 rfl rfl ?_
          obtain rfl := Option.some.inj h8
          exact mr_lreturn dX11_by_69 rfl
        · rw [if_neg c10] at h8
          refine mr_icmp_gt_f (t := 66) (pc' := 46) dX11_by_43 (by decide) rfl c10 ?_
          refine mr_aload_n (pc' := 47) dX11_by_46 rfl rfl ?_
          refine mr_getR (pc' := 50) (ci := 11) (j := 30) (b := 162) hR dX11_by_47 rfl rfl rfl (by decide) (by decide) (by decide) rfl rfl ?_
          refine mr_bipush (pc' := 52) (v := (10 : Int32)) dX11_by_50 rfl (by decide) ?_
          refine mr_iload_n (pc' := 53) dX11_by_52 rfl rfl ?_
          refine mr_iload (pc' := 55) dX11_by_53 rfl rfl ?_
          refine mr_iadd (pc' := 56) dX11_by_55 rfl ?_
          refine mr_imul (pc' := 57) dX11_by_56 rfl ?_
          refine mr_iload (pc' := 59) dX11_by_57 rfl rfl ?_
          refine mr_iadd (pc' := 60) dX11_by_59 rfl ?_
          obtain ⟨a11, g12, h13⟩ := Option.bind_eq_some_iff.mp h8
          refine mr_lald (pc' := 61) dX11_by_60 rfl rfl rfl g12 ?_
          refine mr_lconst (pc' := 62) (v := (0 : Int64)) dX11_by_61 rfl (by decide) ?_
          by_cases c14 : (0 : Int64) ≤ a11
          · rw [if_pos c14] at h13
            refine mr_lcmp_ge_t (t := 70) dX11_by_62 rfl dX11_by_63 (by decide) c14 ?_
            refine mr_aload_n (pc' := 71) dX11_by_70 rfl rfl ?_
            refine mr_getR (pc' := 74) (ci := 11) (j := 30) (b := 162) hR dX11_by_71 rfl rfl rfl (by decide) (by decide) (by decide) rfl rfl ?_
            refine mr_bipush (pc' := 76) (v := (10 : Int32)) dX11_by_74 rfl (by decide) ?_
            refine mr_iload_n (pc' := 77) dX11_by_76 rfl rfl ?_
            refine mr_iload (pc' := 79) dX11_by_77 rfl rfl ?_
            refine mr_iadd (pc' := 80) dX11_by_79 rfl ?_
            refine mr_imul (pc' := 81) dX11_by_80 rfl ?_
            refine mr_iload (pc' := 83) dX11_by_81 rfl rfl ?_
            refine mr_iadd (pc' := 84) dX11_by_83 rfl ?_
            obtain ⟨a15, g16, h17⟩ := Option.bind_eq_some_iff.mp h13
            refine mr_lald (pc' := 85) dX11_by_84 rfl rfl rfl g16 ?_
            refine mr_iload (pc' := 87) dX11_by_85 rfl rfl ?_
            refine mr_i2l (pc' := 88) dX11_by_87 rfl ?_
            refine mr_iload_n (pc' := 89) dX11_by_88 rfl rfl ?_
            by_cases c18 : (0 : Int32) ≤ v3
            · rw [if_pos c18] at h17
              refine mr_if_ge_t (t := 100) dX11_by_89 (by decide) c18 ?_
              refine mr_aload_n (pc' := 101) dX11_by_100 rfl rfl ?_
              refine mr_iload_n (pc' := 102) dX11_by_101 rfl rfl ?_
              obtain ⟨q19, g20, h21⟩ := Option.bind_eq_some_iff.mp h17
              refine mr_cv (pc' := 105) (a := 145) (d1 := 1) dX11_by_102 rfl rfl rfl rfl rfl rfl (by decide) rfl (by decide) (ok_X11_stairParts hR  g20) ?_
              show mr X _ _ 105 _ [.long q19, .long (Int32.toInt64 q2), .long a15] (MM RR S) _
              refine mr_lmul (pc' := 106) dX11_by_105 rfl ?_
              refine mr_ladd (pc' := 107) dX11_by_106 rfl ?_
              obtain rfl := Option.some.inj h21
              exact mr_lreturn dX11_by_107 rfl
            · rw [if_neg c18] at h17
              refine mr_if_ge_f (t := 100) (pc' := 92) dX11_by_89 (by decide) rfl c18 ?_
              refine mr_aload_n (pc' := 93) dX11_by_92 rfl rfl ?_
              refine mr_iload_n (pc' := 94) dX11_by_93 rfl rfl ?_
              obtain ⟨q22, g23, h24⟩ := Option.bind_eq_some_iff.mp h17
              refine mr_cv (pc' := 97) (a := 145) (d1 := 0) dX11_by_94 rfl rfl rfl rfl rfl rfl (by decide) rfl (by decide) (ok_X11_floorParts hR  g23) ?_
              show mr X _ _ 97 _ [.long q22, .long (Int32.toInt64 q2), .long a15] (MM RR S) _
              refine mr_goto (t := 105) dX11_by_97 (by decide) ?_
              refine mr_lmul (pc' := 106) dX11_by_105 rfl ?_
              refine mr_ladd (pc' := 107) dX11_by_106 rfl ?_
              obtain rfl := Option.some.inj h24
              exact mr_lreturn dX11_by_107 rfl
          · rw [if_neg c14] at h13
            refine mr_lcmp_ge_f (t := 70) (pc' := 66) dX11_by_62 rfl dX11_by_63 (by decide) rfl c14 ?_
            refine mr_ldc2 (pc' := 69) (v := (-1 : Int64)) dX11_by_66 rfl rfl ?_
            obtain rfl := Option.some.inj h13
            exact mr_lreturn dX11_by_69 rfl
    · rw [if_neg c5] at h4
      refine mr_if_ge_f (t := 24) (pc' := 20) dX11_by_17 (by decide) rfl c5 ?_
      refine mr_iload_n (pc' := 21) dX11_by_20 rfl rfl ?_
      refine mr_goto (t := 30) dX11_by_21 (by decide) ?_
      refine mr_istore (pc' := 32) (lv' := [(6, .int v1), (5, .int q2), (0, .ref 145), (1, .int v1), (2, .int v2), (3, .int v3), (4, .int v4)]) dX11_by_30 rfl (by decide) rfl ?_
      refine mr_iload (pc' := 34) dX11_by_32 rfl rfl ?_
      by_cases c25 : v1 < (0 : Int32)
      · rw [if_pos c25] at h4
        refine mr_if_lt_t (t := 66) dX11_by_34 (by decide) c25 ?_
        refine mr_ldc2 (pc' := 69) (v := (-1 : Int64)) dX11_by_66 rfl rfl ?_
        obtain rfl := Option.some.inj h4
        exact mr_lreturn dX11_by_69 rfl
      · rw [if_neg c25] at h4
        refine mr_if_lt_f (t := 66) (pc' := 37) dX11_by_34 (by decide) rfl c25 ?_
        refine mr_iload_n (pc' := 38) dX11_by_37 rfl rfl ?_
        refine mr_iload (pc' := 40) dX11_by_38 rfl rfl ?_
        refine mr_iadd (pc' := 41) dX11_by_40 rfl ?_
        refine mr_iload (pc' := 43) dX11_by_41 rfl rfl ?_
        by_cases c26 : v4 < (v2 + q2)
        · rw [if_pos c26] at h4
          refine mr_icmp_gt_t (t := 66) dX11_by_43 (by decide) c26 ?_
          refine mr_ldc2 (pc' := 69) (v := (-1 : Int64)) dX11_by_66 rfl rfl ?_
          obtain rfl := Option.some.inj h4
          exact mr_lreturn dX11_by_69 rfl
        · rw [if_neg c26] at h4
          refine mr_icmp_gt_f (t := 66) (pc' := 46) dX11_by_43 (by decide) rfl c26 ?_
          refine mr_aload_n (pc' := 47) dX11_by_46 rfl rfl ?_
          refine mr_getR (pc' := 50) (ci := 11) (j := 30) (b := 162) hR dX11_by_47 rfl rfl rfl (by decide) (by decide) (by decide) rfl rfl ?_
          refine mr_bipush (pc' := 52) (v := (10 : Int32)) dX11_by_50 rfl (by decide) ?_
          refine mr_iload_n (pc' := 53) dX11_by_52 rfl rfl ?_
          refine mr_iload (pc' := 55) dX11_by_53 rfl rfl ?_
          refine mr_iadd (pc' := 56) dX11_by_55 rfl ?_
          refine mr_imul (pc' := 57) dX11_by_56 rfl ?_
          refine mr_iload (pc' := 59) dX11_by_57 rfl rfl ?_
          refine mr_iadd (pc' := 60) dX11_by_59 rfl ?_
          obtain ⟨a27, g28, h29⟩ := Option.bind_eq_some_iff.mp h4
          refine mr_lald (pc' := 61) dX11_by_60 rfl rfl rfl g28 ?_
          refine mr_lconst (pc' := 62) (v := (0 : Int64)) dX11_by_61 rfl (by decide) ?_
          by_cases c30 : (0 : Int64) ≤ a27
          · rw [if_pos c30] at h29
            refine mr_lcmp_ge_t (t := 70) dX11_by_62 rfl dX11_by_63 (by decide) c30 ?_
            refine mr_aload_n (pc' := 71) dX11_by_70 rfl rfl ?_
            refine mr_getR (pc' := 74) (ci := 11) (j := 30) (b := 162) hR dX11_by_71 rfl rfl rfl (by decide) (by decide) (by decide) rfl rfl ?_
            refine mr_bipush (pc' := 76) (v := (10 : Int32)) dX11_by_74 rfl (by decide) ?_
            refine mr_iload_n (pc' := 77) dX11_by_76 rfl rfl ?_
            refine mr_iload (pc' := 79) dX11_by_77 rfl rfl ?_
            refine mr_iadd (pc' := 80) dX11_by_79 rfl ?_
            refine mr_imul (pc' := 81) dX11_by_80 rfl ?_
            refine mr_iload (pc' := 83) dX11_by_81 rfl rfl ?_
            refine mr_iadd (pc' := 84) dX11_by_83 rfl ?_
            obtain ⟨a31, g32, h33⟩ := Option.bind_eq_some_iff.mp h29
            refine mr_lald (pc' := 85) dX11_by_84 rfl rfl rfl g32 ?_
            refine mr_iload (pc' := 87) dX11_by_85 rfl rfl ?_
            refine mr_i2l (pc' := 88) dX11_by_87 rfl ?_
            refine mr_iload_n (pc' := 89) dX11_by_88 rfl rfl ?_
            by_cases c34 : (0 : Int32) ≤ v3
            · rw [if_pos c34] at h33
              refine mr_if_ge_t (t := 100) dX11_by_89 (by decide) c34 ?_
              refine mr_aload_n (pc' := 101) dX11_by_100 rfl rfl ?_
              refine mr_iload_n (pc' := 102) dX11_by_101 rfl rfl ?_
              obtain ⟨q35, g36, h37⟩ := Option.bind_eq_some_iff.mp h33
              refine mr_cv (pc' := 105) (a := 145) (d1 := 1) dX11_by_102 rfl rfl rfl rfl rfl rfl (by decide) rfl (by decide) (ok_X11_stairParts hR  g36) ?_
              show mr X _ _ 105 _ [.long q35, .long (Int32.toInt64 q2), .long a31] (MM RR S) _
              refine mr_lmul (pc' := 106) dX11_by_105 rfl ?_
              refine mr_ladd (pc' := 107) dX11_by_106 rfl ?_
              obtain rfl := Option.some.inj h37
              exact mr_lreturn dX11_by_107 rfl
            · rw [if_neg c34] at h33
              refine mr_if_ge_f (t := 100) (pc' := 92) dX11_by_89 (by decide) rfl c34 ?_
              refine mr_aload_n (pc' := 93) dX11_by_92 rfl rfl ?_
              refine mr_iload_n (pc' := 94) dX11_by_93 rfl rfl ?_
              obtain ⟨q38, g39, h40⟩ := Option.bind_eq_some_iff.mp h33
              refine mr_cv (pc' := 97) (a := 145) (d1 := 0) dX11_by_94 rfl rfl rfl rfl rfl rfl (by decide) rfl (by decide) (ok_X11_floorParts hR  g39) ?_
              show mr X _ _ 97 _ [.long q38, .long (Int32.toInt64 q2), .long a31] (MM RR S) _
              refine mr_goto (t := 105) dX11_by_97 (by decide) ?_
              refine mr_lmul (pc' := 106) dX11_by_105 rfl ?_
              refine mr_ladd (pc' := 107) dX11_by_106 rfl ?_
              obtain rfl := Option.some.inj h40
              exact mr_lreturn dX11_by_107 rfl
          · rw [if_neg c30] at h29
            refine mr_lcmp_ge_f (t := 70) (pc' := 66) dX11_by_62 rfl dX11_by_63 (by decide) rfl c30 ?_
            refine mr_ldc2 (pc' := 69) (v := (-1 : Int64)) dX11_by_66 rfl rfl ?_
            obtain rfl := Option.some.inj h29
            exact mr_lreturn dX11_by_69 rfl
  · rw [if_neg c1] at h
    refine mr_if_ge_f (t := 8) (pc' := 4) dX11_by_1 (by decide) rfl c1 ?_
    refine mr_iconst (pc' := 5) (v := (1 : Int32)) dX11_by_4 rfl (by decide) ?_
    refine mr_goto (t := 14) dX11_by_5 (by decide) ?_
    refine mr_istore (pc' := 16) (lv' := [(5, .int (1 : Int32)), (0, .ref 145), (1, .int v1), (2, .int v2), (3, .int v3), (4, .int v4)]) dX11_by_14 rfl (by decide) rfl ?_
    refine mr_iload_n (pc' := 17) dX11_by_16 rfl rfl ?_
    by_cases c41 : (0 : Int32) ≤ v3
    · rw [if_pos c41] at h
      refine mr_if_ge_t (t := 24) dX11_by_17 (by decide) c41 ?_
      refine mr_aload_n (pc' := 25) dX11_by_24 rfl rfl ?_
      refine mr_iload_n (pc' := 26) dX11_by_25 rfl rfl ?_
      refine mr_iload_n (pc' := 27) dX11_by_26 rfl rfl ?_
      obtain ⟨q42, g43, h44⟩ := Option.bind_eq_some_iff.mp h
      refine mr_cv (pc' := 30) (a := 145) (d1 := 1) dX11_by_27 rfl rfl rfl rfl rfl rfl (by decide) rfl (by decide) (ok_X11_otherEnd hR  g43) ?_
      show mr X _ _ 30 _ [.int q42] (MM RR S) _
      refine mr_istore (pc' := 32) (lv' := [(6, .int q42), (5, .int (1 : Int32)), (0, .ref 145), (1, .int v1), (2, .int v2), (3, .int v3), (4, .int v4)]) dX11_by_30 rfl (by decide) rfl ?_
      refine mr_iload (pc' := 34) dX11_by_32 rfl rfl ?_
      by_cases c45 : q42 < (0 : Int32)
      · rw [if_pos c45] at h44
        refine mr_if_lt_t (t := 66) dX11_by_34 (by decide) c45 ?_
        refine mr_ldc2 (pc' := 69) (v := (-1 : Int64)) dX11_by_66 rfl rfl ?_
        obtain rfl := Option.some.inj h44
        exact mr_lreturn dX11_by_69 rfl
      · rw [if_neg c45] at h44
        refine mr_if_lt_f (t := 66) (pc' := 37) dX11_by_34 (by decide) rfl c45 ?_
        refine mr_iload_n (pc' := 38) dX11_by_37 rfl rfl ?_
        refine mr_iload (pc' := 40) dX11_by_38 rfl rfl ?_
        refine mr_iadd (pc' := 41) dX11_by_40 rfl ?_
        refine mr_iload (pc' := 43) dX11_by_41 rfl rfl ?_
        by_cases c46 : v4 < (v2 + (1 : Int32))
        · rw [if_pos c46] at h44
          refine mr_icmp_gt_t (t := 66) dX11_by_43 (by decide) c46 ?_
          refine mr_ldc2 (pc' := 69) (v := (-1 : Int64)) dX11_by_66 rfl rfl ?_
          obtain rfl := Option.some.inj h44
          exact mr_lreturn dX11_by_69 rfl
        · rw [if_neg c46] at h44
          refine mr_icmp_gt_f (t := 66) (pc' := 46) dX11_by_43 (by decide) rfl c46 ?_
          refine mr_aload_n (pc' := 47) dX11_by_46 rfl rfl ?_
          refine mr_getR (pc' := 50) (ci := 11) (j := 30) (b := 162) hR dX11_by_47 rfl rfl rfl (by decide) (by decide) (by decide) rfl rfl ?_
          refine mr_bipush (pc' := 52) (v := (10 : Int32)) dX11_by_50 rfl (by decide) ?_
          refine mr_iload_n (pc' := 53) dX11_by_52 rfl rfl ?_
          refine mr_iload (pc' := 55) dX11_by_53 rfl rfl ?_
          refine mr_iadd (pc' := 56) dX11_by_55 rfl ?_
          refine mr_imul (pc' := 57) dX11_by_56 rfl ?_
          refine mr_iload (pc' := 59) dX11_by_57 rfl rfl ?_
          refine mr_iadd (pc' := 60) dX11_by_59 rfl ?_
          obtain ⟨a47, g48, h49⟩ := Option.bind_eq_some_iff.mp h44
          refine mr_lald (pc' := 61) dX11_by_60 rfl rfl rfl g48 ?_
          refine mr_lconst (pc' := 62) (v := (0 : Int64)) dX11_by_61 rfl (by decide) ?_
          by_cases c50 : (0 : Int64) ≤ a47
          · rw [if_pos c50] at h49
            refine mr_lcmp_ge_t (t := 70) dX11_by_62 rfl dX11_by_63 (by decide) c50 ?_
            refine mr_aload_n (pc' := 71) dX11_by_70 rfl rfl ?_
            refine mr_getR (pc' := 74) (ci := 11) (j := 30) (b := 162) hR dX11_by_71 rfl rfl rfl (by decide) (by decide) (by decide) rfl rfl ?_
            refine mr_bipush (pc' := 76) (v := (10 : Int32)) dX11_by_74 rfl (by decide) ?_
            refine mr_iload_n (pc' := 77) dX11_by_76 rfl rfl ?_
            refine mr_iload (pc' := 79) dX11_by_77 rfl rfl ?_
            refine mr_iadd (pc' := 80) dX11_by_79 rfl ?_
            refine mr_imul (pc' := 81) dX11_by_80 rfl ?_
            refine mr_iload (pc' := 83) dX11_by_81 rfl rfl ?_
            refine mr_iadd (pc' := 84) dX11_by_83 rfl ?_
            obtain ⟨a51, g52, h53⟩ := Option.bind_eq_some_iff.mp h49
            refine mr_lald (pc' := 85) dX11_by_84 rfl rfl rfl g52 ?_
            refine mr_iload (pc' := 87) dX11_by_85 rfl rfl ?_
            refine mr_i2l (pc' := 88) dX11_by_87 rfl ?_
            refine mr_iload_n (pc' := 89) dX11_by_88 rfl rfl ?_
            by_cases c54 : (0 : Int32) ≤ v3
            · rw [if_pos c54] at h53
              refine mr_if_ge_t (t := 100) dX11_by_89 (by decide) c54 ?_
              refine mr_aload_n (pc' := 101) dX11_by_100 rfl rfl ?_
              refine mr_iload_n (pc' := 102) dX11_by_101 rfl rfl ?_
              obtain ⟨q55, g56, h57⟩ := Option.bind_eq_some_iff.mp h53
              refine mr_cv (pc' := 105) (a := 145) (d1 := 1) dX11_by_102 rfl rfl rfl rfl rfl rfl (by decide) rfl (by decide) (ok_X11_stairParts hR  g56) ?_
              show mr X _ _ 105 _ [.long q55, .long (Int32.toInt64 (1 : Int32)), .long a51] (MM RR S) _
              refine mr_lmul (pc' := 106) dX11_by_105 rfl ?_
              refine mr_ladd (pc' := 107) dX11_by_106 rfl ?_
              obtain rfl := Option.some.inj h57
              exact mr_lreturn dX11_by_107 rfl
            · rw [if_neg c54] at h53
              refine mr_if_ge_f (t := 100) (pc' := 92) dX11_by_89 (by decide) rfl c54 ?_
              refine mr_aload_n (pc' := 93) dX11_by_92 rfl rfl ?_
              refine mr_iload_n (pc' := 94) dX11_by_93 rfl rfl ?_
              obtain ⟨q58, g59, h60⟩ := Option.bind_eq_some_iff.mp h53
              refine mr_cv (pc' := 97) (a := 145) (d1 := 0) dX11_by_94 rfl rfl rfl rfl rfl rfl (by decide) rfl (by decide) (ok_X11_floorParts hR  g59) ?_
              show mr X _ _ 97 _ [.long q58, .long (Int32.toInt64 (1 : Int32)), .long a51] (MM RR S) _
              refine mr_goto (t := 105) dX11_by_97 (by decide) ?_
              refine mr_lmul (pc' := 106) dX11_by_105 rfl ?_
              refine mr_ladd (pc' := 107) dX11_by_106 rfl ?_
              obtain rfl := Option.some.inj h60
              exact mr_lreturn dX11_by_107 rfl
          · rw [if_neg c50] at h49
            refine mr_lcmp_ge_f (t := 70) (pc' := 66) dX11_by_62 rfl dX11_by_63 (by decide) rfl c50 ?_
            refine mr_ldc2 (pc' := 69) (v := (-1 : Int64)) dX11_by_66 rfl rfl ?_
            obtain rfl := Option.some.inj h49
            exact mr_lreturn dX11_by_69 rfl
    · rw [if_neg c41] at h
      refine mr_if_ge_f (t := 24) (pc' := 20) dX11_by_17 (by decide) rfl c41 ?_
      refine mr_iload_n (pc' := 21) dX11_by_20 rfl rfl ?_
      refine mr_goto (t := 30) dX11_by_21 (by decide) ?_
      refine mr_istore (pc' := 32) (lv' := [(6, .int v1), (5, .int (1 : Int32)), (0, .ref 145), (1, .int v1), (2, .int v2), (3, .int v3), (4, .int v4)]) dX11_by_30 rfl (by decide) rfl ?_
      refine mr_iload (pc' := 34) dX11_by_32 rfl rfl ?_
      by_cases c61 : v1 < (0 : Int32)
      · rw [if_pos c61] at h
        refine mr_if_lt_t (t := 66) dX11_by_34 (by decide) c61 ?_
        refine mr_ldc2 (pc' := 69) (v := (-1 : Int64)) dX11_by_66 rfl rfl ?_
        obtain rfl := Option.some.inj h
        exact mr_lreturn dX11_by_69 rfl
      · rw [if_neg c61] at h
        refine mr_if_lt_f (t := 66) (pc' := 37) dX11_by_34 (by decide) rfl c61 ?_
        refine mr_iload_n (pc' := 38) dX11_by_37 rfl rfl ?_
        refine mr_iload (pc' := 40) dX11_by_38 rfl rfl ?_
        refine mr_iadd (pc' := 41) dX11_by_40 rfl ?_
        refine mr_iload (pc' := 43) dX11_by_41 rfl rfl ?_
        by_cases c62 : v4 < (v2 + (1 : Int32))
        · rw [if_pos c62] at h
          refine mr_icmp_gt_t (t := 66) dX11_by_43 (by decide) c62 ?_
          refine mr_ldc2 (pc' := 69) (v := (-1 : Int64)) dX11_by_66 rfl rfl ?_
          obtain rfl := Option.some.inj h
          exact mr_lreturn dX11_by_69 rfl
        · rw [if_neg c62] at h
          refine mr_icmp_gt_f (t := 66) (pc' := 46) dX11_by_43 (by decide) rfl c62 ?_
          refine mr_aload_n (pc' := 47) dX11_by_46 rfl rfl ?_
          refine mr_getR (pc' := 50) (ci := 11) (j := 30) (b := 162) hR dX11_by_47 rfl rfl rfl (by decide) (by decide) (by decide) rfl rfl ?_
          refine mr_bipush (pc' := 52) (v := (10 : Int32)) dX11_by_50 rfl (by decide) ?_
          refine mr_iload_n (pc' := 53) dX11_by_52 rfl rfl ?_
          refine mr_iload (pc' := 55) dX11_by_53 rfl rfl ?_
          refine mr_iadd (pc' := 56) dX11_by_55 rfl ?_
          refine mr_imul (pc' := 57) dX11_by_56 rfl ?_
          refine mr_iload (pc' := 59) dX11_by_57 rfl rfl ?_
          refine mr_iadd (pc' := 60) dX11_by_59 rfl ?_
          obtain ⟨a63, g64, h65⟩ := Option.bind_eq_some_iff.mp h
          refine mr_lald (pc' := 61) dX11_by_60 rfl rfl rfl g64 ?_
          refine mr_lconst (pc' := 62) (v := (0 : Int64)) dX11_by_61 rfl (by decide) ?_
          by_cases c66 : (0 : Int64) ≤ a63
          · rw [if_pos c66] at h65
            refine mr_lcmp_ge_t (t := 70) dX11_by_62 rfl dX11_by_63 (by decide) c66 ?_
            refine mr_aload_n (pc' := 71) dX11_by_70 rfl rfl ?_
            refine mr_getR (pc' := 74) (ci := 11) (j := 30) (b := 162) hR dX11_by_71 rfl rfl rfl (by decide) (by decide) (by decide) rfl rfl ?_
            refine mr_bipush (pc' := 76) (v := (10 : Int32)) dX11_by_74 rfl (by decide) ?_
            refine mr_iload_n (pc' := 77) dX11_by_76 rfl rfl ?_
            refine mr_iload (pc' := 79) dX11_by_77 rfl rfl ?_
            refine mr_iadd (pc' := 80) dX11_by_79 rfl ?_
            refine mr_imul (pc' := 81) dX11_by_80 rfl ?_
            refine mr_iload (pc' := 83) dX11_by_81 rfl rfl ?_
            refine mr_iadd (pc' := 84) dX11_by_83 rfl ?_
            obtain ⟨a67, g68, h69⟩ := Option.bind_eq_some_iff.mp h65
            refine mr_lald (pc' := 85) dX11_by_84 rfl rfl rfl g68 ?_
            refine mr_iload (pc' := 87) dX11_by_85 rfl rfl ?_
            refine mr_i2l (pc' := 88) dX11_by_87 rfl ?_
            refine mr_iload_n (pc' := 89) dX11_by_88 rfl rfl ?_
            by_cases c70 : (0 : Int32) ≤ v3
            · rw [if_pos c70] at h69
              refine mr_if_ge_t (t := 100) dX11_by_89 (by decide) c70 ?_
              refine mr_aload_n (pc' := 101) dX11_by_100 rfl rfl ?_
              refine mr_iload_n (pc' := 102) dX11_by_101 rfl rfl ?_
              obtain ⟨q71, g72, h73⟩ := Option.bind_eq_some_iff.mp h69
              refine mr_cv (pc' := 105) (a := 145) (d1 := 1) dX11_by_102 rfl rfl rfl rfl rfl rfl (by decide) rfl (by decide) (ok_X11_stairParts hR  g72) ?_
              show mr X _ _ 105 _ [.long q71, .long (Int32.toInt64 (1 : Int32)), .long a67] (MM RR S) _
              refine mr_lmul (pc' := 106) dX11_by_105 rfl ?_
              refine mr_ladd (pc' := 107) dX11_by_106 rfl ?_
              obtain rfl := Option.some.inj h73
              exact mr_lreturn dX11_by_107 rfl
            · rw [if_neg c70] at h69
              refine mr_if_ge_f (t := 100) (pc' := 92) dX11_by_89 (by decide) rfl c70 ?_
              refine mr_aload_n (pc' := 93) dX11_by_92 rfl rfl ?_
              refine mr_iload_n (pc' := 94) dX11_by_93 rfl rfl ?_
              obtain ⟨q74, g75, h76⟩ := Option.bind_eq_some_iff.mp h69
              refine mr_cv (pc' := 97) (a := 145) (d1 := 0) dX11_by_94 rfl rfl rfl rfl rfl rfl (by decide) rfl (by decide) (ok_X11_floorParts hR  g75) ?_
              show mr X _ _ 97 _ [.long q74, .long (Int32.toInt64 (1 : Int32)), .long a67] (MM RR S) _
              refine mr_goto (t := 105) dX11_by_97 (by decide) ?_
              refine mr_lmul (pc' := 106) dX11_by_105 rfl ?_
              refine mr_ladd (pc' := 107) dX11_by_106 rfl ?_
              obtain rfl := Option.some.inj h76
              exact mr_lreturn dX11_by_107 rfl
          · rw [if_neg c66] at h65
            refine mr_lcmp_ge_f (t := 70) (pc' := 66) dX11_by_62 rfl dX11_by_63 (by decide) rfl c66 ?_
            refine mr_ldc2 (pc' := 69) (v := (-1 : Int64)) dX11_by_66 rfl rfl ?_
            obtain rfl := Option.some.inj h65
            exact mr_lreturn dX11_by_69 rfl
