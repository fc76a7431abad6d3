def lp_X11_image_23 (p1 : Int32) (K : fS → Option (Int32 × fS)) : Nat → Int32 → fS → Option (Int32 × fS)
  | 0, _, _ => none
  | n + 1, p2, S0 =>
    if (158 : Int32) ≤ p2 then (K S0) else
    ((gI S0 157 158 p2).bind fun a9 =>
    (sI S0 168 632 (((158 : Int32) * p1) + p2) a9).bind fun S12 =>
    lp_X11_image_23 p1 K n (p2 + (1 : Int32)) S12)
set_option maxHeartbeats 4000000 in
set_option maxRecDepth 100000 in
theorem ok_lp_X11_image_23 {X : mm_C} {RR : Nat → Nat → Option Nat} (hR : RRok RR) {p1 : Int32}  {K : fS → Option (Int32 × fS)} {r : Int32 × fS} (hK : ∀ (Sk : fS), K Sk = some r → mr X 1 mY_X11_image 54 [(0, .ref 145), (1, .int p1)] [] (MM RR Sk) (some (.int r.1), MM RR r.2)) : ∀ (n : Nat) (p2 : Int32) (S0 : fS), lp_X11_image_23 p1 K n p2 S0 = some r → mr X 1 mY_X11_image 23 [(0, .ref 145), (1, .int p1), (2, .int p2)] [] (MM RR S0) (some (.int r.1), MM RR r.2) := by
  intro n
  induction n with
  | zero => intro p2 S0 h; exact mm_no h
  | succ n ih =>
    intro p2 S0 h
    unfold lp_X11_image_23 at h
    refine mr_iload_n (pc' := 24) dX11_image_23 rfl rfl ?_
    refine mr_sipush (pc' := 27) (v := (158 : Int32)) dX11_image_24 rfl (by decide) ?_
    by_cases c8 : (158 : Int32) ≤ p2
    · rw [if_pos c8] at h
      refine mr_icmp_ge_t (t := 54) dX11_image_27 (by decide) c8 ?_
      exact mr_sub [(0, .ref 145), (1, .int p1)] ⟨rfl, rfl, trivial⟩ rfl (hK _  h)
    · rw [if_neg c8] at h
      refine mr_icmp_ge_f (t := 54) (pc' := 30) dX11_image_27 (by decide) rfl c8 ?_
      refine mr_aload_n (pc' := 31) dX11_image_30 rfl rfl ?_
      refine mr_getR (pc' := 34) (ci := 11) (j := 38) (b := 168) hR dX11_image_31 rfl rfl rfl (by decide) (by decide) (by decide) rfl rfl ?_
      refine mr_sipush (pc' := 37) (v := (158 : Int32)) dX11_image_34 rfl (by decide) ?_
      refine mr_iload_n (pc' := 38) dX11_image_37 rfl rfl ?_
      refine mr_imul (pc' := 39) dX11_image_38 rfl ?_
      refine mr_iload_n (pc' := 40) dX11_image_39 rfl rfl ?_
      refine mr_iadd (pc' := 41) dX11_image_40 rfl ?_
      refine mr_aload_n (pc' := 42) dX11_image_41 rfl rfl ?_
      refine mr_getR (pc' := 45) (ci := 11) (j := 25) (b := 157) hR dX11_image_42 rfl rfl rfl (by decide) (by decide) (by decide) rfl rfl ?_
      refine mr_iload_n (pc' := 46) dX11_image_45 rfl rfl ?_
      obtain ⟨a9, g10, h11⟩ := Option.bind_eq_some_iff.mp h
      refine mr_iald (pc' := 47) dX11_image_46 rfl rfl rfl g10 ?_
      obtain ⟨S12, g13, h14⟩ := Option.bind_eq_some_iff.mp h11
      refine mr_iast (pc' := 48) dX11_image_47 rfl rfl rfl g13 ?_
      refine mr_iinc (pc' := 51) (x' := (p2 + (1 : Int32))) (lv' := [(2, .int (p2 + (1 : Int32))), (0, .ref 145), (1, .int p1)]) dX11_image_48 rfl (by decide) rfl rfl rfl ?_
      refine mr_goto (t := 23) dX11_image_51 (by decide) ?_
      exact mr_sub [(0, .ref 145), (1, .int p1), (2, .int (p2 + (1 : Int32)))] ⟨rfl, rfl, rfl, trivial⟩ rfl (ih _ _  h14)
def lp_X11_image_56 (p1 : Int32) (K : fS → Option (Int32 × fS)) : Nat → Int32 → fS → Option (Int32 × fS)
  | 0, _, _ => none
  | n + 1, p2, S0 =>
    if (8 : Int32) ≤ p2 then (K S0) else
    ((gL S0 158 8 p2).bind fun a18 =>
    (sL S0 169 32 (((8 : Int32) * p1) + p2) a18).bind fun S21 =>
    lp_X11_image_56 p1 K n (p2 + (1 : Int32)) S21)
set_option maxHeartbeats 4000000 in
set_option maxRecDepth 100000 in
theorem ok_lp_X11_image_56 {X : mm_C} {RR : Nat → Nat → Option Nat} (hR : RRok RR) {p1 : Int32}  {K : fS → Option (Int32 × fS)} {r : Int32 × fS} (hK : ∀ (Sk : fS), K Sk = some r → mr X 1 mY_X11_image 85 [(0, .ref 145)] [] (MM RR Sk) (some (.int r.1), MM RR r.2)) : ∀ (n : Nat) (p2 : Int32) (S0 : fS), lp_X11_image_56 p1 K n p2 S0 = some r → mr X 1 mY_X11_image 56 [(0, .ref 145), (1, .int p1), (2, .int p2)] [] (MM RR S0) (some (.int r.1), MM RR r.2) := by
  intro n
  induction n with
  | zero => intro p2 S0 h; exact mm_no h
  | succ n ih =>
    intro p2 S0 h
    unfold lp_X11_image_56 at h
    refine mr_iload_n (pc' := 57) dX11_image_56 rfl rfl ?_
    refine mr_bipush (pc' := 59) (v := (8 : Int32)) dX11_image_57 rfl (by decide) ?_
    by_cases c17 : (8 : Int32) ≤ p2
    · rw [if_pos c17] at h
      refine mr_icmp_ge_t (t := 85) dX11_image_59 (by decide) c17 ?_
      exact mr_sub [(0, .ref 145)] ⟨rfl, trivial⟩ rfl (hK _  h)
    · rw [if_neg c17] at h
      refine mr_icmp_ge_f (t := 85) (pc' := 62) dX11_image_59 (by decide) rfl c17 ?_
      refine mr_aload_n (pc' := 63) dX11_image_62 rfl rfl ?_
      refine mr_getR (pc' := 66) (ci := 11) (j := 39) (b := 169) hR dX11_image_63 rfl rfl rfl (by decide) (by decide) (by decide) rfl rfl ?_
      refine mr_bipush (pc' := 68) (v := (8 : Int32)) dX11_image_66 rfl (by decide) ?_
      refine mr_iload_n (pc' := 69) dX11_image_68 rfl rfl ?_
      refine mr_imul (pc' := 70) dX11_image_69 rfl ?_
      refine mr_iload_n (pc' := 71) dX11_image_70 rfl rfl ?_
      refine mr_iadd (pc' := 72) dX11_image_71 rfl ?_
      refine mr_aload_n (pc' := 73) dX11_image_72 rfl rfl ?_
      refine mr_getR (pc' := 76) (ci := 11) (j := 26) (b := 158) hR dX11_image_73 rfl rfl rfl (by decide) (by decide) (by decide) rfl rfl ?_
      refine mr_iload_n (pc' := 77) dX11_image_76 rfl rfl ?_
      obtain ⟨a18, g19, h20⟩ := Option.bind_eq_some_iff.mp h
      refine mr_lald (pc' := 78) dX11_image_77 rfl rfl rfl g19 ?_
      obtain ⟨S21, g22, h23⟩ := Option.bind_eq_some_iff.mp h20
      refine mr_last (pc' := 79) dX11_image_78 rfl rfl rfl g22 ?_
      refine mr_iinc (pc' := 82) (x' := (p2 + (1 : Int32))) (lv' := [(2, .int (p2 + (1 : Int32))), (0, .ref 145), (1, .int p1)]) dX11_image_79 rfl (by decide) rfl rfl rfl ?_
      refine mr_goto (t := 56) dX11_image_82 (by decide) ?_
      exact mr_sub [(0, .ref 145), (1, .int p1), (2, .int (p2 + (1 : Int32)))] ⟨rfl, rfl, rfl, trivial⟩ rfl (ih _ _  h23)
def f_X11_image (v1 : Int32) (S : fS) : Option (Int32 × fS) :=
  (f_X11_in (Int32.toInt64 v1) (0 : Int64) (3 : Int64) S).bind fun q1 =>
  if q1 = (0 : Int32) then (some ((-1 : Int32), S)) else
  ((sI S 170 4 v1 (vp_nar .boolean (1 : Int32))).bind fun S5 =>
  lp_X11_image_23 v1 (fun S15 => lp_X11_image_56 v1 (fun S24 => (gI S24 157 158 (3 : Int32)).bind fun a26 =>
  some (a26, S24)) FU (0 : Int32) S15) FU (0 : Int32) S5)
set_option maxHeartbeats 4000000 in
set_option maxRecDepth 100000 in
theorem ok_X11_image {X : mm_C} {RR : Nat → Nat → Option Nat} (hR : RRok RR) {v1 : Int32}  {S : fS} {r : Int32 × fS} (h : f_X11_image v1 S = some r) : mr X 1 mY_X11_image 0 (lv_args 0 [.ref 145, .int v1]) [] (MM RR S) (some (.int r.1), MM RR r.2) := by
  unfold f_X11_image at h
  show mr X _ _ 0 [(0, .ref 145), (1, .int v1)] [] (MM RR S) _
  refine mr_iload_n (pc' := 1) dX11_image_0 rfl rfl ?_
  refine mr_i2l (pc' := 2) dX11_image_1 rfl ?_
  refine mr_lconst (pc' := 3) (v := (0 : Int64)) dX11_image_2 rfl (by decide) ?_
  refine mr_ldc2 (pc' := 6) (v := (3 : Int64)) dX11_image_3 rfl rfl ?_
  obtain ⟨q1, g2, h3⟩ := Option.bind_eq_some_iff.mp h
  refine mr_cs (pc' := 9) (d1 := 0) dX11_image_6 rfl rfl rfl rfl (by decide) (Nat.le_of_ble_eq_true rfl) rfl rfl rfl (by decide) (ok_X11_in hR  g2) ?_
  show mr X _ _ 9 _ [.int q1] (MM RR S) _
  by_cases c4 : q1 = (0 : Int32)
  · rw [if_pos c4] at h3
    refine mr_if_ne_f (t := 14) (pc' := 12) dX11_image_9 (by decide) rfl (not_not_intro c4) ?_
    refine mr_iconst (pc' := 13) (v := (-1 : Int32)) dX11_image_12 rfl (by decide) ?_
    obtain rfl := Option.some.inj h3
    exact mr_ireturn dX11_image_13 rfl
  · rw [if_neg c4] at h3
    refine mr_if_ne_t (t := 14) dX11_image_9 (by decide) c4 ?_
    refine mr_aload_n (pc' := 15) dX11_image_14 rfl rfl ?_
    refine mr_getR (pc' := 18) (ci := 11) (j := 40) (b := 170) hR dX11_image_15 rfl rfl rfl (by decide) (by decide) (by decide) rfl rfl ?_
    refine mr_iload_n (pc' := 19) dX11_image_18 rfl rfl ?_
    refine mr_iconst (pc' := 20) (v := (1 : Int32)) dX11_image_19 rfl (by decide) ?_
    obtain ⟨S5, g6, h7⟩ := Option.bind_eq_some_iff.mp h3
    refine mr_zast (pc' := 21) dX11_image_20 rfl rfl rfl g6 ?_
    refine mr_iconst (pc' := 22) (v := (0 : Int32)) dX11_image_21 rfl (by decide) ?_
    refine mr_istore_n (pc' := 23) (lv' := [(2, .int (0 : Int32)), (0, .ref 145), (1, .int v1)]) dX11_image_22 rfl (by decide) rfl ?_
    refine mr_sub [(0, .ref 145), (1, .int v1), (2, .int (0 : Int32))] ⟨rfl, rfl, rfl, trivial⟩ rfl ?_
    refine ok_lp_X11_image_23 hR  (fun S15 h16 => ?_) FU _ _  h7
    refine mr_iconst (pc' := 55) (v := (0 : Int32)) dX11_image_54 rfl (by decide) ?_
    refine mr_istore_n (pc' := 56) (lv' := [(2, .int (0 : Int32)), (0, .ref 145), (1, .int v1)]) dX11_image_55 rfl (by decide) rfl ?_
    refine mr_sub [(0, .ref 145), (1, .int v1), (2, .int (0 : Int32))] ⟨rfl, rfl, rfl, trivial⟩ rfl ?_
    refine ok_lp_X11_image_56 hR  (fun S24 h25 => ?_) FU _ _  h16
    refine mr_aload_n (pc' := 86) dX11_image_85 rfl rfl ?_
    refine mr_getR (pc' := 89) (ci := 11) (j := 25) (b := 157) hR dX11_image_86 rfl rfl rfl (by decide) (by decide) (by decide) rfl rfl ?_
    refine mr_iconst (pc' := 90) (v := (3 : Int32)) dX11_image_89 rfl (by decide) ?_
    obtain ⟨a26, g27, h28⟩ := Option.bind_eq_some_iff.mp h25
    refine mr_iald (pc' := 91) dX11_image_90 rfl rfl rfl g27 ?_
    obtain rfl := Option.some.inj h28
    exact mr_ireturn dX11_image_91 rfl
def lp_X11_back_25 (p1 : Int32) (K : fS → Option (Int32 × fS)) : Nat → Int32 → fS → Option (Int32 × fS)
  | 0, _, _ => none
  | n + 1, p2, S0 =>
    if (158 : Int32) ≤ p2 then (K S0) else
    ((gI S0 168 632 (((158 : Int32) * p1) + p2)).bind fun a10 =>
    (sI S0 157 158 p2 a10).bind fun S13 =>
    lp_X11_back_25 p1 K n (p2 + (1 : Int32)) S13)
set_option maxHeartbeats 4000000 in
set_option maxRecDepth 100000 in
theorem ok_lp_X11_back_25 {X : mm_C} {RR : Nat → Nat → Option Nat} (hR : RRok RR) {p1 : Int32}  {K : fS → Option (Int32 × fS)} {r : Int32 × fS} (hK : ∀ (Sk : fS), K Sk = some r → mr X 2 mY_X11_back 56 [(0, .ref 145), (1, .int p1)] [] (MM RR Sk) (some (.int r.1), MM RR r.2)) : ∀ (n : Nat) (p2 : Int32) (S0 : fS), lp_X11_back_25 p1 K n p2 S0 = some r → mr X 2 mY_X11_back 25 [(0, .ref 145), (1, .int p1), (2, .int p2)] [] (MM RR S0) (some (.int r.1), MM RR r.2) := by
  intro n
  induction n with
  | zero => intro p2 S0 h; exact mm_no h
  | succ n ih =>
    intro p2 S0 h
    unfold lp_X11_back_25 at h
    refine mr_iload_n (pc' := 26) dX11_back_25 rfl rfl ?_
    refine mr_sipush (pc' := 29) (v := (158 : Int32)) dX11_back_26 rfl (by decide) ?_
    by_cases c9 : (158 : Int32) ≤ p2
    · rw [if_pos c9] at h
      refine mr_icmp_ge_t (t := 56) dX11_back_29 (by decide) c9 ?_
      exact mr_sub [(0, .ref 145), (1, .int p1)] ⟨rfl, rfl, trivial⟩ rfl (hK _  h)
    · rw [if_neg c9] at h
      refine mr_icmp_ge_f (t := 56) (pc' := 32) dX11_back_29 (by decide) rfl c9 ?_
      refine mr_aload_n (pc' := 33) dX11_back_32 rfl rfl ?_
      refine mr_getR (pc' := 36) (ci := 11) (j := 25) (b := 157) hR dX11_back_33 rfl rfl rfl (by decide) (by decide) (by decide) rfl rfl ?_
      refine mr_iload_n (pc' := 37) dX11_back_36 rfl rfl ?_
      refine mr_aload_n (pc' := 38) dX11_back_37 rfl rfl ?_
      refine mr_getR (pc' := 41) (ci := 11) (j := 38) (b := 168) hR dX11_back_38 rfl rfl rfl (by decide) (by decide) (by decide) rfl rfl ?_
      refine mr_sipush (pc' := 44) (v := (158 : Int32)) dX11_back_41 rfl (by decide) ?_
      refine mr_iload_n (pc' := 45) dX11_back_44 rfl rfl ?_
      refine mr_imul (pc' := 46) dX11_back_45 rfl ?_
      refine mr_iload_n (pc' := 47) dX11_back_46 rfl rfl ?_
      refine mr_iadd (pc' := 48) dX11_back_47 rfl ?_
      obtain ⟨a10, g11, h12⟩ := Option.bind_eq_some_iff.mp h
      refine mr_iald (pc' := 49) dX11_back_48 rfl rfl rfl g11 ?_
      obtain ⟨S13, g14, h15⟩ := Option.bind_eq_some_iff.mp h12
      refine mr_iast (pc' := 50) dX11_back_49 rfl rfl rfl g14 ?_
      refine mr_iinc (pc' := 53) (x' := (p2 + (1 : Int32))) (lv' := [(2, .int (p2 + (1 : Int32))), (0, .ref 145), (1, .int p1)]) dX11_back_50 rfl (by decide) rfl rfl rfl ?_
      refine mr_goto (t := 25) dX11_back_53 (by decide) ?_
      exact mr_sub [(0, .ref 145), (1, .int p1), (2, .int (p2 + (1 : Int32)))] ⟨rfl, rfl, rfl, trivial⟩ rfl (ih _ _  h15)
def lp_X11_back_58 (p1 : Int32) (K : fS → Option (Int32 × fS)) : Nat → Int32 → fS → Option (Int32 × fS)
  | 0, _, _ => none
  | n + 1, p2, S0 =>
    if (8 : Int32) ≤ p2 then (K S0) else
    ((gL S0 169 32 (((8 : Int32) * p1) + p2)).bind fun a19 =>
    (sL S0 158 8 p2 a19).bind fun S22 =>
    lp_X11_back_58 p1 K n (p2 + (1 : Int32)) S22)
set_option maxHeartbeats 4000000 in
set_option maxRecDepth 100000 in
theorem ok_lp_X11_back_58 {X : mm_C} {RR : Nat → Nat → Option Nat} (hR : RRok RR) {p1 : Int32}  {K : fS → Option (Int32 × fS)} {r : Int32 × fS} (hK : ∀ (Sk : fS), K Sk = some r → mr X 2 mY_X11_back 87 [(0, .ref 145)] [] (MM RR Sk) (some (.int r.1), MM RR r.2)) : ∀ (n : Nat) (p2 : Int32) (S0 : fS), lp_X11_back_58 p1 K n p2 S0 = some r → mr X 2 mY_X11_back 58 [(0, .ref 145), (1, .int p1), (2, .int p2)] [] (MM RR S0) (some (.int r.1), MM RR r.2) := by
  intro n
  induction n with
  | zero => intro p2 S0 h; exact mm_no h
  | succ n ih =>
    intro p2 S0 h
    unfold lp_X11_back_58 at h
    refine mr_iload_n (pc' := 59) dX11_back_58 rfl rfl ?_
    refine mr_bipush (pc' := 61) (v := (8 : Int32)) dX11_back_59 rfl (by decide) ?_
    by_cases c18 : (8 : Int32) ≤ p2
    · rw [if_pos c18] at h
      refine mr_icmp_ge_t (t := 87) dX11_back_61 (by decide) c18 ?_
      exact mr_sub [(0, .ref 145)] ⟨rfl, trivial⟩ rfl (hK _  h)
    · rw [if_neg c18] at h
      refine mr_icmp_ge_f (t := 87) (pc' := 64) dX11_back_61 (by decide) rfl c18 ?_
      refine mr_aload_n (pc' := 65) dX11_back_64 rfl rfl ?_
      refine mr_getR (pc' := 68) (ci := 11) (j := 26) (b := 158) hR dX11_back_65 rfl rfl rfl (by decide) (by decide) (by decide) rfl rfl ?_
      refine mr_iload_n (pc' := 69) dX11_back_68 rfl rfl ?_
      refine mr_aload_n (pc' := 70) dX11_back_69 rfl rfl ?_
      refine mr_getR (pc' := 73) (ci := 11) (j := 39) (b := 169) hR dX11_back_70 rfl rfl rfl (by decide) (by decide) (by decide) rfl rfl ?_
      refine mr_bipush (pc' := 75) (v := (8 : Int32)) dX11_back_73 rfl (by decide) ?_
      refine mr_iload_n (pc' := 76) dX11_back_75 rfl rfl ?_
      refine mr_imul (pc' := 77) dX11_back_76 rfl ?_
      refine mr_iload_n (pc' := 78) dX11_back_77 rfl rfl ?_
      refine mr_iadd (pc' := 79) dX11_back_78 rfl ?_
      obtain ⟨a19, g20, h21⟩ := Option.bind_eq_some_iff.mp h
      refine mr_lald (pc' := 80) dX11_back_79 rfl rfl rfl g20 ?_
      obtain ⟨S22, g23, h24⟩ := Option.bind_eq_some_iff.mp h21
      refine mr_last (pc' := 81) dX11_back_80 rfl rfl rfl g23 ?_
      refine mr_iinc (pc' := 84) (x' := (p2 + (1 : Int32))) (lv' := [(2, .int (p2 + (1 : Int32))), (0, .ref 145), (1, .int p1)]) dX11_back_81 rfl (by decide) rfl rfl rfl ?_
      refine mr_goto (t := 58) dX11_back_84 (by decide) ?_
      exact mr_sub [(0, .ref 145), (1, .int p1), (2, .int (p2 + (1 : Int32)))] ⟨rfl, rfl, rfl, trivial⟩ rfl (ih _ _  h24)
def f_X11_back (v1 : Int32) (S : fS) : Option (Int32 × fS) :=
  (f_X11_in (Int32.toInt64 v1) (0 : Int64) (3 : Int64) S).bind fun q1 =>
  if q1 = (0 : Int32) then (some ((-1 : Int32), S)) else
  ((gI S 170 4 v1).bind fun a5 =>
  if a5 = (0 : Int32) then (some ((-1 : Int32), S)) else
  (lp_X11_back_25 v1 (fun S16 => lp_X11_back_58 v1 (fun S25 => (f_X11_spreads  S25).bind fun q27 =>
  (gI q27 157 158 (3 : Int32)).bind fun a30 =>
  some (a30, q27)) FU (0 : Int32) S16) FU (0 : Int32) S))
set_option maxHeartbeats 4000000 in
set_option maxRecDepth 100000 in
theorem ok_X11_back {X : mm_C} {RR : Nat → Nat → Option Nat} (hR : RRok RR) {v1 : Int32}  {S : fS} {r : Int32 × fS} (h : f_X11_back v1 S = some r) : mr X 2 mY_X11_back 0 (lv_args 0 [.ref 145, .int v1]) [] (MM RR S) (some (.int r.1), MM RR r.2) := by
  unfold f_X11_back at h
  show mr X _ _ 0 [(0, .ref 145), (1, .int v1)] [] (MM RR S) _
  refine mr_iload_n (pc' := 1) dX11_back_0 rfl rfl ?_
  refine mr_i2l (pc' := 2) dX11_back_1 rfl ?_
  refine mr_lconst (pc' := 3) (v := (0 : Int64)) dX11_back_2 rfl (by decide) ?_
  refine mr_ldc2 (pc' := 6) (v := (3 : Int64)) dX11_back_3 rfl rfl ?_
  obtain ⟨q1, g2, h3⟩ := Option.bind_eq_some_iff.mp h
  refine mr_cs (pc' := 9) (d1 := 0) dX11_back_6 rfl rfl rfl rfl (by decide) (Nat.le_of_ble_eq_true rfl) rfl rfl rfl (by decide) (ok_X11_in hR  g2) ?_
  show mr X _ _ 9 _ [.int q1] (MM RR S) _
  by_cases c4 : q1 = (0 : Int32)
  · rw [if_pos c4] at h3
    refine mr_if_eq_t (t := 21) dX11_back_9 (by decide) c4 ?_
    refine mr_iconst (pc' := 22) (v := (-1 : Int32)) dX11_back_21 rfl (by decide) ?_
    obtain rfl := Option.some.inj h3
    exact mr_ireturn dX11_back_22 rfl
  · rw [if_neg c4] at h3
    refine mr_if_eq_f (t := 21) (pc' := 12) dX11_back_9 (by decide) rfl c4 ?_
    refine mr_aload_n (pc' := 13) dX11_back_12 rfl rfl ?_
    refine mr_getR (pc' := 16) (ci := 11) (j := 40) (b := 170) hR dX11_back_13 rfl rfl rfl (by decide) (by decide) (by decide) rfl rfl ?_
    refine mr_iload_n (pc' := 17) dX11_back_16 rfl rfl ?_
    obtain ⟨a5, g6, h7⟩ := Option.bind_eq_some_iff.mp h3
    refine mr_bald (pc' := 18) dX11_back_17 rfl (Or.inr rfl) rfl g6 ?_
    by_cases c8 : a5 = (0 : Int32)
    · rw [if_pos c8] at h7
      refine mr_if_ne_f (t := 23) (pc' := 21) dX11_back_18 (by decide) rfl (not_not_intro c8) ?_
      refine mr_iconst (pc' := 22) (v := (-1 : Int32)) dX11_back_21 rfl (by decide) ?_
      obtain rfl := Option.some.inj h7
      exact mr_ireturn dX11_back_22 rfl
    · rw [if_neg c8] at h7
      refine mr_if_ne_t (t := 23) dX11_back_18 (by decide) c8 ?_
      refine mr_iconst (pc' := 24) (v := (0 : Int32)) dX11_back_23 rfl (by decide) ?_
      refine mr_istore_n (pc' := 25) (lv' := [(2, .int (0 : Int32)), (0, .ref 145), (1, .int v1)]) dX11_back_24 rfl (by decide) rfl ?_
      refine mr_sub [(0, .ref 145), (1, .int v1), (2, .int (0 : Int32))] ⟨rfl, rfl, rfl, trivial⟩ rfl ?_
      refine ok_lp_X11_back_25 hR  (fun S16 h17 => ?_) FU _ _  h7
      refine mr_iconst (pc' := 57) (v := (0 : Int32)) dX11_back_56 rfl (by decide) ?_
      refine mr_istore_n (pc' := 58) (lv' := [(2, .int (0 : Int32)), (0, .ref 145), (1, .int v1)]) dX11_back_57 rfl (by decide) rfl ?_
      refine mr_sub [(0, .ref 145), (1, .int v1), (2, .int (0 : Int32))] ⟨rfl, rfl, rfl, trivial⟩ rfl ?_
      refine ok_lp_X11_back_58 hR  (fun S25 h26 => ?_) FU _ _  h17
      refine mr_aload_n (pc' := 88) dX11_back_87 rfl rfl ?_
      obtain ⟨q27, g28, h29⟩ := Option.bind_eq_some_iff.mp h26
      refine mr_cv (pc' := 91) (a := 145) (d1 := 1) dX11_back_88 rfl rfl rfl rfl rfl rfl (by decide) rfl (by decide) (ok_X11_spreads hR  g28) ?_
      show mr X _ _ 91 _ [] (MM RR q27) _
      refine mr_aload_n (pc' := 92) dX11_back_91 rfl rfl ?_
      refine mr_getR (pc' := 95) (ci := 11) (j := 25) (b := 157) hR dX11_back_92 rfl rfl rfl (by decide) (by decide) (by decide) rfl rfl ?_
      refine mr_iconst (pc' := 96) (v := (3 : Int32)) dX11_back_95 rfl (by decide) ?_
      obtain ⟨a30, g31, h32⟩ := Option.bind_eq_some_iff.mp h29
      refine mr_iald (pc' := 97) dX11_back_96 rfl rfl rfl g31 ?_
      obtain rfl := Option.some.inj h32
      exact mr_ireturn dX11_back_97 rfl
