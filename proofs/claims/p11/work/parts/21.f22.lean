def lp_X11_sent_7 (p1 : Int32) (K : fS → Option (Int32 × fS)) : Nat → Int32 → fS → Option (Int32 × fS)
  | 0, _, _ => none
  | n + 1, p3, S0 =>
    (gI S0 150 6 p1).bind fun a4 =>
    if a4 ≤ p3 then (K S0) else
    ((gI S0 149 216 ((((36 : Int32) * p1) + ((3 : Int32) * p3)) + (1 : Int32))).bind fun a8 =>
    if a8 < (0 : Int32) then ((gI S0 149 216 (((36 : Int32) * p1) + ((3 : Int32) * p3))).bind fun a12 =>
    some (a12, S0)) else
    ((gI S0 149 216 ((((36 : Int32) * p1) + ((3 : Int32) * p3)) + (1 : Int32))).bind fun a15 =>
    (gI S0 149 216 ((((36 : Int32) * p1) + ((3 : Int32) * p3)) + (2 : Int32))).bind fun a18 =>
    (f_X11_reckons p1 a15 a18 S0).bind fun q21 =>
    if q21.1 = (1 : Int64) then ((gI q21.2 149 216 (((36 : Int32) * p1) + ((3 : Int32) * p3))).bind fun a25 =>
    some (a25, q21.2)) else
    (lp_X11_sent_7 p1 K n (p3 + (1 : Int32)) q21.2)))
set_option maxHeartbeats 4000000 in
set_option maxRecDepth 100000 in
theorem ok_lp_X11_sent_7 {X : mm_C} {RR : Nat → Nat → Option Nat} (hR : RRok RR) {p1 : Int32}  {K : fS → Option (Int32 × fS)} {r : Int32 × fS} (hK : ∀ (Sk : fS), K Sk = some r → mr X 3 mY_X11_sent 81 [] [] (MM RR Sk) (some (.int r.1), MM RR r.2)) : ∀ (n : Nat) (p3 : Int32) (S0 : fS), lp_X11_sent_7 p1 K n p3 S0 = some r → mr X 3 mY_X11_sent 7 [(0, .ref 145), (1, .int p1), (3, .int p3)] [] (MM RR S0) (some (.int r.1), MM RR r.2) := by
  intro n
  induction n with
  | zero => intro p3 S0 h; exact mm_no h
  | succ n ih =>
    intro p3 S0 h
    unfold lp_X11_sent_7 at h
    refine mr_iload_n (pc' := 8) dX11_sent_7 rfl rfl ?_
    refine mr_aload_n (pc' := 9) dX11_sent_8 rfl rfl ?_
    refine mr_getR (pc' := 12) (ci := 11) (j := 6) (b := 150) hR dX11_sent_9 rfl rfl rfl (by decide) (by decide) (by decide) rfl rfl ?_
    refine mr_iload_n (pc' := 13) dX11_sent_12 rfl rfl ?_
    obtain ⟨a4, g5, h6⟩ := Option.bind_eq_some_iff.mp h
    refine mr_iald (pc' := 14) dX11_sent_13 rfl rfl rfl g5 ?_
    by_cases c7 : a4 ≤ p3
    · rw [if_pos c7] at h6
      refine mr_icmp_ge_t (t := 81) dX11_sent_14 (by decide) c7 ?_
      exact mr_sub [] trivial rfl (hK _  h6)
    · rw [if_neg c7] at h6
      refine mr_icmp_ge_f (t := 81) (pc' := 17) dX11_sent_14 (by decide) rfl c7 ?_
      refine mr_bipush (pc' := 19) (v := (36 : Int32)) dX11_sent_17 rfl (by decide) ?_
      refine mr_iload_n (pc' := 20) dX11_sent_19 rfl rfl ?_
      refine mr_imul (pc' := 21) dX11_sent_20 rfl ?_
      refine mr_iconst (pc' := 22) (v := (3 : Int32)) dX11_sent_21 rfl (by decide) ?_
      refine mr_iload_n (pc' := 23) dX11_sent_22 rfl rfl ?_
      refine mr_imul (pc' := 24) dX11_sent_23 rfl ?_
      refine mr_iadd (pc' := 25) dX11_sent_24 rfl ?_
      refine mr_istore (pc' := 27) (lv' := [(4, .int (((36 : Int32) * p1) + ((3 : Int32) * p3))), (0, .ref 145), (1, .int p1), (3, .int p3)]) dX11_sent_25 rfl (by decide) rfl ?_
      refine mr_aload_n (pc' := 28) dX11_sent_27 rfl rfl ?_
      refine mr_getR (pc' := 31) (ci := 11) (j := 5) (b := 149) hR dX11_sent_28 rfl rfl rfl (by decide) (by decide) (by decide) rfl rfl ?_
      refine mr_iload (pc' := 33) dX11_sent_31 rfl rfl ?_
      refine mr_iconst (pc' := 34) (v := (1 : Int32)) dX11_sent_33 rfl (by decide) ?_
      refine mr_iadd (pc' := 35) dX11_sent_34 rfl ?_
      obtain ⟨a8, g9, h10⟩ := Option.bind_eq_some_iff.mp h6
      refine mr_iald (pc' := 36) dX11_sent_35 rfl rfl rfl g9 ?_
      by_cases c11 : a8 < (0 : Int32)
      · rw [if_pos c11] at h10
        refine mr_if_lt_t (t := 67) dX11_sent_36 (by decide) c11 ?_
        refine mr_aload_n (pc' := 68) dX11_sent_67 rfl rfl ?_
        refine mr_getR (pc' := 71) (ci := 11) (j := 5) (b := 149) hR dX11_sent_68 rfl rfl rfl (by decide) (by decide) (by decide) rfl rfl ?_
        refine mr_iload (pc' := 73) dX11_sent_71 rfl rfl ?_
        obtain ⟨a12, g13, h14⟩ := Option.bind_eq_some_iff.mp h10
        refine mr_iald (pc' := 74) dX11_sent_73 rfl rfl rfl g13 ?_
        obtain rfl := Option.some.inj h14
        exact mr_ireturn dX11_sent_74 rfl
      · rw [if_neg c11] at h10
        refine mr_if_lt_f (t := 67) (pc' := 39) dX11_sent_36 (by decide) rfl c11 ?_
        refine mr_aload_n (pc' := 40) dX11_sent_39 rfl rfl ?_
        refine mr_iload_n (pc' := 41) dX11_sent_40 rfl rfl ?_
        refine mr_aload_n (pc' := 42) dX11_sent_41 rfl rfl ?_
        refine mr_getR (pc' := 45) (ci := 11) (j := 5) (b := 149) hR dX11_sent_42 rfl rfl rfl (by decide) (by decide) (by decide) rfl rfl ?_
        refine mr_iload (pc' := 47) dX11_sent_45 rfl rfl ?_
        refine mr_iconst (pc' := 48) (v := (1 : Int32)) dX11_sent_47 rfl (by decide) ?_
        refine mr_iadd (pc' := 49) dX11_sent_48 rfl ?_
        obtain ⟨a15, g16, h17⟩ := Option.bind_eq_some_iff.mp h10
        refine mr_iald (pc' := 50) dX11_sent_49 rfl rfl rfl g16 ?_
        refine mr_aload_n (pc' := 51) dX11_sent_50 rfl rfl ?_
        refine mr_getR (pc' := 54) (ci := 11) (j := 5) (b := 149) hR dX11_sent_51 rfl rfl rfl (by decide) (by decide) (by decide) rfl rfl ?_
        refine mr_iload (pc' := 56) dX11_sent_54 rfl rfl ?_
        refine mr_iconst (pc' := 57) (v := (2 : Int32)) dX11_sent_56 rfl (by decide) ?_
        refine mr_iadd (pc' := 58) dX11_sent_57 rfl ?_
        obtain ⟨a18, g19, h20⟩ := Option.bind_eq_some_iff.mp h17
        refine mr_iald (pc' := 59) dX11_sent_58 rfl rfl rfl g19 ?_
        obtain ⟨q21, g22, h23⟩ := Option.bind_eq_some_iff.mp h20
        refine mr_cv (pc' := 62) (a := 145) (d1 := 1) dX11_sent_59 rfl rfl rfl rfl rfl rfl (by decide) rfl (by decide) (ok_X11_reckons hR  g22) ?_
        show mr X _ _ 62 _ [.long q21.1] (MM RR q21.2) _
        refine mr_lconst (pc' := 63) (v := (1 : Int64)) dX11_sent_62 rfl (by decide) ?_
        by_cases c24 : q21.1 = (1 : Int64)
        · rw [if_pos c24] at h23
          refine mr_lcmp_ne_f (t := 75) (pc' := 67) dX11_sent_63 rfl dX11_sent_64 (by decide) rfl (not_not_intro c24) ?_
          refine mr_aload_n (pc' := 68) dX11_sent_67 rfl rfl ?_
          refine mr_getR (pc' := 71) (ci := 11) (j := 5) (b := 149) hR dX11_sent_68 rfl rfl rfl (by decide) (by decide) (by decide) rfl rfl ?_
          refine mr_iload (pc' := 73) dX11_sent_71 rfl rfl ?_
          obtain ⟨a25, g26, h27⟩ := Option.bind_eq_some_iff.mp h23
          refine mr_iald (pc' := 74) dX11_sent_73 rfl rfl rfl g26 ?_
          obtain rfl := Option.some.inj h27
          exact mr_ireturn dX11_sent_74 rfl
        · rw [if_neg c24] at h23
          refine mr_lcmp_ne_t (t := 75) dX11_sent_63 rfl dX11_sent_64 (by decide) c24 ?_
          refine mr_iinc (pc' := 78) (x' := (p3 + (1 : Int32))) (lv' := [(3, .int (p3 + (1 : Int32))), (4, .int (((36 : Int32) * p1) + ((3 : Int32) * p3))), (0, .ref 145), (1, .int p1)]) dX11_sent_75 rfl (by decide) rfl rfl rfl ?_
          refine mr_goto (t := 7) dX11_sent_78 (by decide) ?_
          exact mr_sub [(0, .ref 145), (1, .int p1), (3, .int (p3 + (1 : Int32)))] ⟨rfl, rfl, rfl, trivial⟩ rfl (ih _ _  h23)
def f_X11_sent (v1 : Int32) (v2 : Int32) (S : fS) : Option (Int32 × fS) :=
  (f_X11_words v2 S).bind fun q1 =>
  lp_X11_sent_7 v1 (fun S28 => some ((-1 : Int32), S28)) FU (0 : Int32) q1
set_option maxHeartbeats 4000000 in
set_option maxRecDepth 100000 in
theorem ok_X11_sent {X : mm_C} {RR : Nat → Nat → Option Nat} (hR : RRok RR) {v1 : Int32} {v2 : Int32}  {S : fS} {r : Int32 × fS} (h : f_X11_sent v1 v2 S = some r) : mr X 3 mY_X11_sent 0 (lv_args 0 [.ref 145, .int v1, .int v2]) [] (MM RR S) (some (.int r.1), MM RR r.2) := by
  unfold f_X11_sent at h
  show mr X _ _ 0 [(0, .ref 145), (1, .int v1), (2, .int v2)] [] (MM RR S) _
  refine mr_aload_n (pc' := 1) dX11_sent_0 rfl rfl ?_
  refine mr_iload_n (pc' := 2) dX11_sent_1 rfl rfl ?_
  obtain ⟨q1, g2, h3⟩ := Option.bind_eq_some_iff.mp h
  refine mr_cv (pc' := 5) (a := 145) (d1 := 2) dX11_sent_2 rfl rfl rfl rfl rfl rfl (by decide) rfl (by decide) (ok_X11_words hR  g2) ?_
  show mr X _ _ 5 _ [] (MM RR q1) _
  refine mr_iconst (pc' := 6) (v := (0 : Int32)) dX11_sent_5 rfl (by decide) ?_
  refine mr_istore_n (pc' := 7) (lv' := [(3, .int (0 : Int32)), (0, .ref 145), (1, .int v1), (2, .int v2)]) dX11_sent_6 rfl (by decide) rfl ?_
  refine mr_sub [(0, .ref 145), (1, .int v1), (3, .int (0 : Int32))] ⟨rfl, rfl, rfl, trivial⟩ rfl ?_
  refine ok_lp_X11_sent_7 hR  (fun S28 h29 => ?_) FU _ _  h3
  refine mr_iconst (pc' := 82) (v := (-1 : Int32)) dX11_sent_81 rfl (by decide) ?_
  obtain rfl := Option.some.inj h29
  exact mr_ireturn dX11_sent_82 rfl
def f_X11_between (v1 : Int32) (v2 : Int32) (S : fS) : Option (Int64) :=
  (gL S 161 100 (((10 : Int32) * v1) + v2)).bind fun a1 =>
  some a1
set_option maxHeartbeats 4000000 in
set_option maxRecDepth 100000 in
theorem ok_X11_between {X : mm_C} {RR : Nat → Nat → Option Nat} (hR : RRok RR) {v1 : Int32} {v2 : Int32}  {S : fS} {r : Int64} (h : f_X11_between v1 v2 S = some r) : mr X 0 mY_X11_between 0 (lv_args 0 [.ref 145, .int v1, .int v2]) [] (MM RR S) (some (.long r), MM RR S) := by
  unfold f_X11_between at h
  show mr X _ _ 0 [(0, .ref 145), (1, .int v1), (2, .int v2)] [] (MM RR S) _
  refine mr_aload_n (pc' := 1) dX11_between_0 rfl rfl ?_
  refine mr_getR (pc' := 4) (ci := 11) (j := 29) (b := 161) hR dX11_between_1 rfl rfl rfl (by decide) (by decide) (by decide) rfl rfl ?_
  refine mr_bipush (pc' := 6) (v := (10 : Int32)) dX11_between_4 rfl (by decide) ?_
  refine mr_iload_n (pc' := 7) dX11_between_6 rfl rfl ?_
  refine mr_imul (pc' := 8) dX11_between_7 rfl ?_
  refine mr_iload_n (pc' := 9) dX11_between_8 rfl rfl ?_
  refine mr_iadd (pc' := 10) dX11_between_9 rfl ?_
  obtain ⟨a1, g2, h3⟩ := Option.bind_eq_some_iff.mp h
  refine mr_lald (pc' := 11) dX11_between_10 rfl rfl rfl g2 ?_
  obtain rfl := Option.some.inj h3
  exact mr_lreturn dX11_between_11 rfl
def lp_X11_nextStair_23 (p1 : Int32) (p2 : Int32) (S : fS) (K : Int32 → Option (Int32)) : Nat → Int32 → Option (Int32)
  | 0, _ => none
  | n + 1, p3 =>
    (f_X11_otherEnd p3 p1 S).bind fun q6 =>
    if q6 < (0 : Int32) then (lp_X11_nextStair_23 p1 p2 S K n (p3 + (1 : Int32))) else
    ((f_X11_stairOf p3 (2 : Int32) S).bind fun q10 =>
    (f_X11_otherEnd p3 p1 S).bind fun q13 =>
    (f_X11_between q13 p2 S).bind fun q16 =>
    (f_X11_between p1 p2 S).bind fun q19 =>
    if ((Int32.toInt64 q10) + q16) = q19 then (K p3) else
    (lp_X11_nextStair_23 p1 p2 S K n (p3 + (1 : Int32))))
set_option maxHeartbeats 4000000 in
set_option maxRecDepth 100000 in
theorem ok_lp_X11_nextStair_23 {X : mm_C} {RR : Nat → Nat → Option Nat} (hR : RRok RR) {p1 : Int32} {p2 : Int32}  {S : fS} {K : Int32 → Option (Int32)} {r : Int32} (hK : ∀ (k3 : Int32), K k3 = some r → mr X 2 mY_X11_nextStair 67 [(3, .int k3)] [] (MM RR S) (some (.int r), MM RR S)) : ∀ (n : Nat) (p3 : Int32), lp_X11_nextStair_23 p1 p2 S K n p3 = some r → mr X 2 mY_X11_nextStair 23 [(0, .ref 145), (1, .int p1), (2, .int p2), (3, .int p3)] [] (MM RR S) (some (.int r), MM RR S) := by
  intro n
  induction n with
  | zero => intro p3 h; exact mm_no h
  | succ n ih =>
    intro p3 h
    unfold lp_X11_nextStair_23 at h
    refine mr_aload_n (pc' := 24) dX11_nextStair_23 rfl rfl ?_
    refine mr_iload_n (pc' := 25) dX11_nextStair_24 rfl rfl ?_
    refine mr_iload_n (pc' := 26) dX11_nextStair_25 rfl rfl ?_
    obtain ⟨q6, g7, h8⟩ := Option.bind_eq_some_iff.mp h
    refine mr_cv (pc' := 29) (a := 145) (d1 := 1) dX11_nextStair_26 rfl rfl rfl rfl rfl rfl (by decide) rfl (by decide) (ok_X11_otherEnd hR  g7) ?_
    show mr X _ _ 29 _ [.int q6] (MM RR S) _
    by_cases c9 : q6 < (0 : Int32)
    · rw [if_pos c9] at h8
      refine mr_if_lt_t (t := 61) dX11_nextStair_29 (by decide) c9 ?_
      refine mr_iinc (pc' := 64) (x' := (p3 + (1 : Int32))) (lv' := [(3, .int (p3 + (1 : Int32))), (0, .ref 145), (1, .int p1), (2, .int p2)]) dX11_nextStair_61 rfl (by decide) rfl rfl rfl ?_
      refine mr_goto (t := 23) dX11_nextStair_64 (by decide) ?_
      exact mr_sub [(0, .ref 145), (1, .int p1), (2, .int p2), (3, .int (p3 + (1 : Int32)))] ⟨rfl, rfl, rfl, rfl, trivial⟩ rfl (ih _  h8)
    · rw [if_neg c9] at h8
      refine mr_if_lt_f (t := 61) (pc' := 32) dX11_nextStair_29 (by decide) rfl c9 ?_
      refine mr_aload_n (pc' := 33) dX11_nextStair_32 rfl rfl ?_
      refine mr_iload_n (pc' := 34) dX11_nextStair_33 rfl rfl ?_
      refine mr_iconst (pc' := 35) (v := (2 : Int32)) dX11_nextStair_34 rfl (by decide) ?_
      obtain ⟨q10, g11, h12⟩ := Option.bind_eq_some_iff.mp h8
      refine mr_cv (pc' := 38) (a := 145) (d1 := 0) dX11_nextStair_35 rfl rfl rfl rfl rfl rfl (by decide) rfl (by decide) (ok_X11_stairOf hR  g11) ?_
      show mr X _ _ 38 _ [.int q10] (MM RR S) _
      refine mr_i2l (pc' := 39) dX11_nextStair_38 rfl ?_
      refine mr_aload_n (pc' := 40) dX11_nextStair_39 rfl rfl ?_
      refine mr_aload_n (pc' := 41) dX11_nextStair_40 rfl rfl ?_
      refine mr_iload_n (pc' := 42) dX11_nextStair_41 rfl rfl ?_
      refine mr_iload_n (pc' := 43) dX11_nextStair_42 rfl rfl ?_
      obtain ⟨q13, g14, h15⟩ := Option.bind_eq_some_iff.mp h12
      refine mr_cv (pc' := 46) (a := 145) (d1 := 1) dX11_nextStair_43 rfl rfl rfl rfl rfl rfl (by decide) rfl (by decide) (ok_X11_otherEnd hR  g14) ?_
      show mr X _ _ 46 _ [.int q13, .ref 145, .long (Int32.toInt64 q10)] (MM RR S) _
      refine mr_iload_n (pc' := 47) dX11_nextStair_46 rfl rfl ?_
      obtain ⟨q16, g17, h18⟩ := Option.bind_eq_some_iff.mp h15
      refine mr_cv (pc' := 50) (a := 145) (d1 := 0) dX11_nextStair_47 rfl rfl rfl rfl rfl rfl (by decide) rfl (by decide) (ok_X11_between hR  g17) ?_
      show mr X _ _ 50 _ [.long q16, .long (Int32.toInt64 q10)] (MM RR S) _
      refine mr_ladd (pc' := 51) dX11_nextStair_50 rfl ?_
      refine mr_aload_n (pc' := 52) dX11_nextStair_51 rfl rfl ?_
      refine mr_iload_n (pc' := 53) dX11_nextStair_52 rfl rfl ?_
      refine mr_iload_n (pc' := 54) dX11_nextStair_53 rfl rfl ?_
      obtain ⟨q19, g20, h21⟩ := Option.bind_eq_some_iff.mp h18
      refine mr_cv (pc' := 57) (a := 145) (d1 := 0) dX11_nextStair_54 rfl rfl rfl rfl rfl rfl (by decide) rfl (by decide) (ok_X11_between hR  g20) ?_
      show mr X _ _ 57 _ [.long q19, .long ((Int32.toInt64 q10) + q16)] (MM RR S) _
      by_cases c22 : ((Int32.toInt64 q10) + q16) = q19
      · rw [if_pos c22] at h21
        refine mr_lcmp_eq_t (t := 67) dX11_nextStair_57 rfl dX11_nextStair_58 (by decide) c22 ?_
        exact mr_sub [(3, .int p3)] ⟨rfl, trivial⟩ rfl (hK _  h21)
      · rw [if_neg c22] at h21
        refine mr_lcmp_eq_f (t := 67) (pc' := 61) dX11_nextStair_57 rfl dX11_nextStair_58 (by decide) rfl c22 ?_
        refine mr_iinc (pc' := 64) (x' := (p3 + (1 : Int32))) (lv' := [(3, .int (p3 + (1 : Int32))), (0, .ref 145), (1, .int p1), (2, .int p2)]) dX11_nextStair_61 rfl (by decide) rfl rfl rfl ?_
        refine mr_goto (t := 23) dX11_nextStair_64 (by decide) ?_
        exact mr_sub [(0, .ref 145), (1, .int p1), (2, .int p2), (3, .int (p3 + (1 : Int32)))] ⟨rfl, rfl, rfl, rfl, trivial⟩ rfl (ih _  h21)
def f_X11_nextStair (v1 : Int32) (v2 : Int32) (S : fS) : Option (Int32) :=
  if v1 = v2 then (some (-2 : Int32)) else
  ((f_X11_between v1 v2 S).bind fun q2 =>
  if q2 < (99999 : Int64) then (lp_X11_nextStair_23 v1 v2 S (fun u23 => some u23) FU (0 : Int32)) else
  (some (-2 : Int32)))
set_option maxHeartbeats 4000000 in
set_option maxRecDepth 100000 in
theorem ok_X11_nextStair {X : mm_C} {RR : Nat → Nat → Option Nat} (hR : RRok RR) {v1 : Int32} {v2 : Int32}  {S : fS} {r : Int32} (h : f_X11_nextStair v1 v2 S = some r) : mr X 2 mY_X11_nextStair 0 (lv_args 0 [.ref 145, .int v1, .int v2]) [] (MM RR S) (some (.int r), MM RR S) := by
  unfold f_X11_nextStair at h
  show mr X _ _ 0 [(0, .ref 145), (1, .int v1), (2, .int v2)] [] (MM RR S) _
  refine mr_iload_n (pc' := 1) dX11_nextStair_0 rfl rfl ?_
  refine mr_iload_n (pc' := 2) dX11_nextStair_1 rfl rfl ?_
  by_cases c1 : v1 = v2
  · rw [if_pos c1] at h
    refine mr_icmp_eq_t (t := 18) dX11_nextStair_2 (by decide) c1 ?_
    refine mr_bipush (pc' := 20) (v := (-2 : Int32)) dX11_nextStair_18 rfl (by decide) ?_
    obtain rfl := Option.some.inj h
    exact mr_ireturn dX11_nextStair_20 rfl
  · rw [if_neg c1] at h
    refine mr_icmp_eq_f (t := 18) (pc' := 5) dX11_nextStair_2 (by decide) rfl c1 ?_
    refine mr_aload_n (pc' := 6) dX11_nextStair_5 rfl rfl ?_
    refine mr_iload_n (pc' := 7) dX11_nextStair_6 rfl rfl ?_
    refine mr_iload_n (pc' := 8) dX11_nextStair_7 rfl rfl ?_
    obtain ⟨q2, g3, h4⟩ := Option.bind_eq_some_iff.mp h
    refine mr_cv (pc' := 11) (a := 145) (d1 := 0) dX11_nextStair_8 rfl rfl rfl rfl rfl rfl (by decide) rfl (by decide) (ok_X11_between hR  g3) ?_
    show mr X _ _ 11 _ [.long q2] (MM RR S) _
    refine mr_ldc2 (pc' := 14) (v := (99999 : Int64)) dX11_nextStair_11 rfl rfl ?_
    by_cases c5 : q2 < (99999 : Int64)
    · rw [if_pos c5] at h4
      refine mr_lcmp_lt_t (t := 21) dX11_nextStair_14 rfl dX11_nextStair_15 (by decide) c5 ?_
      refine mr_iconst (pc' := 22) (v := (0 : Int32)) dX11_nextStair_21 rfl (by decide) ?_
      refine mr_istore_n (pc' := 23) (lv' := [(3, .int (0 : Int32)), (0, .ref 145), (1, .int v1), (2, .int v2)]) dX11_nextStair_22 rfl (by decide) rfl ?_
      refine mr_sub [(0, .ref 145), (1, .int v1), (2, .int v2), (3, .int (0 : Int32))] ⟨rfl, rfl, rfl, rfl, trivial⟩ rfl ?_
      refine ok_lp_X11_nextStair_23 hR  (fun u23 h24 => ?_) FU _  h4
      refine mr_iload_n (pc' := 68) dX11_nextStair_67 rfl rfl ?_
      obtain rfl := Option.some.inj h24
      exact mr_ireturn dX11_nextStair_68 rfl
    · rw [if_neg c5] at h4
      refine mr_lcmp_lt_f (t := 21) (pc' := 18) dX11_nextStair_14 rfl dX11_nextStair_15 (by decide) rfl c5 ?_
      refine mr_bipush (pc' := 20) (v := (-2 : Int32)) dX11_nextStair_18 rfl (by decide) ?_
      obtain rfl := Option.some.inj h4
      exact mr_ireturn dX11_nextStair_20 rfl
def f_X11_floorParts (v1 : Int32) (S : fS) : Option (Int64) :=
  (gI S 157 158 ((10 : Int32) + ((2 : Int32) * v1))).bind fun a1 =>
  (gI S 157 158 (((10 : Int32) + ((2 : Int32) * v1)) + (1 : Int32))).bind fun a4 =>
  (dL (232792560 : Int64) (Int32.toInt64 a4)).bind fun a7 =>
  some ((Int32.toInt64 a1) * a7)
set_option maxHeartbeats 4000000 in
set_option maxRecDepth 100000 in
theorem ok_X11_floorParts {X : mm_C} {RR : Nat → Nat → Option Nat} (hR : RRok RR) {v1 : Int32}  {S : fS} {r : Int64} (h : f_X11_floorParts v1 S = some r) : mr X 0 mY_X11_floorParts 0 (lv_args 0 [.ref 145, .int v1]) [] (MM RR S) (some (.long r), MM RR S) := by
  unfold f_X11_floorParts at h
  show mr X _ _ 0 [(0, .ref 145), (1, .int v1)] [] (MM RR S) _
  refine mr_aload_n (pc' := 1) dX11_floorParts_0 rfl rfl ?_
  refine mr_getR (pc' := 4) (ci := 11) (j := 25) (b := 157) hR dX11_floorParts_1 rfl rfl rfl (by decide) (by decide) (by decide) rfl rfl ?_
  refine mr_bipush (pc' := 6) (v := (10 : Int32)) dX11_floorParts_4 rfl (by decide) ?_
  refine mr_iconst (pc' := 7) (v := (2 : Int32)) dX11_floorParts_6 rfl (by decide) ?_
  refine mr_iload_n (pc' := 8) dX11_floorParts_7 rfl rfl ?_
  refine mr_imul (pc' := 9) dX11_floorParts_8 rfl ?_
  refine mr_iadd (pc' := 10) dX11_floorParts_9 rfl ?_
  obtain ⟨a1, g2, h3⟩ := Option.bind_eq_some_iff.mp h
  refine mr_iald (pc' := 11) dX11_floorParts_10 rfl rfl rfl g2 ?_
  refine mr_i2l (pc' := 12) dX11_floorParts_11 rfl ?_
  refine mr_ldc2 (pc' := 15) (v := (232792560 : Int64)) dX11_floorParts_12 rfl rfl ?_
  refine mr_aload_n (pc' := 16) dX11_floorParts_15 rfl rfl ?_
  refine mr_getR (pc' := 19) (ci := 11) (j := 25) (b := 157) hR dX11_floorParts_16 rfl rfl rfl (by decide) (by decide) (by decide) rfl rfl ?_
  refine mr_bipush (pc' := 21) (v := (10 : Int32)) dX11_floorParts_19 rfl (by decide) ?_
  refine mr_iconst (pc' := 22) (v := (2 : Int32)) dX11_floorParts_21 rfl (by decide) ?_
  refine mr_iload_n (pc' := 23) dX11_floorParts_22 rfl rfl ?_
  refine mr_imul (pc' := 24) dX11_floorParts_23 rfl ?_
  refine mr_iadd (pc' := 25) dX11_floorParts_24 rfl ?_
  refine mr_iconst (pc' := 26) (v := (1 : Int32)) dX11_floorParts_25 rfl (by decide) ?_
  refine mr_iadd (pc' := 27) dX11_floorParts_26 rfl ?_
  obtain ⟨a4, g5, h6⟩ := Option.bind_eq_some_iff.mp h3
  refine mr_iald (pc' := 28) dX11_floorParts_27 rfl rfl rfl g5 ?_
  refine mr_i2l (pc' := 29) dX11_floorParts_28 rfl ?_
  obtain ⟨a7, g8, h9⟩ := Option.bind_eq_some_iff.mp h6
  refine mr_ldiv (pc' := 30) dX11_floorParts_29 rfl g8 ?_
  refine mr_lmul (pc' := 31) dX11_floorParts_30 rfl ?_
  obtain rfl := Option.some.inj h9
  exact mr_lreturn dX11_floorParts_31 rfl
def f_X11_stairParts (v1 : Int32) (S : fS) : Option (Int64) :=
  (f_X11_stairOf v1 (3 : Int32) S).bind fun q1 =>
  (f_X11_stairOf v1 (4 : Int32) S).bind fun q4 =>
  (dL (232792560 : Int64) (Int32.toInt64 q4)).bind fun a7 =>
  some ((Int32.toInt64 q1) * a7)
set_option maxHeartbeats 4000000 in
set_option maxRecDepth 100000 in
theorem ok_X11_stairParts {X : mm_C} {RR : Nat → Nat → Option Nat} (hR : RRok RR) {v1 : Int32}  {S : fS} {r : Int64} (h : f_X11_stairParts v1 S = some r) : mr X 1 mY_X11_stairParts 0 (lv_args 0 [.ref 145, .int v1]) [] (MM RR S) (some (.long r), MM RR S) := by
  unfold f_X11_stairParts at h
  show mr X _ _ 0 [(0, .ref 145), (1, .int v1)] [] (MM RR S) _
  refine mr_aload_n (pc' := 1) dX11_stairParts_0 rfl rfl ?_
  refine mr_iload_n (pc' := 2) dX11_stairParts_1 rfl rfl ?_
  refine mr_iconst (pc' := 3) (v := (3 : Int32)) dX11_stairParts_2 rfl (by decide) ?_
  obtain ⟨q1, g2, h3⟩ := Option.bind_eq_some_iff.mp h
  refine mr_cv (pc' := 6) (a := 145) (d1 := 0) dX11_stairParts_3 rfl rfl rfl rfl rfl rfl (by decide) rfl (by decide) (ok_X11_stairOf hR  g2) ?_
  show mr X _ _ 6 _ [.int q1] (MM RR S) _
  refine mr_i2l (pc' := 7) dX11_stairParts_6 rfl ?_
  refine mr_ldc2 (pc' := 10) (v := (232792560 : Int64)) dX11_stairParts_7 rfl rfl ?_
  refine mr_aload_n (pc' := 11) dX11_stairParts_10 rfl rfl ?_
  refine mr_iload_n (pc' := 12) dX11_stairParts_11 rfl rfl ?_
  refine mr_iconst (pc' := 13) (v := (4 : Int32)) dX11_stairParts_12 rfl (by decide) ?_
  obtain ⟨q4, g5, h6⟩ := Option.bind_eq_some_iff.mp h3
  refine mr_cv (pc' := 16) (a := 145) (d1 := 0) dX11_stairParts_13 rfl rfl rfl rfl rfl rfl (by decide) rfl (by decide) (ok_X11_stairOf hR  g5) ?_
  show mr X _ _ 16 _ [.int q4, .long (232792560 : Int64), .long (Int32.toInt64 q1)] (MM RR S) _
  refine mr_i2l (pc' := 17) dX11_stairParts_16 rfl ?_
  obtain ⟨a7, g8, h9⟩ := Option.bind_eq_some_iff.mp h6
  refine mr_ldiv (pc' := 18) dX11_stairParts_17 rfl g8 ?_
  refine mr_lmul (pc' := 19) dX11_stairParts_18 rfl ?_
  obtain rfl := Option.some.inj h9
  exact mr_lreturn dX11_stairParts_19 rfl
def lp_X11_ageAll_2  (K : fS → Option (fS)) : Nat → Int32 → fS → Option (fS)
  | 0, _, _ => none
  | n + 1, p1, S0 =>
    (gI S0 157 158 (2 : Int32)).bind fun a1 =>
    if a1 ≤ p1 then (K S0) else
    ((f_X11_thingOf p1 (1 : Int32) S0).bind fun q5 =>
    if (0 : Int32) ≤ q5 then ((gL S0 158 8 p1).bind fun a9 =>
    (f_X11_stairParts q5 S0).bind fun q12 =>
    (sL S0 158 8 p1 (a9 + q12)).bind fun S15 =>
    (gI S15 157 158 (((90 : Int32) + ((4 : Int32) * p1)) + (2 : Int32))).bind fun a18 =>
    (sI S15 157 158 (((90 : Int32) + ((4 : Int32) * p1)) + (2 : Int32)) (a18 + (1 : Int32))).bind fun S21 =>
    (f_X11_thingOf p1 (2 : Int32) S21).bind fun q24 =>
    (f_X11_stairOf q5 (2 : Int32) S21).bind fun q27 =>
    if q24 = q27 then ((f_X11_thingOf p1 (3 : Int32) S21).bind fun q31 =>
    (f_X11_stands p1 q31 S21).bind fun q34 =>
    lp_X11_ageAll_2  K n (p1 + (1 : Int32)) q34) else
    (lp_X11_ageAll_2  K n (p1 + (1 : Int32)) S21)) else
    ((gL S0 158 8 p1).bind fun a37 =>
    (f_X11_thingOf p1 (0 : Int32) S0).bind fun q40 =>
    (f_X11_floorParts q40 S0).bind fun q43 =>
    (sL S0 158 8 p1 (a37 + q43)).bind fun S46 =>
    lp_X11_ageAll_2  K n (p1 + (1 : Int32)) S46))
set_option maxHeartbeats 4000000 in
set_option maxRecDepth 100000 in
theorem ok_lp_X11_ageAll_2 {X : mm_C} {RR : Nat → Nat → Option Nat} (hR : RRok RR)   {K : fS → Option (fS)} {r : fS} (hK : ∀ (Sk : fS), K Sk = some r → mr X 2 mY_X11_ageAll 108 [(0, .ref 145)] [] (MM RR Sk) (none, MM RR r)) : ∀ (n : Nat) (p1 : Int32) (S0 : fS), lp_X11_ageAll_2  K n p1 S0 = some r → mr X 2 mY_X11_ageAll 2 [(0, .ref 145), (1, .int p1)] [] (MM RR S0) (none, MM RR r) := by
  intro n
  induction n with
  | zero => intro p1 S0 h; exact mm_no h
  | succ n ih =>
    intro p1 S0 h
    unfold lp_X11_ageAll_2 at h
    refine mr_iload_n (pc' := 3) dX11_ageAll_2 rfl rfl ?_
    refine mr_aload_n (pc' := 4) dX11_ageAll_3 rfl rfl ?_
    refine mr_getR (pc' := 7) (ci := 11) (j := 25) (b := 157) hR dX11_ageAll_4 rfl rfl rfl (by decide) (by decide) (by decide) rfl rfl ?_
    refine mr_iconst (pc' := 8) (v := (2 : Int32)) dX11_ageAll_7 rfl (by decide) ?_
    obtain ⟨a1, g2, h3⟩ := Option.bind_eq_some_iff.mp h
    refine mr_iald (pc' := 9) dX11_ageAll_8 rfl rfl rfl g2 ?_
    by_cases c4 : a1 ≤ p1
    · rw [if_pos c4] at h3
      refine mr_icmp_ge_t (t := 108) dX11_ageAll_9 (by decide) c4 ?_
      exact mr_sub [(0, .ref 145)] ⟨rfl, trivial⟩ rfl (hK _  h3)
    · rw [if_neg c4] at h3
      refine mr_icmp_ge_f (t := 108) (pc' := 12) dX11_ageAll_9 (by decide) rfl c4 ?_
      refine mr_aload_n (pc' := 13) dX11_ageAll_12 rfl rfl ?_
      refine mr_iload_n (pc' := 14) dX11_ageAll_13 rfl rfl ?_
      refine mr_iconst (pc' := 15) (v := (1 : Int32)) dX11_ageAll_14 rfl (by decide) ?_
      obtain ⟨q5, g6, h7⟩ := Option.bind_eq_some_iff.mp h3
      refine mr_cv (pc' := 18) (a := 145) (d1 := 0) dX11_ageAll_15 rfl rfl rfl rfl rfl rfl (by decide) rfl (by decide) (ok_X11_thingOf hR  g6) ?_
      show mr X _ _ 18 _ [.int q5] (MM RR S0) _
      refine mr_istore_n (pc' := 19) (lv' := [(2, .int q5), (0, .ref 145), (1, .int p1)]) dX11_ageAll_18 rfl (by decide) rfl ?_
      refine mr_iload_n (pc' := 20) dX11_ageAll_19 rfl rfl ?_
      by_cases c8 : (0 : Int32) ≤ q5
      · rw [if_pos c8] at h7
        refine mr_if_ge_t (t := 45) dX11_ageAll_20 (by decide) c8 ?_
        refine mr_aload_n (pc' := 46) dX11_ageAll_45 rfl rfl ?_
        refine mr_getR (pc' := 49) (ci := 11) (j := 26) (b := 158) hR dX11_ageAll_46 rfl rfl rfl (by decide) (by decide) (by decide) rfl rfl ?_
        refine mr_iload_n (pc' := 50) dX11_ageAll_49 rfl rfl ?_
        refine mr_dup2 (pc' := 51) dX11_ageAll_50 rfl ?_
        obtain ⟨a9, g10, h11⟩ := Option.bind_eq_some_iff.mp h7
        refine mr_lald (pc' := 52) dX11_ageAll_51 rfl rfl rfl g10 ?_
        refine mr_aload_n (pc' := 53) dX11_ageAll_52 rfl rfl ?_
        refine mr_iload_n (pc' := 54) dX11_ageAll_53 rfl rfl ?_
        obtain ⟨q12, g13, h14⟩ := Option.bind_eq_some_iff.mp h11
        refine mr_cv (pc' := 57) (a := 145) (d1 := 1) dX11_ageAll_54 rfl rfl rfl rfl rfl rfl (by decide) rfl (by decide) (ok_X11_stairParts hR  g13) ?_
        show mr X _ _ 57 _ [.long q12, .long a9, .int p1, .ref 158] (MM RR S0) _
        refine mr_ladd (pc' := 58) dX11_ageAll_57 rfl ?_
        obtain ⟨S15, g16, h17⟩ := Option.bind_eq_some_iff.mp h14
        refine mr_last (pc' := 59) dX11_ageAll_58 rfl rfl rfl g16 ?_
        refine mr_aload_n (pc' := 60) dX11_ageAll_59 rfl rfl ?_
        refine mr_getR (pc' := 63) (ci := 11) (j := 25) (b := 157) hR dX11_ageAll_60 rfl rfl rfl (by decide) (by decide) (by decide) rfl rfl ?_
        refine mr_bipush (pc' := 65) (v := (90 : Int32)) dX11_ageAll_63 rfl (by decide) ?_
        refine mr_iconst (pc' := 66) (v := (4 : Int32)) dX11_ageAll_65 rfl (by decide) ?_
        refine mr_iload_n (pc' := 67) dX11_ageAll_66 rfl rfl ?_
        refine mr_imul (pc' := 68) dX11_ageAll_67 rfl ?_
        refine mr_iadd (pc' := 69) dX11_ageAll_68 rfl ?_
        refine mr_iconst (pc' := 70) (v := (2 : Int32)) dX11_ageAll_69 rfl (by decide) ?_
        refine mr_iadd (pc' := 71) dX11_ageAll_70 rfl ?_
        refine mr_dup2 (pc' := 72) dX11_ageAll_71 rfl ?_
        obtain ⟨a18, g19, h20⟩ := Option.bind_eq_some_iff.mp h17
        refine mr_iald (pc' := 73) dX11_ageAll_72 rfl rfl rfl g19 ?_
        refine mr_iconst (pc' := 74) (v := (1 : Int32)) dX11_ageAll_73 rfl (by decide) ?_
        refine mr_iadd (pc' := 75) dX11_ageAll_74 rfl ?_
        obtain ⟨S21, g22, h23⟩ := Option.bind_eq_some_iff.mp h20
        refine mr_iast (pc' := 76) dX11_ageAll_75 rfl rfl rfl g22 ?_
        refine mr_aload_n (pc' := 77) dX11_ageAll_76 rfl rfl ?_
        refine mr_iload_n (pc' := 78) dX11_ageAll_77 rfl rfl ?_
        refine mr_iconst (pc' := 79) (v := (2 : Int32)) dX11_ageAll_78 rfl (by decide) ?_
        obtain ⟨q24, g25, h26⟩ := Option.bind_eq_some_iff.mp h23
        refine mr_cv (pc' := 82) (a := 145) (d1 := 0) dX11_ageAll_79 rfl rfl rfl rfl rfl rfl (by decide) rfl (by decide) (ok_X11_thingOf hR  g25) ?_
        show mr X _ _ 82 _ [.int q24] (MM RR S21) _
        refine mr_aload_n (pc' := 83) dX11_ageAll_82 rfl rfl ?_
        refine mr_iload_n (pc' := 84) dX11_ageAll_83 rfl rfl ?_
        refine mr_iconst (pc' := 85) (v := (2 : Int32)) dX11_ageAll_84 rfl (by decide) ?_
        obtain ⟨q27, g28, h29⟩ := Option.bind_eq_some_iff.mp h26
        refine mr_cv (pc' := 88) (a := 145) (d1 := 0) dX11_ageAll_85 rfl rfl rfl rfl rfl rfl (by decide) rfl (by decide) (ok_X11_stairOf hR  g28) ?_
        show mr X _ _ 88 _ [.int q27, .int q24] (MM RR S21) _
        by_cases c30 : q24 = q27
        · rw [if_pos c30] at h29
          refine mr_icmp_ne_f (t := 102) (pc' := 91) dX11_ageAll_88 (by decide) rfl (not_not_intro c30) ?_
          refine mr_aload_n (pc' := 92) dX11_ageAll_91 rfl rfl ?_
          refine mr_iload_n (pc' := 93) dX11_ageAll_92 rfl rfl ?_
          refine mr_aload_n (pc' := 94) dX11_ageAll_93 rfl rfl ?_
          refine mr_iload_n (pc' := 95) dX11_ageAll_94 rfl rfl ?_
          refine mr_iconst (pc' := 96) (v := (3 : Int32)) dX11_ageAll_95 rfl (by decide) ?_
          obtain ⟨q31, g32, h33⟩ := Option.bind_eq_some_iff.mp h29
          refine mr_cv (pc' := 99) (a := 145) (d1 := 0) dX11_ageAll_96 rfl rfl rfl rfl rfl rfl (by decide) rfl (by decide) (ok_X11_thingOf hR  g32) ?_
          show mr X _ _ 99 _ [.int q31, .int p1, .ref 145] (MM RR S21) _
          obtain ⟨q34, g35, h36⟩ := Option.bind_eq_some_iff.mp h33
          refine mr_cv (pc' := 102) (a := 145) (d1 := 0) dX11_ageAll_99 rfl rfl rfl rfl rfl rfl (by decide) rfl (by decide) (ok_X11_stands hR  g35) ?_
          show mr X _ _ 102 _ [] (MM RR q34) _
          refine mr_iinc (pc' := 105) (x' := (p1 + (1 : Int32))) (lv' := [(1, .int (p1 + (1 : Int32))), (2, .int q5), (0, .ref 145)]) dX11_ageAll_102 rfl (by decide) rfl rfl rfl ?_
          refine mr_goto (t := 2) dX11_ageAll_105 (by decide) ?_
          exact mr_sub [(0, .ref 145), (1, .int (p1 + (1 : Int32)))] ⟨rfl, rfl, trivial⟩ rfl (ih _ _  h36)
        · rw [if_neg c30] at h29
          refine mr_icmp_ne_t (t := 102) dX11_ageAll_88 (by decide) c30 ?_
          refine mr_iinc (pc' := 105) (x' := (p1 + (1 : Int32))) (lv' := [(1, .int (p1 + (1 : Int32))), (2, .int q5), (0, .ref 145)]) dX11_ageAll_102 rfl (by decide) rfl rfl rfl ?_
          refine mr_goto (t := 2) dX11_ageAll_105 (by decide) ?_
          exact mr_sub [(0, .ref 145), (1, .int (p1 + (1 : Int32)))] ⟨rfl, rfl, trivial⟩ rfl (ih _ _  h29)
      · rw [if_neg c8] at h7
        refine mr_if_ge_f (t := 45) (pc' := 23) dX11_ageAll_20 (by decide) rfl c8 ?_
        refine mr_aload_n (pc' := 24) dX11_ageAll_23 rfl rfl ?_
        refine mr_getR (pc' := 27) (ci := 11) (j := 26) (b := 158) hR dX11_ageAll_24 rfl rfl rfl (by decide) (by decide) (by decide) rfl rfl ?_
        refine mr_iload_n (pc' := 28) dX11_ageAll_27 rfl rfl ?_
        refine mr_dup2 (pc' := 29) dX11_ageAll_28 rfl ?_
        obtain ⟨a37, g38, h39⟩ := Option.bind_eq_some_iff.mp h7
        refine mr_lald (pc' := 30) dX11_ageAll_29 rfl rfl rfl g38 ?_
        refine mr_aload_n (pc' := 31) dX11_ageAll_30 rfl rfl ?_
        refine mr_aload_n (pc' := 32) dX11_ageAll_31 rfl rfl ?_
        refine mr_iload_n (pc' := 33) dX11_ageAll_32 rfl rfl ?_
        refine mr_iconst (pc' := 34) (v := (0 : Int32)) dX11_ageAll_33 rfl (by decide) ?_
        obtain ⟨q40, g41, h42⟩ := Option.bind_eq_some_iff.mp h39
        refine mr_cv (pc' := 37) (a := 145) (d1 := 0) dX11_ageAll_34 rfl rfl rfl rfl rfl rfl (by decide) rfl (by decide) (ok_X11_thingOf hR  g41) ?_
        show mr X _ _ 37 _ [.int q40, .ref 145, .long a37, .int p1, .ref 158] (MM RR S0) _
        obtain ⟨q43, g44, h45⟩ := Option.bind_eq_some_iff.mp h42
        refine mr_cv (pc' := 40) (a := 145) (d1 := 0) dX11_ageAll_37 rfl rfl rfl rfl rfl rfl (by decide) rfl (by decide) (ok_X11_floorParts hR  g44) ?_
        show mr X _ _ 40 _ [.long q43, .long a37, .int p1, .ref 158] (MM RR S0) _
        refine mr_ladd (pc' := 41) dX11_ageAll_40 rfl ?_
        obtain ⟨S46, g47, h48⟩ := Option.bind_eq_some_iff.mp h45
        refine mr_last (pc' := 42) dX11_ageAll_41 rfl rfl rfl g47 ?_
        refine mr_goto (t := 102) dX11_ageAll_42 (by decide) ?_
        refine mr_iinc (pc' := 105) (x' := (p1 + (1 : Int32))) (lv' := [(1, .int (p1 + (1 : Int32))), (2, .int q5), (0, .ref 145)]) dX11_ageAll_102 rfl (by decide) rfl rfl rfl ?_
        refine mr_goto (t := 2) dX11_ageAll_105 (by decide) ?_
        exact mr_sub [(0, .ref 145), (1, .int (p1 + (1 : Int32)))] ⟨rfl, rfl, trivial⟩ rfl (ih _ _  h48)
def f_X11_ageAll  (S : fS) : Option (fS) :=
  lp_X11_ageAll_2  (fun S49 => (gI S49 157 158 (3 : Int32)).bind fun a51 =>
  (sI S49 157 158 (3 : Int32) (a51 + (1 : Int32))).bind fun S54 =>
  some S54) FU (0 : Int32) S
set_option maxHeartbeats 4000000 in
set_option maxRecDepth 100000 in
theorem ok_X11_ageAll {X : mm_C} {RR : Nat → Nat → Option Nat} (hR : RRok RR)   {S : fS} {r : fS} (h : f_X11_ageAll  S = some r) : mr X 2 mY_X11_ageAll 0 (lv_args 0 [.ref 145]) [] (MM RR S) (none, MM RR r) := by
  unfold f_X11_ageAll at h
  show mr X _ _ 0 [(0, .ref 145)] [] (MM RR S) _
  refine mr_iconst (pc' := 1) (v := (0 : Int32)) dX11_ageAll_0 rfl (by decide) ?_
  refine mr_istore_n (pc' := 2) (lv' := [(1, .int (0 : Int32)), (0, .ref 145)]) dX11_ageAll_1 rfl (by decide) rfl ?_
  refine mr_sub [(0, .ref 145), (1, .int (0 : Int32))] ⟨rfl, rfl, trivial⟩ rfl ?_
  refine ok_lp_X11_ageAll_2 hR  (fun S49 h50 => ?_) FU _ _  h
  refine mr_aload_n (pc' := 109) dX11_ageAll_108 rfl rfl ?_
  refine mr_getR (pc' := 112) (ci := 11) (j := 25) (b := 157) hR dX11_ageAll_109 rfl rfl rfl (by decide) (by decide) (by decide) rfl rfl ?_
  refine mr_iconst (pc' := 113) (v := (3 : Int32)) dX11_ageAll_112 rfl (by decide) ?_
  refine mr_dup2 (pc' := 114) dX11_ageAll_113 rfl ?_
  obtain ⟨a51, g52, h53⟩ := Option.bind_eq_some_iff.mp h50
  refine mr_iald (pc' := 115) dX11_ageAll_114 rfl rfl rfl g52 ?_
  refine mr_iconst (pc' := 116) (v := (1 : Int32)) dX11_ageAll_115 rfl (by decide) ?_
  refine mr_iadd (pc' := 117) dX11_ageAll_116 rfl ?_
  obtain ⟨S54, g55, h56⟩ := Option.bind_eq_some_iff.mp h53
  refine mr_iast (pc' := 118) dX11_ageAll_117 rfl rfl rfl g55 ?_
  obtain rfl := Option.some.inj h56
  exact mr_return dX11_ageAll_118 rfl
def lp_X11_hour_2 (p1 : Int32) (K : fS → Option (fS)) : Nat → Int32 → fS → Option (fS)
  | 0, _, _ => none
  | n + 1, p2, S0 =>
    (gI S0 157 158 (2 : Int32)).bind fun a1 =>
    if a1 ≤ p2 then (K S0) else
    (if p1 < (0 : Int32) then (K S0) else
    ((f_X11_thingOf p2 (0 : Int32) S0).bind fun q6 =>
    if (0 : Int32) ≤ q6 then ((f_X11_sent p1 p2 S0).bind fun q10 =>
    (f_X11_isFloor q10.1 q10.2).bind fun q13 =>
    if q13 = (0 : Int32) then (if (-2 : Int32) < (0 : Int32) then (lp_X11_hour_2 p1 K n (p2 + (1 : Int32)) q10.2) else
    ((f_X11_setsOff p2 (-2 : Int32) q10.2).bind fun q18 =>
    lp_X11_hour_2 p1 K n (p2 + (1 : Int32)) q18)) else
    ((f_X11_thingOf p2 (0 : Int32) q10.2).bind fun q21 =>
    (f_X11_nextStair q21 q10.1 q10.2).bind fun q24 =>
    if q24 < (0 : Int32) then (lp_X11_hour_2 p1 K n (p2 + (1 : Int32)) q10.2) else
    ((f_X11_setsOff p2 q24 q10.2).bind fun q28 =>
    lp_X11_hour_2 p1 K n (p2 + (1 : Int32)) q28))) else
    (lp_X11_hour_2 p1 K n (p2 + (1 : Int32)) S0)))
set_option maxHeartbeats 4000000 in
set_option maxRecDepth 100000 in
theorem ok_lp_X11_hour_2 {X : mm_C} {RR : Nat → Nat → Option Nat} (hR : RRok RR) {p1 : Int32}  {K : fS → Option (fS)} {r : fS} (hK : ∀ (Sk : fS), K Sk = some r → mr X 4 mY_X11_hour 79 [(0, .ref 145)] [] (MM RR Sk) (none, MM RR r)) : ∀ (n : Nat) (p2 : Int32) (S0 : fS), lp_X11_hour_2 p1 K n p2 S0 = some r → mr X 4 mY_X11_hour 2 [(0, .ref 145), (1, .int p1), (2, .int p2)] [] (MM RR S0) (none, MM RR r) := by
  intro n
  induction n with
  | zero => intro p2 S0 h; exact mm_no h
  | succ n ih =>
    intro p2 S0 h
    unfold lp_X11_hour_2 at h
    refine mr_iload_n (pc' := 3) dX11_hour_2 rfl rfl ?_
    refine mr_aload_n (pc' := 4) dX11_hour_3 rfl rfl ?_
    refine mr_getR (pc' := 7) (ci := 11) (j := 25) (b := 157) hR dX11_hour_4 rfl rfl rfl (by decide) (by decide) (by decide) rfl rfl ?_
    refine mr_iconst (pc' := 8) (v := (2 : Int32)) dX11_hour_7 rfl (by decide) ?_
    obtain ⟨a1, g2, h3⟩ := Option.bind_eq_some_iff.mp h
    refine mr_iald (pc' := 9) dX11_hour_8 rfl rfl rfl g2 ?_
    by_cases c4 : a1 ≤ p2
    · rw [if_pos c4] at h3
      refine mr_icmp_ge_t (t := 79) dX11_hour_9 (by decide) c4 ?_
      exact mr_sub [(0, .ref 145)] ⟨rfl, trivial⟩ rfl (hK _  h3)
    · rw [if_neg c4] at h3
      refine mr_icmp_ge_f (t := 79) (pc' := 12) dX11_hour_9 (by decide) rfl c4 ?_
      refine mr_iload_n (pc' := 13) dX11_hour_12 rfl rfl ?_
      by_cases c5 : p1 < (0 : Int32)
      · rw [if_pos c5] at h3
        refine mr_if_lt_t (t := 79) dX11_hour_13 (by decide) c5 ?_
        exact mr_sub [(0, .ref 145)] ⟨rfl, trivial⟩ rfl (hK _  h3)
      · rw [if_neg c5] at h3
        refine mr_if_lt_f (t := 79) (pc' := 16) dX11_hour_13 (by decide) rfl c5 ?_
        refine mr_aload_n (pc' := 17) dX11_hour_16 rfl rfl ?_
        refine mr_iload_n (pc' := 18) dX11_hour_17 rfl rfl ?_
        refine mr_iconst (pc' := 19) (v := (0 : Int32)) dX11_hour_18 rfl (by decide) ?_
        obtain ⟨q6, g7, h8⟩ := Option.bind_eq_some_iff.mp h3
        refine mr_cv (pc' := 22) (a := 145) (d1 := 0) dX11_hour_19 rfl rfl rfl rfl rfl rfl (by decide) rfl (by decide) (ok_X11_thingOf hR  g7) ?_
        show mr X _ _ 22 _ [.int q6] (MM RR S0) _
        by_cases c9 : (0 : Int32) ≤ q6
        · rw [if_pos c9] at h8
          refine mr_if_ge_t (t := 28) dX11_hour_22 (by decide) c9 ?_
          refine mr_aload_n (pc' := 29) dX11_hour_28 rfl rfl ?_
          refine mr_iload_n (pc' := 30) dX11_hour_29 rfl rfl ?_
          refine mr_iload_n (pc' := 31) dX11_hour_30 rfl rfl ?_
          obtain ⟨q10, g11, h12⟩ := Option.bind_eq_some_iff.mp h8
          refine mr_cv (pc' := 34) (a := 145) (d1 := 3) dX11_hour_31 rfl rfl rfl rfl rfl rfl (by decide) rfl (by decide) (ok_X11_sent hR  g11) ?_
          show mr X _ _ 34 _ [.int q10.1] (MM RR q10.2) _
          refine mr_istore_n (pc' := 35) (lv' := [(3, .int q10.1), (0, .ref 145), (1, .int p1), (2, .int p2)]) dX11_hour_34 rfl (by decide) rfl ?_
          refine mr_aload_n (pc' := 36) dX11_hour_35 rfl rfl ?_
          refine mr_iload_n (pc' := 37) dX11_hour_36 rfl rfl ?_
          obtain ⟨q13, g14, h15⟩ := Option.bind_eq_some_iff.mp h12
          refine mr_cv (pc' := 40) (a := 145) (d1 := 0) dX11_hour_37 rfl rfl rfl rfl rfl rfl (by decide) rfl (by decide) (ok_X11_isFloor hR  g14) ?_
          show mr X _ _ 40 _ [.int q13] (MM RR q10.2) _
          by_cases c16 : q13 = (0 : Int32)
          · rw [if_pos c16] at h15
            refine mr_if_eq_t (t := 57) dX11_hour_40 (by decide) c16 ?_
            refine mr_bipush (pc' := 59) (v := (-2 : Int32)) dX11_hour_57 rfl (by decide) ?_
            refine mr_istore (pc' := 61) (lv' := [(4, .int (-2 : Int32)), (3, .int q10.1), (0, .ref 145), (1, .int p1), (2, .int p2)]) dX11_hour_59 rfl (by decide) rfl ?_
            refine mr_iload (pc' := 63) dX11_hour_61 rfl rfl ?_
            by_cases c17 : (-2 : Int32) < (0 : Int32)
            · rw [if_pos c17] at h15
              refine mr_if_lt_t (t := 73) dX11_hour_63 (by decide) c17 ?_
              refine mr_iinc (pc' := 76) (x' := (p2 + (1 : Int32))) (lv' := [(2, .int (p2 + (1 : Int32))), (4, .int (-2 : Int32)), (3, .int q10.1), (0, .ref 145), (1, .int p1)]) dX11_hour_73 rfl (by decide) rfl rfl rfl ?_
              refine mr_goto (t := 2) dX11_hour_76 (by decide) ?_
              exact mr_sub [(0, .ref 145), (1, .int p1), (2, .int (p2 + (1 : Int32)))] ⟨rfl, rfl, rfl, trivial⟩ rfl (ih _ _  h15)
            · rw [if_neg c17] at h15
              refine mr_if_lt_f (t := 73) (pc' := 66) dX11_hour_63 (by decide) rfl c17 ?_
              refine mr_aload_n (pc' := 67) dX11_hour_66 rfl rfl ?_
              refine mr_iload_n (pc' := 68) dX11_hour_67 rfl rfl ?_
              refine mr_iload (pc' := 70) dX11_hour_68 rfl rfl ?_
              obtain ⟨q18, g19, h20⟩ := Option.bind_eq_some_iff.mp h15
              refine mr_cv (pc' := 73) (a := 145) (d1 := 2) dX11_hour_70 rfl rfl rfl rfl rfl rfl (by decide) rfl (by decide) (ok_X11_setsOff hR  g19) ?_
              show mr X _ _ 73 _ [] (MM RR q18) _
              refine mr_iinc (pc' := 76) (x' := (p2 + (1 : Int32))) (lv' := [(2, .int (p2 + (1 : Int32))), (4, .int (-2 : Int32)), (3, .int q10.1), (0, .ref 145), (1, .int p1)]) dX11_hour_73 rfl (by decide) rfl rfl rfl ?_
              refine mr_goto (t := 2) dX11_hour_76 (by decide) ?_
              exact mr_sub [(0, .ref 145), (1, .int p1), (2, .int (p2 + (1 : Int32)))] ⟨rfl, rfl, rfl, trivial⟩ rfl (ih _ _  h20)
          · rw [if_neg c16] at h15
            refine mr_if_eq_f (t := 57) (pc' := 43) dX11_hour_40 (by decide) rfl c16 ?_
            refine mr_aload_n (pc' := 44) dX11_hour_43 rfl rfl ?_
            refine mr_aload_n (pc' := 45) dX11_hour_44 rfl rfl ?_
            refine mr_iload_n (pc' := 46) dX11_hour_45 rfl rfl ?_
            refine mr_iconst (pc' := 47) (v := (0 : Int32)) dX11_hour_46 rfl (by decide) ?_
            obtain ⟨q21, g22, h23⟩ := Option.bind_eq_some_iff.mp h15
            refine mr_cv (pc' := 50) (a := 145) (d1 := 0) dX11_hour_47 rfl rfl rfl rfl rfl rfl (by decide) rfl (by decide) (ok_X11_thingOf hR  g22) ?_
            show mr X _ _ 50 _ [.int q21, .ref 145] (MM RR q10.2) _
            refine mr_iload_n (pc' := 51) dX11_hour_50 rfl rfl ?_
            obtain ⟨q24, g25, h26⟩ := Option.bind_eq_some_iff.mp h23
            refine mr_cv (pc' := 54) (a := 145) (d1 := 2) dX11_hour_51 rfl rfl rfl rfl rfl rfl (by decide) rfl (by decide) (ok_X11_nextStair hR  g25) ?_
            show mr X _ _ 54 _ [.int q24] (MM RR q10.2) _
            refine mr_goto (t := 59) dX11_hour_54 (by decide) ?_
            refine mr_istore (pc' := 61) (lv' := [(4, .int q24), (3, .int q10.1), (0, .ref 145), (1, .int p1), (2, .int p2)]) dX11_hour_59 rfl (by decide) rfl ?_
            refine mr_iload (pc' := 63) dX11_hour_61 rfl rfl ?_
            by_cases c27 : q24 < (0 : Int32)
            · rw [if_pos c27] at h26
              refine mr_if_lt_t (t := 73) dX11_hour_63 (by decide) c27 ?_
              refine mr_iinc (pc' := 76) (x' := (p2 + (1 : Int32))) (lv' := [(2, .int (p2 + (1 : Int32))), (4, .int q24), (3, .int q10.1), (0, .ref 145), (1, .int p1)]) dX11_hour_73 rfl (by decide) rfl rfl rfl ?_
              refine mr_goto (t := 2) dX11_hour_76 (by decide) ?_
              exact mr_sub [(0, .ref 145), (1, .int p1), (2, .int (p2 + (1 : Int32)))] ⟨rfl, rfl, rfl, trivial⟩ rfl (ih _ _  h26)
            · rw [if_neg c27] at h26
              refine mr_if_lt_f (t := 73) (pc' := 66) dX11_hour_63 (by decide) rfl c27 ?_
              refine mr_aload_n (pc' := 67) dX11_hour_66 rfl rfl ?_
              refine mr_iload_n (pc' := 68) dX11_hour_67 rfl rfl ?_
              refine mr_iload (pc' := 70) dX11_hour_68 rfl rfl ?_
              obtain ⟨q28, g29, h30⟩ := Option.bind_eq_some_iff.mp h26
              refine mr_cv (pc' := 73) (a := 145) (d1 := 2) dX11_hour_70 rfl rfl rfl rfl rfl rfl (by decide) rfl (by decide) (ok_X11_setsOff hR  g29) ?_
              show mr X _ _ 73 _ [] (MM RR q28) _
              refine mr_iinc (pc' := 76) (x' := (p2 + (1 : Int32))) (lv' := [(2, .int (p2 + (1 : Int32))), (4, .int q24), (3, .int q10.1), (0, .ref 145), (1, .int p1)]) dX11_hour_73 rfl (by decide) rfl rfl rfl ?_
              refine mr_goto (t := 2) dX11_hour_76 (by decide) ?_
              exact mr_sub [(0, .ref 145), (1, .int p1), (2, .int (p2 + (1 : Int32)))] ⟨rfl, rfl, rfl, trivial⟩ rfl (ih _ _  h30)
        · rw [if_neg c9] at h8
          refine mr_if_ge_f (t := 28) (pc' := 25) dX11_hour_22 (by decide) rfl c9 ?_
          refine mr_goto (t := 73) dX11_hour_25 (by decide) ?_
          refine mr_iinc (pc' := 76) (x' := (p2 + (1 : Int32))) (lv' := [(2, .int (p2 + (1 : Int32))), (0, .ref 145), (1, .int p1)]) dX11_hour_73 rfl (by decide) rfl rfl rfl ?_
          refine mr_goto (t := 2) dX11_hour_76 (by decide) ?_
          exact mr_sub [(0, .ref 145), (1, .int p1), (2, .int (p2 + (1 : Int32)))] ⟨rfl, rfl, rfl, trivial⟩ rfl (ih _ _  h8)
def f_X11_hour (v1 : Int32) (S : fS) : Option (fS) :=
  lp_X11_hour_2 v1 (fun S31 => (f_X11_ageAll  S31).bind fun q33 =>
  some q33) FU (0 : Int32) S
set_option maxHeartbeats 4000000 in
set_option maxRecDepth 100000 in
theorem ok_X11_hour {X : mm_C} {RR : Nat → Nat → Option Nat} (hR : RRok RR) {v1 : Int32}  {S : fS} {r : fS} (h : f_X11_hour v1 S = some r) : mr X 4 mY_X11_hour 0 (lv_args 0 [.ref 145, .int v1]) [] (MM RR S) (none, MM RR r) := by
  unfold f_X11_hour at h
  show mr X _ _ 0 [(0, .ref 145), (1, .int v1)] [] (MM RR S) _
  refine mr_iconst (pc' := 1) (v := (0 : Int32)) dX11_hour_0 rfl (by decide) ?_
  refine mr_istore_n (pc' := 2) (lv' := [(2, .int (0 : Int32)), (0, .ref 145), (1, .int v1)]) dX11_hour_1 rfl (by decide) rfl ?_
  refine mr_sub [(0, .ref 145), (1, .int v1), (2, .int (0 : Int32))] ⟨rfl, rfl, rfl, trivial⟩ rfl ?_
  refine ok_lp_X11_hour_2 hR  (fun S31 h32 => ?_) FU _ _  h
  refine mr_aload_n (pc' := 80) dX11_hour_79 rfl rfl ?_
  obtain ⟨q33, g34, h35⟩ := Option.bind_eq_some_iff.mp h32
  refine mr_cv (pc' := 83) (a := 145) (d1 := 2) dX11_hour_80 rfl rfl rfl rfl rfl rfl (by decide) rfl (by decide) (ok_X11_ageAll hR  g34) ?_
  show mr X _ _ 83 _ [] (MM RR q33) _
  obtain rfl := Option.some.inj h35
  exact mr_return dX11_hour_83 rfl
def lp_X11_tick_43 (p1 : Int32) (p2 : Int32) (K : fS → Option (Int32 × fS)) : Nat → Int32 → fS → Option (Int32 × fS)
  | 0, _, _ => none
  | n + 1, p3, S0 =>
    if p2 ≤ p3 then (K S0) else
    ((f_X11_hour p1 S0).bind fun q11 =>
    lp_X11_tick_43 p1 p2 K n (p3 + (1 : Int32)) q11)
set_option maxHeartbeats 4000000 in
set_option maxRecDepth 100000 in
theorem ok_lp_X11_tick_43 {X : mm_C} {RR : Nat → Nat → Option Nat} (hR : RRok RR) {p1 : Int32} {p2 : Int32}  {K : fS → Option (Int32 × fS)} {r : Int32 × fS} (hK : ∀ (Sk : fS), K Sk = some r → mr X 5 mY_X11_tick 59 [(0, .ref 145)] [] (MM RR Sk) (some (.int r.1), MM RR r.2)) : ∀ (n : Nat) (p3 : Int32) (S0 : fS), lp_X11_tick_43 p1 p2 K n p3 S0 = some r → mr X 5 mY_X11_tick 43 [(0, .ref 145), (1, .int p1), (2, .int p2), (3, .int p3)] [] (MM RR S0) (some (.int r.1), MM RR r.2) := by
  intro n
  induction n with
  | zero => intro p3 S0 h; exact mm_no h
  | succ n ih =>
    intro p3 S0 h
    unfold lp_X11_tick_43 at h
    refine mr_iload_n (pc' := 44) dX11_tick_43 rfl rfl ?_
    refine mr_iload_n (pc' := 45) dX11_tick_44 rfl rfl ?_
    by_cases c10 : p2 ≤ p3
    · rw [if_pos c10] at h
      refine mr_icmp_ge_t (t := 59) dX11_tick_45 (by decide) c10 ?_
      exact mr_sub [(0, .ref 145)] ⟨rfl, trivial⟩ rfl (hK _  h)
    · rw [if_neg c10] at h
      refine mr_icmp_ge_f (t := 59) (pc' := 48) dX11_tick_45 (by decide) rfl c10 ?_
      refine mr_aload_n (pc' := 49) dX11_tick_48 rfl rfl ?_
      refine mr_iload_n (pc' := 50) dX11_tick_49 rfl rfl ?_
      obtain ⟨q11, g12, h13⟩ := Option.bind_eq_some_iff.mp h
      refine mr_cv (pc' := 53) (a := 145) (d1 := 4) dX11_tick_50 rfl rfl rfl rfl rfl rfl (by decide) rfl (by decide) (ok_X11_hour hR  g12) ?_
      show mr X _ _ 53 _ [] (MM RR q11) _
      refine mr_iinc (pc' := 56) (x' := (p3 + (1 : Int32))) (lv' := [(3, .int (p3 + (1 : Int32))), (0, .ref 145), (1, .int p1), (2, .int p2)]) dX11_tick_53 rfl (by decide) rfl rfl rfl ?_
      refine mr_goto (t := 43) dX11_tick_56 (by decide) ?_
      exact mr_sub [(0, .ref 145), (1, .int p1), (2, .int p2), (3, .int (p3 + (1 : Int32)))] ⟨rfl, rfl, rfl, rfl, trivial⟩ rfl (ih _ _  h13)
def f_X11_tick (v1 : Int32) (v2 : Int32) (S : fS) : Option (Int32 × fS) :=
  if v1 = (-1 : Int32) then ((f_X11_in (Int32.toInt64 v2) (1 : Int64) (200 : Int64) S).bind fun q2 =>
  if q2 = (0 : Int32) then (some ((-1 : Int32), S)) else
  ((gI S 157 158 (3 : Int32)).bind fun a6 =>
  if (a6 + v2) ≤ (9999 : Int32) then (lp_X11_tick_43 v1 v2 (fun S14 => (gI S14 157 158 (3 : Int32)).bind fun a16 =>
  some (a16, S14)) FU (0 : Int32) S) else
  (some ((-1 : Int32), S)))) else
  ((f_X11_isRule v1 S).bind fun q19 =>
  if q19 = (0 : Int32) then (some ((-1 : Int32), S)) else
  ((f_X11_in (Int32.toInt64 v2) (1 : Int64) (200 : Int64) S).bind fun q23 =>
  if q23 = (0 : Int32) then (some ((-1 : Int32), S)) else
  ((gI S 157 158 (3 : Int32)).bind fun a27 =>
  if (a27 + v2) ≤ (9999 : Int32) then (lp_X11_tick_43 v1 v2 (fun S31 => (gI S31 157 158 (3 : Int32)).bind fun a33 =>
  some (a33, S31)) FU (0 : Int32) S) else
  (some ((-1 : Int32), S)))))
set_option maxHeartbeats 4000000 in
set_option maxRecDepth 100000 in
theorem ok_X11_tick {X : mm_C} {RR : Nat → Nat → Option Nat} (hR : RRok RR) {v1 : Int32} {v2 : Int32}  {S : fS} {r : Int32 × fS} (h : f_X11_tick v1 v2 S = some r) : mr X 5 mY_X11_tick 0 (lv_args 0 [.ref 145, .int v1, .int v2]) [] (MM RR S) (some (.int r.1), MM RR r.2) := by
  unfold f_X11_tick at h
  show mr X _ _ 0 [(0, .ref 145), (1, .int v1), (2, .int v2)] [] (MM RR S) _
  refine mr_iload_n (pc' := 1) dX11_tick_0 rfl rfl ?_
  refine mr_iconst (pc' := 2) (v := (-1 : Int32)) dX11_tick_1 rfl (by decide) ?_
  by_cases c1 : v1 = (-1 : Int32)
  · rw [if_pos c1] at h
    refine mr_icmp_eq_t (t := 13) dX11_tick_2 (by decide) c1 ?_
    refine mr_iload_n (pc' := 14) dX11_tick_13 rfl rfl ?_
    refine mr_i2l (pc' := 15) dX11_tick_14 rfl ?_
    refine mr_lconst (pc' := 16) (v := (1 : Int64)) dX11_tick_15 rfl (by decide) ?_
    refine mr_ldc2 (pc' := 19) (v := (200 : Int64)) dX11_tick_16 rfl rfl ?_
    obtain ⟨q2, g3, h4⟩ := Option.bind_eq_some_iff.mp h
    refine mr_cs (pc' := 22) (d1 := 0) dX11_tick_19 rfl rfl rfl rfl (by decide) (Nat.le_of_ble_eq_true rfl) rfl rfl rfl (by decide) (ok_X11_in hR  g3) ?_
    show mr X _ _ 22 _ [.int q2] (MM RR S) _
    by_cases c5 : q2 = (0 : Int32)
    · rw [if_pos c5] at h4
      refine mr_if_eq_t (t := 39) dX11_tick_22 (by decide) c5 ?_
      refine mr_iconst (pc' := 40) (v := (-1 : Int32)) dX11_tick_39 rfl (by decide) ?_
      obtain rfl := Option.some.inj h4
      exact mr_ireturn dX11_tick_40 rfl
    · rw [if_neg c5] at h4
      refine mr_if_eq_f (t := 39) (pc' := 25) dX11_tick_22 (by decide) rfl c5 ?_
      refine mr_aload_n (pc' := 26) dX11_tick_25 rfl rfl ?_
      refine mr_getR (pc' := 29) (ci := 11) (j := 25) (b := 157) hR dX11_tick_26 rfl rfl rfl (by decide) (by decide) (by decide) rfl rfl ?_
      refine mr_iconst (pc' := 30) (v := (3 : Int32)) dX11_tick_29 rfl (by decide) ?_
      obtain ⟨a6, g7, h8⟩ := Option.bind_eq_some_iff.mp h4
      refine mr_iald (pc' := 31) dX11_tick_30 rfl rfl rfl g7 ?_
      refine mr_iload_n (pc' := 32) dX11_tick_31 rfl rfl ?_
      refine mr_iadd (pc' := 33) dX11_tick_32 rfl ?_
      refine mr_sipush (pc' := 36) (v := (9999 : Int32)) dX11_tick_33 rfl (by decide) ?_
      by_cases c9 : (a6 + v2) ≤ (9999 : Int32)
      · rw [if_pos c9] at h8
        refine mr_icmp_le_t (t := 41) dX11_tick_36 (by decide) c9 ?_
        refine mr_iconst (pc' := 42) (v := (0 : Int32)) dX11_tick_41 rfl (by decide) ?_
        refine mr_istore_n (pc' := 43) (lv' := [(3, .int (0 : Int32)), (0, .ref 145), (1, .int v1), (2, .int v2)]) dX11_tick_42 rfl (by decide) rfl ?_
        refine mr_sub [(0, .ref 145), (1, .int v1), (2, .int v2), (3, .int (0 : Int32))] ⟨rfl, rfl, rfl, rfl, trivial⟩ rfl ?_
        refine ok_lp_X11_tick_43 hR  (fun S14 h15 => ?_) FU _ _  h8
        refine mr_aload_n (pc' := 60) dX11_tick_59 rfl rfl ?_
        refine mr_getR (pc' := 63) (ci := 11) (j := 25) (b := 157) hR dX11_tick_60 rfl rfl rfl (by decide) (by decide) (by decide) rfl rfl ?_
        refine mr_iconst (pc' := 64) (v := (3 : Int32)) dX11_tick_63 rfl (by decide) ?_
        obtain ⟨a16, g17, h18⟩ := Option.bind_eq_some_iff.mp h15
        refine mr_iald (pc' := 65) dX11_tick_64 rfl rfl rfl g17 ?_
        obtain rfl := Option.some.inj h18
        exact mr_ireturn dX11_tick_65 rfl
      · rw [if_neg c9] at h8
        refine mr_icmp_le_f (t := 41) (pc' := 39) dX11_tick_36 (by decide) rfl c9 ?_
        refine mr_iconst (pc' := 40) (v := (-1 : Int32)) dX11_tick_39 rfl (by decide) ?_
        obtain rfl := Option.some.inj h8
        exact mr_ireturn dX11_tick_40 rfl
  · rw [if_neg c1] at h
    refine mr_icmp_eq_f (t := 13) (pc' := 5) dX11_tick_2 (by decide) rfl c1 ?_
    refine mr_aload_n (pc' := 6) dX11_tick_5 rfl rfl ?_
    refine mr_iload_n (pc' := 7) dX11_tick_6 rfl rfl ?_
    obtain ⟨q19, g20, h21⟩ := Option.bind_eq_some_iff.mp h
    refine mr_cv (pc' := 10) (a := 145) (d1 := 0) dX11_tick_7 rfl rfl rfl rfl rfl rfl (by decide) rfl (by decide) (ok_X11_isRule hR  g20) ?_
    show mr X _ _ 10 _ [.int q19] (MM RR S) _
    by_cases c22 : q19 = (0 : Int32)
    · rw [if_pos c22] at h21
      refine mr_if_eq_t (t := 39) dX11_tick_10 (by decide) c22 ?_
      refine mr_iconst (pc' := 40) (v := (-1 : Int32)) dX11_tick_39 rfl (by decide) ?_
      obtain rfl := Option.some.inj h21
      exact mr_ireturn dX11_tick_40 rfl
    · rw [if_neg c22] at h21
      refine mr_if_eq_f (t := 39) (pc' := 13) dX11_tick_10 (by decide) rfl c22 ?_
      refine mr_iload_n (pc' := 14) dX11_tick_13 rfl rfl ?_
      refine mr_i2l (pc' := 15) dX11_tick_14 rfl ?_
      refine mr_lconst (pc' := 16) (v := (1 : Int64)) dX11_tick_15 rfl (by decide) ?_
      refine mr_ldc2 (pc' := 19) (v := (200 : Int64)) dX11_tick_16 rfl rfl ?_
      obtain ⟨q23, g24, h25⟩ := Option.bind_eq_some_iff.mp h21
      refine mr_cs (pc' := 22) (d1 := 0) dX11_tick_19 rfl rfl rfl rfl (by decide) (Nat.le_of_ble_eq_true rfl) rfl rfl rfl (by decide) (ok_X11_in hR  g24) ?_
      show mr X _ _ 22 _ [.int q23] (MM RR S) _
      by_cases c26 : q23 = (0 : Int32)
      · rw [if_pos c26] at h25
        refine mr_if_eq_t (t := 39) dX11_tick_22 (by decide) c26 ?_
        refine mr_iconst (pc' := 40) (v := (-1 : Int32)) dX11_tick_39 rfl (by decide) ?_
        obtain rfl := Option.some.inj h25
        exact mr_ireturn dX11_tick_40 rfl
      · rw [if_neg c26] at h25
        refine mr_if_eq_f (t := 39) (pc' := 25) dX11_tick_22 (by decide) rfl c26 ?_
        refine mr_aload_n (pc' := 26) dX11_tick_25 rfl rfl ?_
        refine mr_getR (pc' := 29) (ci := 11) (j := 25) (b := 157) hR dX11_tick_26 rfl rfl rfl (by decide) (by decide) (by decide) rfl rfl ?_
        refine mr_iconst (pc' := 30) (v := (3 : Int32)) dX11_tick_29 rfl (by decide) ?_
        obtain ⟨a27, g28, h29⟩ := Option.bind_eq_some_iff.mp h25
        refine mr_iald (pc' := 31) dX11_tick_30 rfl rfl rfl g28 ?_
        refine mr_iload_n (pc' := 32) dX11_tick_31 rfl rfl ?_
        refine mr_iadd (pc' := 33) dX11_tick_32 rfl ?_
        refine mr_sipush (pc' := 36) (v := (9999 : Int32)) dX11_tick_33 rfl (by decide) ?_
        by_cases c30 : (a27 + v2) ≤ (9999 : Int32)
        · rw [if_pos c30] at h29
          refine mr_icmp_le_t (t := 41) dX11_tick_36 (by decide) c30 ?_
          refine mr_iconst (pc' := 42) (v := (0 : Int32)) dX11_tick_41 rfl (by decide) ?_
          refine mr_istore_n (pc' := 43) (lv' := [(3, .int (0 : Int32)), (0, .ref 145), (1, .int v1), (2, .int v2)]) dX11_tick_42 rfl (by decide) rfl ?_
          refine mr_sub [(0, .ref 145), (1, .int v1), (2, .int v2), (3, .int (0 : Int32))] ⟨rfl, rfl, rfl, rfl, trivial⟩ rfl ?_
          refine ok_lp_X11_tick_43 hR  (fun S31 h32 => ?_) FU _ _  h29
          refine mr_aload_n (pc' := 60) dX11_tick_59 rfl rfl ?_
          refine mr_getR (pc' := 63) (ci := 11) (j := 25) (b := 157) hR dX11_tick_60 rfl rfl rfl (by decide) (by decide) (by decide) rfl rfl ?_
          refine mr_iconst (pc' := 64) (v := (3 : Int32)) dX11_tick_63 rfl (by decide) ?_
          obtain ⟨a33, g34, h35⟩ := Option.bind_eq_some_iff.mp h32
          refine mr_iald (pc' := 65) dX11_tick_64 rfl rfl rfl g34 ?_
          obtain rfl := Option.some.inj h35
          exact mr_ireturn dX11_tick_65 rfl
        · rw [if_neg c30] at h29
          refine mr_icmp_le_f (t := 41) (pc' := 39) dX11_tick_36 (by decide) rfl c30 ?_
          refine mr_iconst (pc' := 40) (v := (-1 : Int32)) dX11_tick_39 rfl (by decide) ?_
          obtain rfl := Option.some.inj h29
          exact mr_ireturn dX11_tick_40 rfl
def lp_X11_keeps_2  (K : fS → Option (fS)) : Nat → Int32 → fS → Option (fS)
  | 0, _, _ => none
  | n + 1, p1, S0 =>
    if (158 : Int32) ≤ p1 then (K S0) else
    ((gI S0 157 158 p1).bind fun a2 =>
    (sI S0 159 158 p1 a2).bind fun S5 =>
    lp_X11_keeps_2  K n (p1 + (1 : Int32)) S5)
set_option maxHeartbeats 4000000 in
set_option maxRecDepth 100000 in
theorem ok_lp_X11_keeps_2 {X : mm_C} {RR : Nat → Nat → Option Nat} (hR : RRok RR)   {K : fS → Option (fS)} {r : fS} (hK : ∀ (Sk : fS), K Sk = some r → mr X 0 mY_X11_keeps 27 [(0, .ref 145)] [] (MM RR Sk) (none, MM RR r)) : ∀ (n : Nat) (p1 : Int32) (S0 : fS), lp_X11_keeps_2  K n p1 S0 = some r → mr X 0 mY_X11_keeps 2 [(0, .ref 145), (1, .int p1)] [] (MM RR S0) (none, MM RR r) := by
  intro n
  induction n with
  | zero => intro p1 S0 h; exact mm_no h
  | succ n ih =>
    intro p1 S0 h
    unfold lp_X11_keeps_2 at h
    refine mr_iload_n (pc' := 3) dX11_keeps_2 rfl rfl ?_
    refine mr_sipush (pc' := 6) (v := (158 : Int32)) dX11_keeps_3 rfl (by decide) ?_
    by_cases c1 : (158 : Int32) ≤ p1
    · rw [if_pos c1] at h
      refine mr_icmp_ge_t (t := 27) dX11_keeps_6 (by decide) c1 ?_
      exact mr_sub [(0, .ref 145)] ⟨rfl, trivial⟩ rfl (hK _  h)
    · rw [if_neg c1] at h
      refine mr_icmp_ge_f (t := 27) (pc' := 9) dX11_keeps_6 (by decide) rfl c1 ?_
      refine mr_aload_n (pc' := 10) dX11_keeps_9 rfl rfl ?_
      refine mr_getR (pc' := 13) (ci := 11) (j := 27) (b := 159) hR dX11_keeps_10 rfl rfl rfl (by decide) (by decide) (by decide) rfl rfl ?_
      refine mr_iload_n (pc' := 14) dX11_keeps_13 rfl rfl ?_
      refine mr_aload_n (pc' := 15) dX11_keeps_14 rfl rfl ?_
      refine mr_getR (pc' := 18) (ci := 11) (j := 25) (b := 157) hR dX11_keeps_15 rfl rfl rfl (by decide) (by decide) (by decide) rfl rfl ?_
      refine mr_iload_n (pc' := 19) dX11_keeps_18 rfl rfl ?_
      obtain ⟨a2, g3, h4⟩ := Option.bind_eq_some_iff.mp h
      refine mr_iald (pc' := 20) dX11_keeps_19 rfl rfl rfl g3 ?_
      obtain ⟨S5, g6, h7⟩ := Option.bind_eq_some_iff.mp h4
      refine mr_iast (pc' := 21) dX11_keeps_20 rfl rfl rfl g6 ?_
      refine mr_iinc (pc' := 24) (x' := (p1 + (1 : Int32))) (lv' := [(1, .int (p1 + (1 : Int32))), (0, .ref 145)]) dX11_keeps_21 rfl (by decide) rfl rfl rfl ?_
      refine mr_goto (t := 2) dX11_keeps_24 (by decide) ?_
      exact mr_sub [(0, .ref 145), (1, .int (p1 + (1 : Int32)))] ⟨rfl, rfl, trivial⟩ rfl (ih _ _  h7)
def lp_X11_keeps_29  (K : fS → Option (fS)) : Nat → Int32 → fS → Option (fS)
  | 0, _, _ => none
  | n + 1, p1, S0 =>
    if (8 : Int32) ≤ p1 then (K S0) else
    ((gL S0 158 8 p1).bind fun a11 =>
    (sL S0 160 8 p1 a11).bind fun S14 =>
    lp_X11_keeps_29  K n (p1 + (1 : Int32)) S14)
set_option maxHeartbeats 4000000 in
set_option maxRecDepth 100000 in
theorem ok_lp_X11_keeps_29 {X : mm_C} {RR : Nat → Nat → Option Nat} (hR : RRok RR)   {K : fS → Option (fS)} {r : fS} (hK : ∀ (Sk : fS), K Sk = some r → mr X 0 mY_X11_keeps 53 [] [] (MM RR Sk) (none, MM RR r)) : ∀ (n : Nat) (p1 : Int32) (S0 : fS), lp_X11_keeps_29  K n p1 S0 = some r → mr X 0 mY_X11_keeps 29 [(0, .ref 145), (1, .int p1)] [] (MM RR S0) (none, MM RR r) := by
  intro n
  induction n with
  | zero => intro p1 S0 h; exact mm_no h
  | succ n ih =>
    intro p1 S0 h
    unfold lp_X11_keeps_29 at h
    refine mr_iload_n (pc' := 30) dX11_keeps_29 rfl rfl ?_
    refine mr_bipush (pc' := 32) (v := (8 : Int32)) dX11_keeps_30 rfl (by decide) ?_
    by_cases c10 : (8 : Int32) ≤ p1
    · rw [if_pos c10] at h
      refine mr_icmp_ge_t (t := 53) dX11_keeps_32 (by decide) c10 ?_
      exact mr_sub [] trivial rfl (hK _  h)
    · rw [if_neg c10] at h
      refine mr_icmp_ge_f (t := 53) (pc' := 35) dX11_keeps_32 (by decide) rfl c10 ?_
      refine mr_aload_n (pc' := 36) dX11_keeps_35 rfl rfl ?_
      refine mr_getR (pc' := 39) (ci := 11) (j := 28) (b := 160) hR dX11_keeps_36 rfl rfl rfl (by decide) (by decide) (by decide) rfl rfl ?_
      refine mr_iload_n (pc' := 40) dX11_keeps_39 rfl rfl ?_
      refine mr_aload_n (pc' := 41) dX11_keeps_40 rfl rfl ?_
      refine mr_getR (pc' := 44) (ci := 11) (j := 26) (b := 158) hR dX11_keeps_41 rfl rfl rfl (by decide) (by decide) (by decide) rfl rfl ?_
      refine mr_iload_n (pc' := 45) dX11_keeps_44 rfl rfl ?_
      obtain ⟨a11, g12, h13⟩ := Option.bind_eq_some_iff.mp h
      refine mr_lald (pc' := 46) dX11_keeps_45 rfl rfl rfl g12 ?_
      obtain ⟨S14, g15, h16⟩ := Option.bind_eq_some_iff.mp h13
      refine mr_last (pc' := 47) dX11_keeps_46 rfl rfl rfl g15 ?_
      refine mr_iinc (pc' := 50) (x' := (p1 + (1 : Int32))) (lv' := [(1, .int (p1 + (1 : Int32))), (0, .ref 145)]) dX11_keeps_47 rfl (by decide) rfl rfl rfl ?_
      refine mr_goto (t := 29) dX11_keeps_50 (by decide) ?_
      exact mr_sub [(0, .ref 145), (1, .int (p1 + (1 : Int32)))] ⟨rfl, rfl, trivial⟩ rfl (ih _ _  h16)
def f_X11_keeps  (S : fS) : Option (fS) :=
  lp_X11_keeps_2  (fun S8 => lp_X11_keeps_29  (fun S17 => some S17) FU (0 : Int32) S8) FU (0 : Int32) S
set_option maxHeartbeats 4000000 in
set_option maxRecDepth 100000 in
theorem ok_X11_keeps {X : mm_C} {RR : Nat → Nat → Option Nat} (hR : RRok RR)   {S : fS} {r : fS} (h : f_X11_keeps  S = some r) : mr X 0 mY_X11_keeps 0 (lv_args 0 [.ref 145]) [] (MM RR S) (none, MM RR r) := by
  unfold f_X11_keeps at h
  show mr X _ _ 0 [(0, .ref 145)] [] (MM RR S) _
  refine mr_iconst (pc' := 1) (v := (0 : Int32)) dX11_keeps_0 rfl (by decide) ?_
  refine mr_istore_n (pc' := 2) (lv' := [(1, .int (0 : Int32)), (0, .ref 145)]) dX11_keeps_1 rfl (by decide) rfl ?_
  refine mr_sub [(0, .ref 145), (1, .int (0 : Int32))] ⟨rfl, rfl, trivial⟩ rfl ?_
  refine ok_lp_X11_keeps_2 hR  (fun S8 h9 => ?_) FU _ _  h
  refine mr_iconst (pc' := 28) (v := (0 : Int32)) dX11_keeps_27 rfl (by decide) ?_
  refine mr_istore_n (pc' := 29) (lv' := [(1, .int (0 : Int32)), (0, .ref 145)]) dX11_keeps_28 rfl (by decide) rfl ?_
  refine mr_sub [(0, .ref 145), (1, .int (0 : Int32))] ⟨rfl, rfl, trivial⟩ rfl ?_
  refine ok_lp_X11_keeps_29 hR  (fun S17 h18 => ?_) FU _ _  h9
  obtain rfl := Option.some.inj h18
  exact mr_return dX11_keeps_53 rfl
