def f_X11_takesWord (v1 : Int64) (S : fS) : Option (Int32 × fS) :=
  (f_X11_isWord v1 S).bind fun q1 =>
  if q1.1 = (0 : Int32) then (some ((0 : Int32), q1.2)) else
  ((f_X11_passWord  q1.2).bind fun q5 =>
  some ((1 : Int32), q5))
set_option maxHeartbeats 4000000 in
set_option maxRecDepth 100000 in
theorem ok_X11_takesWord {X : mm_C} {RR : Nat → Nat → Option Nat} (hR : RRok RR) {v1 : Int64}  {S : fS} {r : Int32 × fS} (h : f_X11_takesWord v1 S = some r) : mr X 2 mY_X11_takesWord 0 (lv_args 0 [.ref 145, .long v1]) [] (MM RR S) (some (.int r.1), MM RR r.2) := by
  unfold f_X11_takesWord at h
  show mr X _ _ 0 [(0, .ref 145), (1, .long v1)] [] (MM RR S) _
  refine mr_aload_n (pc' := 1) dX11_takesWord_0 rfl rfl ?_
  refine mr_lload_n (pc' := 2) dX11_takesWord_1 rfl rfl ?_
  obtain ⟨q1, g2, h3⟩ := Option.bind_eq_some_iff.mp h
  refine mr_cv (pc' := 5) (a := 145) (d1 := 1) dX11_takesWord_2 rfl rfl rfl rfl rfl rfl (by decide) rfl (by decide) (ok_X11_isWord hR  g2) ?_
  show mr X _ _ 5 _ [.int q1.1] (MM RR q1.2) _
  by_cases c4 : q1.1 = (0 : Int32)
  · rw [if_pos c4] at h3
    refine mr_if_ne_f (t := 10) (pc' := 8) dX11_takesWord_5 (by decide) rfl (not_not_intro c4) ?_
    refine mr_iconst (pc' := 9) (v := (0 : Int32)) dX11_takesWord_8 rfl (by decide) ?_
    obtain rfl := Option.some.inj h3
    exact mr_zreturn dX11_takesWord_9 rfl (by decide)
  · rw [if_neg c4] at h3
    refine mr_if_ne_t (t := 10) dX11_takesWord_5 (by decide) c4 ?_
    refine mr_aload_n (pc' := 11) dX11_takesWord_10 rfl rfl ?_
    obtain ⟨q5, g6, h7⟩ := Option.bind_eq_some_iff.mp h3
    refine mr_cv (pc' := 14) (a := 145) (d1 := 1) dX11_takesWord_11 rfl rfl rfl rfl rfl rfl (by decide) rfl (by decide) (ok_X11_passWord hR  g6) ?_
    show mr X _ _ 14 _ [] (MM RR q5) _
    refine mr_iconst (pc' := 15) (v := (1 : Int32)) dX11_takesWord_14 rfl (by decide) ?_
    obtain rfl := Option.some.inj h7
    exact mr_zreturn dX11_takesWord_15 rfl (by decide)
def f_X11_opens (v1 : Int32) (S : fS) : Option (Int32 × fS) :=
  if (S.1 145 18) = (10 : Int32) then ((f_X11_fails (2 : Int32) (S.1 145 13) S).bind fun q11 =>
  (bZ q11.1).bind fun z14 => some (z14, q11.2)) else
  ((some (pI S 145 18 ((S.1 145 18) + (1 : Int32)))).bind fun S2 =>
  (sI S2 154 400 (S2.1 145 21) v1).bind fun S5 =>
  (some (pI S5 145 21 ((S5.1 145 21) + (1 : Int32)))).bind fun S8 =>
  some ((1 : Int32), S8))
set_option maxHeartbeats 4000000 in
set_option maxRecDepth 100000 in
theorem ok_X11_opens {X : mm_C} {RR : Nat → Nat → Option Nat} (hR : RRok RR) {v1 : Int32}  {S : fS} {r : Int32 × fS} (h : f_X11_opens v1 S = some r) : mr X 1 mY_X11_opens 0 (lv_args 0 [.ref 145, .int v1]) [] (MM RR S) (some (.int r.1), MM RR r.2) := by
  unfold f_X11_opens at h
  show mr X _ _ 0 [(0, .ref 145), (1, .int v1)] [] (MM RR S) _
  refine mr_aload_n (pc' := 1) dX11_opens_0 rfl rfl ?_
  refine mr_getI (pc' := 4) (ci := 11) (j := 18) dX11_opens_1 rfl rfl rfl (by decide) (by decide) rfl ?_
  refine mr_bipush (pc' := 6) (v := (10 : Int32)) dX11_opens_4 rfl (by decide) ?_
  by_cases c1 : (S.1 145 18) = (10 : Int32)
  · rw [if_pos c1] at h
    refine mr_icmp_ne_f (t := 19) (pc' := 9) dX11_opens_6 (by decide) rfl (not_not_intro c1) ?_
    refine mr_aload_n (pc' := 10) dX11_opens_9 rfl rfl ?_
    refine mr_iconst (pc' := 11) (v := (2 : Int32)) dX11_opens_10 rfl (by decide) ?_
    refine mr_aload_n (pc' := 12) dX11_opens_11 rfl rfl ?_
    refine mr_getI (pc' := 15) (ci := 11) (j := 13) dX11_opens_12 rfl rfl rfl (by decide) (by decide) rfl ?_
    obtain ⟨q11, g12, h13⟩ := Option.bind_eq_some_iff.mp h
    refine mr_cv (pc' := 18) (a := 145) (d1 := 0) dX11_opens_15 rfl rfl rfl rfl rfl rfl (by decide) rfl (by decide) (ok_X11_fails hR  g12) ?_
    show mr X _ _ 18 _ [.int q11.1] (MM RR q11.2) _
    obtain ⟨z14, g15, h16⟩ := Option.bind_eq_some_iff.mp h13
    obtain ⟨g17, e18⟩ := mm_ifs g15
    cases e18
    cases h16
    exact mr_zreturn dX11_opens_18 rfl g17
  · rw [if_neg c1] at h
    refine mr_icmp_ne_t (t := 19) dX11_opens_6 (by decide) c1 ?_
    refine mr_aload_n (pc' := 20) dX11_opens_19 rfl rfl ?_
    refine mr_dup_ref (pc' := 21) dX11_opens_20 rfl ?_
    refine mr_getI (pc' := 24) (ci := 11) (j := 18) dX11_opens_21 rfl rfl rfl (by decide) (by decide) rfl ?_
    refine mr_iconst (pc' := 25) (v := (1 : Int32)) dX11_opens_24 rfl (by decide) ?_
    refine mr_iadd (pc' := 26) dX11_opens_25 rfl ?_
    obtain ⟨S2, g3, h4⟩ := Option.bind_eq_some_iff.mp h
    refine mr_putI (pc' := 29) (ci := 11) (j := 18) dX11_opens_26 rfl rfl rfl (by decide) (by decide) rfl rfl ?_
    rw [Option.some.inj g3]
    refine mr_aload_n (pc' := 30) dX11_opens_29 rfl rfl ?_
    refine mr_getR (pc' := 33) (ci := 11) (j := 20) (b := 154) hR dX11_opens_30 rfl rfl rfl (by decide) (by decide) (by decide) rfl rfl ?_
    refine mr_aload_n (pc' := 34) dX11_opens_33 rfl rfl ?_
    refine mr_getI (pc' := 37) (ci := 11) (j := 21) dX11_opens_34 rfl rfl rfl (by decide) (by decide) rfl ?_
    refine mr_iload_n (pc' := 38) dX11_opens_37 rfl rfl ?_
    obtain ⟨S5, g6, h7⟩ := Option.bind_eq_some_iff.mp h4
    refine mr_iast (pc' := 39) dX11_opens_38 rfl rfl rfl g6 ?_
    refine mr_aload_n (pc' := 40) dX11_opens_39 rfl rfl ?_
    refine mr_dup_ref (pc' := 41) dX11_opens_40 rfl ?_
    refine mr_getI (pc' := 44) (ci := 11) (j := 21) dX11_opens_41 rfl rfl rfl (by decide) (by decide) rfl ?_
    refine mr_iconst (pc' := 45) (v := (1 : Int32)) dX11_opens_44 rfl (by decide) ?_
    refine mr_iadd (pc' := 46) dX11_opens_45 rfl ?_
    obtain ⟨S8, g9, h10⟩ := Option.bind_eq_some_iff.mp h7
    refine mr_putI (pc' := 49) (ci := 11) (j := 21) dX11_opens_46 rfl rfl rfl (by decide) (by decide) rfl rfl ?_
    rw [Option.some.inj g9]
    refine mr_iconst (pc' := 50) (v := (1 : Int32)) dX11_opens_49 rfl (by decide) ?_
    obtain rfl := Option.some.inj h10
    exact mr_zreturn dX11_opens_50 rfl (by decide)
def f_X11_makes (v1 : Int32) (S : fS) : Option (Int32 × fS) :=
  if (S.1 145 17) = (60 : Int32) then ((f_X11_fails (3 : Int32) v1 S).bind fun q5 =>
  (bZ q5.1).bind fun z8 => some (z8, q5.2)) else
  ((some (pI S 145 17 ((S.1 145 17) + (1 : Int32)))).bind fun S2 =>
  some ((1 : Int32), S2))
set_option maxHeartbeats 4000000 in
set_option maxRecDepth 100000 in
theorem ok_X11_makes {X : mm_C} {RR : Nat → Nat → Option Nat} (hR : RRok RR) {v1 : Int32}  {S : fS} {r : Int32 × fS} (h : f_X11_makes v1 S = some r) : mr X 1 mY_X11_makes 0 (lv_args 0 [.ref 145, .int v1]) [] (MM RR S) (some (.int r.1), MM RR r.2) := by
  unfold f_X11_makes at h
  show mr X _ _ 0 [(0, .ref 145), (1, .int v1)] [] (MM RR S) _
  refine mr_aload_n (pc' := 1) dX11_makes_0 rfl rfl ?_
  refine mr_getI (pc' := 4) (ci := 11) (j := 17) dX11_makes_1 rfl rfl rfl (by decide) (by decide) rfl ?_
  refine mr_bipush (pc' := 6) (v := (60 : Int32)) dX11_makes_4 rfl (by decide) ?_
  by_cases c1 : (S.1 145 17) = (60 : Int32)
  · rw [if_pos c1] at h
    refine mr_icmp_ne_f (t := 16) (pc' := 9) dX11_makes_6 (by decide) rfl (not_not_intro c1) ?_
    refine mr_aload_n (pc' := 10) dX11_makes_9 rfl rfl ?_
    refine mr_iconst (pc' := 11) (v := (3 : Int32)) dX11_makes_10 rfl (by decide) ?_
    refine mr_iload_n (pc' := 12) dX11_makes_11 rfl rfl ?_
    obtain ⟨q5, g6, h7⟩ := Option.bind_eq_some_iff.mp h
    refine mr_cv (pc' := 15) (a := 145) (d1 := 0) dX11_makes_12 rfl rfl rfl rfl rfl rfl (by decide) rfl (by decide) (ok_X11_fails hR  g6) ?_
    show mr X _ _ 15 _ [.int q5.1] (MM RR q5.2) _
    obtain ⟨z8, g9, h10⟩ := Option.bind_eq_some_iff.mp h7
    obtain ⟨g11, e12⟩ := mm_ifs g9
    cases e12
    cases h10
    exact mr_zreturn dX11_makes_15 rfl g11
  · rw [if_neg c1] at h
    refine mr_icmp_ne_t (t := 16) dX11_makes_6 (by decide) c1 ?_
    refine mr_aload_n (pc' := 17) dX11_makes_16 rfl rfl ?_
    refine mr_dup_ref (pc' := 18) dX11_makes_17 rfl ?_
    refine mr_getI (pc' := 21) (ci := 11) (j := 17) dX11_makes_18 rfl rfl rfl (by decide) (by decide) rfl ?_
    refine mr_iconst (pc' := 22) (v := (1 : Int32)) dX11_makes_21 rfl (by decide) ?_
    refine mr_iadd (pc' := 23) dX11_makes_22 rfl ?_
    obtain ⟨S2, g3, h4⟩ := Option.bind_eq_some_iff.mp h
    refine mr_putI (pc' := 26) (ci := 11) (j := 17) dX11_makes_23 rfl rfl rfl (by decide) (by decide) rfl rfl ?_
    rw [Option.some.inj g3]
    refine mr_iconst (pc' := 27) (v := (1 : Int32)) dX11_makes_26 rfl (by decide) ?_
    obtain rfl := Option.some.inj h4
    exact mr_zreturn dX11_makes_27 rfl (by decide)
def f_X11_puts (v1 : Int32) (v2 : Int32) (S : fS) : Option (fS) :=
  (gI S 148 7 (S.1 145 16)).bind fun a1 =>
  (sI S 147 2400 (((400 : Int32) * (S.1 145 16)) + a1) (v1 + ((16 : Int32) * v2))).bind fun S4 =>
  (gI S4 148 7 (S4.1 145 16)).bind fun a7 =>
  (sI S4 148 7 (S4.1 145 16) (a7 + (1 : Int32))).bind fun S10 =>
  some S10
set_option maxHeartbeats 4000000 in
set_option maxRecDepth 100000 in
theorem ok_X11_puts {X : mm_C} {RR : Nat → Nat → Option Nat} (hR : RRok RR) {v1 : Int32} {v2 : Int32}  {S : fS} {r : fS} (h : f_X11_puts v1 v2 S = some r) : mr X 0 mY_X11_puts 0 (lv_args 0 [.ref 145, .int v1, .int v2]) [] (MM RR S) (none, MM RR r) := by
  unfold f_X11_puts at h
  show mr X _ _ 0 [(0, .ref 145), (1, .int v1), (2, .int v2)] [] (MM RR S) _
  refine mr_aload_n (pc' := 1) dX11_puts_0 rfl rfl ?_
  refine mr_getR (pc' := 4) (ci := 11) (j := 3) (b := 147) hR dX11_puts_1 rfl rfl rfl (by decide) (by decide) (by decide) rfl rfl ?_
  refine mr_sipush (pc' := 7) (v := (400 : Int32)) dX11_puts_4 rfl (by decide) ?_
  refine mr_aload_n (pc' := 8) dX11_puts_7 rfl rfl ?_
  refine mr_getI (pc' := 11) (ci := 11) (j := 16) dX11_puts_8 rfl rfl rfl (by decide) (by decide) rfl ?_
  refine mr_imul (pc' := 12) dX11_puts_11 rfl ?_
  refine mr_aload_n (pc' := 13) dX11_puts_12 rfl rfl ?_
  refine mr_getR (pc' := 16) (ci := 11) (j := 4) (b := 148) hR dX11_puts_13 rfl rfl rfl (by decide) (by decide) (by decide) rfl rfl ?_
  refine mr_aload_n (pc' := 17) dX11_puts_16 rfl rfl ?_
  refine mr_getI (pc' := 20) (ci := 11) (j := 16) dX11_puts_17 rfl rfl rfl (by decide) (by decide) rfl ?_
  obtain ⟨a1, g2, h3⟩ := Option.bind_eq_some_iff.mp h
  refine mr_iald (pc' := 21) dX11_puts_20 rfl rfl rfl g2 ?_
  refine mr_iadd (pc' := 22) dX11_puts_21 rfl ?_
  refine mr_iload_n (pc' := 23) dX11_puts_22 rfl rfl ?_
  refine mr_bipush (pc' := 25) (v := (16 : Int32)) dX11_puts_23 rfl (by decide) ?_
  refine mr_iload_n (pc' := 26) dX11_puts_25 rfl rfl ?_
  refine mr_imul (pc' := 27) dX11_puts_26 rfl ?_
  refine mr_iadd (pc' := 28) dX11_puts_27 rfl ?_
  obtain ⟨S4, g5, h6⟩ := Option.bind_eq_some_iff.mp h3
  refine mr_iast (pc' := 29) dX11_puts_28 rfl rfl rfl g5 ?_
  refine mr_aload_n (pc' := 30) dX11_puts_29 rfl rfl ?_
  refine mr_getR (pc' := 33) (ci := 11) (j := 4) (b := 148) hR dX11_puts_30 rfl rfl rfl (by decide) (by decide) (by decide) rfl rfl ?_
  refine mr_aload_n (pc' := 34) dX11_puts_33 rfl rfl ?_
  refine mr_getI (pc' := 37) (ci := 11) (j := 16) dX11_puts_34 rfl rfl rfl (by decide) (by decide) rfl ?_
  refine mr_dup2 (pc' := 38) dX11_puts_37 rfl ?_
  obtain ⟨a7, g8, h9⟩ := Option.bind_eq_some_iff.mp h6
  refine mr_iald (pc' := 39) dX11_puts_38 rfl rfl rfl g8 ?_
  refine mr_iconst (pc' := 40) (v := (1 : Int32)) dX11_puts_39 rfl (by decide) ?_
  refine mr_iadd (pc' := 41) dX11_puts_40 rfl ?_
  obtain ⟨S10, g11, h12⟩ := Option.bind_eq_some_iff.mp h9
  refine mr_iast (pc' := 42) dX11_puts_41 rfl rfl rfl g11 ?_
  obtain rfl := Option.some.inj h12
  exact mr_return dX11_puts_42 rfl
def f_X11_wordHere  (S : fS) : Option (Int32 × fS) :=
  (f_X11_isWord (7237495 : Int64) S).bind fun q1 =>
  if q1.1 = (0 : Int32) then ((f_X11_isWord (499967946343 : Int64) q1.2).bind fun q5 =>
  if q5.1 = (0 : Int32) then ((f_X11_isWord (439905906546 : Int64) q5.2).bind fun q9 =>
  if q9.1 = (0 : Int32) then ((f_X11_isWord (6383461 : Int64) q9.2).bind fun q13 =>
  if q13.1 = (0 : Int32) then ((f_X11_isWord (1751478885 : Int64) q13.2).bind fun q17 =>
  if q17.1 = (0 : Int32) then ((f_X11_isWord (1918989413 : Int64) q17.2).bind fun q21 =>
  if q21.1 = (0 : Int32) then ((f_X11_isWord (122511331521396 : Int64) q21.2).bind fun q25 =>
  if q25.1 = (0 : Int32) then ((f_X11_isWord (8750341718045717364 : Int64) q25.2).bind fun q29 =>
  if q29.1 = (0 : Int32) then (some ((-1 : Int32), q29.2)) else
  (some ((7 : Int32), q29.2))) else
  (some ((6 : Int32), q25.2))) else
  (some ((5 : Int32), q21.2))) else
  (some ((4 : Int32), q17.2))) else
  (some ((3 : Int32), q13.2))) else
  (some ((2 : Int32), q9.2))) else
  (some ((1 : Int32), q5.2))) else
  (some ((0 : Int32), q1.2))
set_option maxHeartbeats 4000000 in
set_option maxRecDepth 100000 in
theorem ok_X11_wordHere {X : mm_C} {RR : Nat → Nat → Option Nat} (hR : RRok RR)   {S : fS} {r : Int32 × fS} (h : f_X11_wordHere  S = some r) : mr X 2 mY_X11_wordHere 0 (lv_args 0 [.ref 145]) [] (MM RR S) (some (.int r.1), MM RR r.2) := by
  unfold f_X11_wordHere at h
  show mr X _ _ 0 [(0, .ref 145)] [] (MM RR S) _
  refine mr_aload_n (pc' := 1) dX11_wordHere_0 rfl rfl ?_
  refine mr_ldc2 (pc' := 4) (v := (7237495 : Int64)) dX11_wordHere_1 rfl rfl ?_
  obtain ⟨q1, g2, h3⟩ := Option.bind_eq_some_iff.mp h
  refine mr_cv (pc' := 7) (a := 145) (d1 := 1) dX11_wordHere_4 rfl rfl rfl rfl rfl rfl (by decide) rfl (by decide) (ok_X11_isWord hR  g2) ?_
  show mr X _ _ 7 _ [.int q1.1] (MM RR q1.2) _
  by_cases c4 : q1.1 = (0 : Int32)
  · rw [if_pos c4] at h3
    refine mr_if_eq_t (t := 12) dX11_wordHere_7 (by decide) c4 ?_
    refine mr_aload_n (pc' := 13) dX11_wordHere_12 rfl rfl ?_
    refine mr_ldc2 (pc' := 16) (v := (499967946343 : Int64)) dX11_wordHere_13 rfl rfl ?_
    obtain ⟨q5, g6, h7⟩ := Option.bind_eq_some_iff.mp h3
    refine mr_cv (pc' := 19) (a := 145) (d1 := 1) dX11_wordHere_16 rfl rfl rfl rfl rfl rfl (by decide) rfl (by decide) (ok_X11_isWord hR  g6) ?_
    show mr X _ _ 19 _ [.int q5.1] (MM RR q5.2) _
    by_cases c8 : q5.1 = (0 : Int32)
    · rw [if_pos c8] at h7
      refine mr_if_eq_t (t := 24) dX11_wordHere_19 (by decide) c8 ?_
      refine mr_aload_n (pc' := 25) dX11_wordHere_24 rfl rfl ?_
      refine mr_ldc2 (pc' := 28) (v := (439905906546 : Int64)) dX11_wordHere_25 rfl rfl ?_
      obtain ⟨q9, g10, h11⟩ := Option.bind_eq_some_iff.mp h7
      refine mr_cv (pc' := 31) (a := 145) (d1 := 1) dX11_wordHere_28 rfl rfl rfl rfl rfl rfl (by decide) rfl (by decide) (ok_X11_isWord hR  g10) ?_
      show mr X _ _ 31 _ [.int q9.1] (MM RR q9.2) _
      by_cases c12 : q9.1 = (0 : Int32)
      · rw [if_pos c12] at h11
        refine mr_if_eq_t (t := 36) dX11_wordHere_31 (by decide) c12 ?_
        refine mr_aload_n (pc' := 37) dX11_wordHere_36 rfl rfl ?_
        refine mr_ldc2 (pc' := 40) (v := (6383461 : Int64)) dX11_wordHere_37 rfl rfl ?_
        obtain ⟨q13, g14, h15⟩ := Option.bind_eq_some_iff.mp h11
        refine mr_cv (pc' := 43) (a := 145) (d1 := 1) dX11_wordHere_40 rfl rfl rfl rfl rfl rfl (by decide) rfl (by decide) (ok_X11_isWord hR  g14) ?_
        show mr X _ _ 43 _ [.int q13.1] (MM RR q13.2) _
        by_cases c16 : q13.1 = (0 : Int32)
        · rw [if_pos c16] at h15
          refine mr_if_eq_t (t := 48) dX11_wordHere_43 (by decide) c16 ?_
          refine mr_aload_n (pc' := 49) dX11_wordHere_48 rfl rfl ?_
          refine mr_ldc2 (pc' := 52) (v := (1751478885 : Int64)) dX11_wordHere_49 rfl rfl ?_
          obtain ⟨q17, g18, h19⟩ := Option.bind_eq_some_iff.mp h15
          refine mr_cv (pc' := 55) (a := 145) (d1 := 1) dX11_wordHere_52 rfl rfl rfl rfl rfl rfl (by decide) rfl (by decide) (ok_X11_isWord hR  g18) ?_
          show mr X _ _ 55 _ [.int q17.1] (MM RR q17.2) _
          by_cases c20 : q17.1 = (0 : Int32)
          · rw [if_pos c20] at h19
            refine mr_if_eq_t (t := 60) dX11_wordHere_55 (by decide) c20 ?_
            refine mr_aload_n (pc' := 61) dX11_wordHere_60 rfl rfl ?_
            refine mr_ldc2 (pc' := 64) (v := (1918989413 : Int64)) dX11_wordHere_61 rfl rfl ?_
            obtain ⟨q21, g22, h23⟩ := Option.bind_eq_some_iff.mp h19
            refine mr_cv (pc' := 67) (a := 145) (d1 := 1) dX11_wordHere_64 rfl rfl rfl rfl rfl rfl (by decide) rfl (by decide) (ok_X11_isWord hR  g22) ?_
            show mr X _ _ 67 _ [.int q21.1] (MM RR q21.2) _
            by_cases c24 : q21.1 = (0 : Int32)
            · rw [if_pos c24] at h23
              refine mr_if_eq_t (t := 72) dX11_wordHere_67 (by decide) c24 ?_
              refine mr_aload_n (pc' := 73) dX11_wordHere_72 rfl rfl ?_
              refine mr_ldc2 (pc' := 76) (v := (122511331521396 : Int64)) dX11_wordHere_73 rfl rfl ?_
              obtain ⟨q25, g26, h27⟩ := Option.bind_eq_some_iff.mp h23
              refine mr_cv (pc' := 79) (a := 145) (d1 := 1) dX11_wordHere_76 rfl rfl rfl rfl rfl rfl (by decide) rfl (by decide) (ok_X11_isWord hR  g26) ?_
              show mr X _ _ 79 _ [.int q25.1] (MM RR q25.2) _
              by_cases c28 : q25.1 = (0 : Int32)
              · rw [if_pos c28] at h27
                refine mr_if_eq_t (t := 87) dX11_wordHere_79 (by decide) c28 ?_
                refine mr_aload_n (pc' := 88) dX11_wordHere_87 rfl rfl ?_
                refine mr_ldc2 (pc' := 91) (v := (8750341718045717364 : Int64)) dX11_wordHere_88 rfl rfl ?_
                obtain ⟨q29, g30, h31⟩ := Option.bind_eq_some_iff.mp h27
                refine mr_cv (pc' := 94) (a := 145) (d1 := 1) dX11_wordHere_91 rfl rfl rfl rfl rfl rfl (by decide) rfl (by decide) (ok_X11_isWord hR  g30) ?_
                show mr X _ _ 94 _ [.int q29.1] (MM RR q29.2) _
                by_cases c32 : q29.1 = (0 : Int32)
                · rw [if_pos c32] at h31
                  refine mr_if_eq_t (t := 102) dX11_wordHere_94 (by decide) c32 ?_
                  refine mr_iconst (pc' := 103) (v := (-1 : Int32)) dX11_wordHere_102 rfl (by decide) ?_
                  obtain rfl := Option.some.inj h31
                  exact mr_ireturn dX11_wordHere_103 rfl
                · rw [if_neg c32] at h31
                  refine mr_if_eq_f (t := 102) (pc' := 97) dX11_wordHere_94 (by decide) rfl c32 ?_
                  refine mr_bipush (pc' := 99) (v := (7 : Int32)) dX11_wordHere_97 rfl (by decide) ?_
                  refine mr_goto (t := 103) dX11_wordHere_99 (by decide) ?_
                  obtain rfl := Option.some.inj h31
                  exact mr_ireturn dX11_wordHere_103 rfl
              · rw [if_neg c28] at h27
                refine mr_if_eq_f (t := 87) (pc' := 82) dX11_wordHere_79 (by decide) rfl c28 ?_
                refine mr_bipush (pc' := 84) (v := (6 : Int32)) dX11_wordHere_82 rfl (by decide) ?_
                refine mr_goto (t := 103) dX11_wordHere_84 (by decide) ?_
                obtain rfl := Option.some.inj h27
                exact mr_ireturn dX11_wordHere_103 rfl
            · rw [if_neg c24] at h23
              refine mr_if_eq_f (t := 72) (pc' := 70) dX11_wordHere_67 (by decide) rfl c24 ?_
              refine mr_iconst (pc' := 71) (v := (5 : Int32)) dX11_wordHere_70 rfl (by decide) ?_
              obtain rfl := Option.some.inj h23
              exact mr_ireturn dX11_wordHere_71 rfl
          · rw [if_neg c20] at h19
            refine mr_if_eq_f (t := 60) (pc' := 58) dX11_wordHere_55 (by decide) rfl c20 ?_
            refine mr_iconst (pc' := 59) (v := (4 : Int32)) dX11_wordHere_58 rfl (by decide) ?_
            obtain rfl := Option.some.inj h19
            exact mr_ireturn dX11_wordHere_59 rfl
        · rw [if_neg c16] at h15
          refine mr_if_eq_f (t := 48) (pc' := 46) dX11_wordHere_43 (by decide) rfl c16 ?_
          refine mr_iconst (pc' := 47) (v := (3 : Int32)) dX11_wordHere_46 rfl (by decide) ?_
          obtain rfl := Option.some.inj h15
          exact mr_ireturn dX11_wordHere_47 rfl
      · rw [if_neg c12] at h11
        refine mr_if_eq_f (t := 36) (pc' := 34) dX11_wordHere_31 (by decide) rfl c12 ?_
        refine mr_iconst (pc' := 35) (v := (2 : Int32)) dX11_wordHere_34 rfl (by decide) ?_
        obtain rfl := Option.some.inj h11
        exact mr_ireturn dX11_wordHere_35 rfl
    · rw [if_neg c8] at h7
      refine mr_if_eq_f (t := 24) (pc' := 22) dX11_wordHere_19 (by decide) rfl c8 ?_
      refine mr_iconst (pc' := 23) (v := (1 : Int32)) dX11_wordHere_22 rfl (by decide) ?_
      obtain rfl := Option.some.inj h7
      exact mr_ireturn dX11_wordHere_23 rfl
  · rw [if_neg c4] at h3
    refine mr_if_eq_f (t := 12) (pc' := 10) dX11_wordHere_7 (by decide) rfl c4 ?_
    refine mr_iconst (pc' := 11) (v := (0 : Int32)) dX11_wordHere_10 rfl (by decide) ?_
    obtain rfl := Option.some.inj h3
    exact mr_ireturn dX11_wordHere_11 rfl
def f_X11_value  (S : fS) : Option (Int32 × fS) :=
  (f_X11_see  S).bind fun q1 =>
  (f_X11_isDigit (q1.2.1 145 13) q1.2).bind fun q4 =>
  if q4 = (0 : Int32) then ((f_X11_wordHere  q1.2).bind fun q8 =>
  if (0 : Int32) ≤ q8.1 then ((f_X11_makes (q1.2.1 145 13) q8.2).bind fun q12 =>
  if q12.1 = (0 : Int32) then (some ((0 : Int32), q12.2)) else
  ((f_X11_passWord  q12.2).bind fun q16 =>
  (f_X11_puts (1 : Int32) q8.1 q16).bind fun q19 =>
  some ((1 : Int32), q19))) else
  ((f_X11_fails (0 : Int32) (q1.2.1 145 13) q8.2).bind fun q22 =>
  (bZ q22.1).bind fun z25 => some (z25, q22.2))) else
  ((f_X11_numberHere (0 : Int32) (99999 : Int32) q1.2).bind fun q30 =>
  if q30.1 = (0 : Int32) then (some ((0 : Int32), q30.2)) else
  ((f_X11_makes (q1.2.1 145 13) q30.2).bind fun q34 =>
  if q34.1 = (0 : Int32) then (some ((0 : Int32), q34.2)) else
  ((f_X11_puts (0 : Int32) (q34.2.1 145 15) q34.2).bind fun q38 =>
  some ((1 : Int32), q38))))
set_option maxHeartbeats 4000000 in
set_option maxRecDepth 100000 in
theorem ok_X11_value {X : mm_C} {RR : Nat → Nat → Option Nat} (hR : RRok RR)   {S : fS} {r : Int32 × fS} (h : f_X11_value  S = some r) : mr X 3 mY_X11_value 0 (lv_args 0 [.ref 145]) [] (MM RR S) (some (.int r.1), MM RR r.2) := by
  unfold f_X11_value at h
  show mr X _ _ 0 [(0, .ref 145)] [] (MM RR S) _
  refine mr_aload_n (pc' := 1) dX11_value_0 rfl rfl ?_
  obtain ⟨q1, g2, h3⟩ := Option.bind_eq_some_iff.mp h
  refine mr_cv (pc' := 4) (a := 145) (d1 := 0) dX11_value_1 rfl rfl rfl rfl rfl rfl (by decide) rfl (by decide) (ok_X11_see hR  g2) ?_
  show mr X _ _ 4 _ [.int q1.1] (MM RR q1.2) _
  refine mr_pop_int (pc' := 5) dX11_value_4 rfl ?_
  refine mr_aload_n (pc' := 6) dX11_value_5 rfl rfl ?_
  refine mr_getI (pc' := 9) (ci := 11) (j := 13) dX11_value_6 rfl rfl rfl (by decide) (by decide) rfl ?_
  refine mr_istore_n (pc' := 10) (lv' := [(1, .int (q1.2.1 145 13)), (0, .ref 145)]) dX11_value_9 rfl (by decide) rfl ?_
  refine mr_aload_n (pc' := 11) dX11_value_10 rfl rfl ?_
  refine mr_aload_n (pc' := 12) dX11_value_11 rfl rfl ?_
  refine mr_getI (pc' := 15) (ci := 11) (j := 13) dX11_value_12 rfl rfl rfl (by decide) (by decide) rfl ?_
  obtain ⟨q4, g5, h6⟩ := Option.bind_eq_some_iff.mp h3
  refine mr_cv (pc' := 18) (a := 145) (d1 := 0) dX11_value_15 rfl rfl rfl rfl rfl rfl (by decide) rfl (by decide) (ok_X11_isDigit hR  g5) ?_
  show mr X _ _ 18 _ [.int q4] (MM RR q1.2) _
  by_cases c7 : q4 = (0 : Int32)
  · rw [if_pos c7] at h6
    refine mr_if_eq_t (t := 52) dX11_value_18 (by decide) c7 ?_
    refine mr_aload_n (pc' := 53) dX11_value_52 rfl rfl ?_
    obtain ⟨q8, g9, h10⟩ := Option.bind_eq_some_iff.mp h6
    refine mr_cv (pc' := 56) (a := 145) (d1 := 2) dX11_value_53 rfl rfl rfl rfl rfl rfl (by decide) rfl (by decide) (ok_X11_wordHere hR  g9) ?_
    show mr X _ _ 56 _ [.int q8.1] (MM RR q8.2) _
    refine mr_istore_n (pc' := 57) (lv' := [(2, .int q8.1), (1, .int (q1.2.1 145 13)), (0, .ref 145)]) dX11_value_56 rfl (by decide) rfl ?_
    refine mr_iload_n (pc' := 58) dX11_value_57 rfl rfl ?_
    by_cases c11 : (0 : Int32) ≤ q8.1
    · rw [if_pos c11] at h10
      refine mr_if_ge_t (t := 68) dX11_value_58 (by decide) c11 ?_
      refine mr_aload_n (pc' := 69) dX11_value_68 rfl rfl ?_
      refine mr_iload_n (pc' := 70) dX11_value_69 rfl rfl ?_
      obtain ⟨q12, g13, h14⟩ := Option.bind_eq_some_iff.mp h10
      refine mr_cv (pc' := 73) (a := 145) (d1 := 1) dX11_value_70 rfl rfl rfl rfl rfl rfl (by decide) rfl (by decide) (ok_X11_makes hR  g13) ?_
      show mr X _ _ 73 _ [.int q12.1] (MM RR q12.2) _
      by_cases c15 : q12.1 = (0 : Int32)
      · rw [if_pos c15] at h14
        refine mr_if_ne_f (t := 78) (pc' := 76) dX11_value_73 (by decide) rfl (not_not_intro c15) ?_
        refine mr_iconst (pc' := 77) (v := (0 : Int32)) dX11_value_76 rfl (by decide) ?_
        obtain rfl := Option.some.inj h14
        exact mr_zreturn dX11_value_77 rfl (by decide)
      · rw [if_neg c15] at h14
        refine mr_if_ne_t (t := 78) dX11_value_73 (by decide) c15 ?_
        refine mr_aload_n (pc' := 79) dX11_value_78 rfl rfl ?_
        obtain ⟨q16, g17, h18⟩ := Option.bind_eq_some_iff.mp h14
        refine mr_cv (pc' := 82) (a := 145) (d1 := 1) dX11_value_79 rfl rfl rfl rfl rfl rfl (by decide) rfl (by decide) (ok_X11_passWord hR  g17) ?_
        show mr X _ _ 82 _ [] (MM RR q16) _
        refine mr_aload_n (pc' := 83) dX11_value_82 rfl rfl ?_
        refine mr_iconst (pc' := 84) (v := (1 : Int32)) dX11_value_83 rfl (by decide) ?_
        refine mr_iload_n (pc' := 85) dX11_value_84 rfl rfl ?_
        obtain ⟨q19, g20, h21⟩ := Option.bind_eq_some_iff.mp h18
        refine mr_cv (pc' := 88) (a := 145) (d1 := 0) dX11_value_85 rfl rfl rfl rfl rfl rfl (by decide) rfl (by decide) (ok_X11_puts hR  g20) ?_
        show mr X _ _ 88 _ [] (MM RR q19) _
        refine mr_iconst (pc' := 89) (v := (1 : Int32)) dX11_value_88 rfl (by decide) ?_
        obtain rfl := Option.some.inj h21
        exact mr_zreturn dX11_value_89 rfl (by decide)
    · rw [if_neg c11] at h10
      refine mr_if_ge_f (t := 68) (pc' := 61) dX11_value_58 (by decide) rfl c11 ?_
      refine mr_aload_n (pc' := 62) dX11_value_61 rfl rfl ?_
      refine mr_iconst (pc' := 63) (v := (0 : Int32)) dX11_value_62 rfl (by decide) ?_
      refine mr_iload_n (pc' := 64) dX11_value_63 rfl rfl ?_
      obtain ⟨q22, g23, h24⟩ := Option.bind_eq_some_iff.mp h10
      refine mr_cv (pc' := 67) (a := 145) (d1 := 0) dX11_value_64 rfl rfl rfl rfl rfl rfl (by decide) rfl (by decide) (ok_X11_fails hR  g23) ?_
      show mr X _ _ 67 _ [.int q22.1] (MM RR q22.2) _
      obtain ⟨z25, g26, h27⟩ := Option.bind_eq_some_iff.mp h24
      obtain ⟨g28, e29⟩ := mm_ifs g26
      cases e29
      cases h27
      exact mr_zreturn dX11_value_67 rfl g28
  · rw [if_neg c7] at h6
    refine mr_if_eq_f (t := 52) (pc' := 21) dX11_value_18 (by decide) rfl c7 ?_
    refine mr_aload_n (pc' := 22) dX11_value_21 rfl rfl ?_
    refine mr_iconst (pc' := 23) (v := (0 : Int32)) dX11_value_22 rfl (by decide) ?_
    refine mr_ldc (pc' := 25) (v := (99999 : Int32)) dX11_value_23 rfl rfl ?_
    obtain ⟨q30, g31, h32⟩ := Option.bind_eq_some_iff.mp h6
    refine mr_cv (pc' := 28) (a := 145) (d1 := 1) dX11_value_25 rfl rfl rfl rfl rfl rfl (by decide) rfl (by decide) (ok_X11_numberHere hR  g31) ?_
    show mr X _ _ 28 _ [.int q30.1] (MM RR q30.2) _
    by_cases c33 : q30.1 = (0 : Int32)
    · rw [if_pos c33] at h32
      refine mr_if_eq_t (t := 39) dX11_value_28 (by decide) c33 ?_
      refine mr_iconst (pc' := 40) (v := (0 : Int32)) dX11_value_39 rfl (by decide) ?_
      obtain rfl := Option.some.inj h32
      exact mr_zreturn dX11_value_40 rfl (by decide)
    · rw [if_neg c33] at h32
      refine mr_if_eq_f (t := 39) (pc' := 31) dX11_value_28 (by decide) rfl c33 ?_
      refine mr_aload_n (pc' := 32) dX11_value_31 rfl rfl ?_
      refine mr_iload_n (pc' := 33) dX11_value_32 rfl rfl ?_
      obtain ⟨q34, g35, h36⟩ := Option.bind_eq_some_iff.mp h32
      refine mr_cv (pc' := 36) (a := 145) (d1 := 1) dX11_value_33 rfl rfl rfl rfl rfl rfl (by decide) rfl (by decide) (ok_X11_makes hR  g35) ?_
      show mr X _ _ 36 _ [.int q34.1] (MM RR q34.2) _
      by_cases c37 : q34.1 = (0 : Int32)
      · rw [if_pos c37] at h36
        refine mr_if_ne_f (t := 41) (pc' := 39) dX11_value_36 (by decide) rfl (not_not_intro c37) ?_
        refine mr_iconst (pc' := 40) (v := (0 : Int32)) dX11_value_39 rfl (by decide) ?_
        obtain rfl := Option.some.inj h36
        exact mr_zreturn dX11_value_40 rfl (by decide)
      · rw [if_neg c37] at h36
        refine mr_if_ne_t (t := 41) dX11_value_36 (by decide) c37 ?_
        refine mr_aload_n (pc' := 42) dX11_value_41 rfl rfl ?_
        refine mr_iconst (pc' := 43) (v := (0 : Int32)) dX11_value_42 rfl (by decide) ?_
        refine mr_aload_n (pc' := 44) dX11_value_43 rfl rfl ?_
        refine mr_getI (pc' := 47) (ci := 11) (j := 15) dX11_value_44 rfl rfl rfl (by decide) (by decide) rfl ?_
        obtain ⟨q38, g39, h40⟩ := Option.bind_eq_some_iff.mp h36
        refine mr_cv (pc' := 50) (a := 145) (d1 := 0) dX11_value_47 rfl rfl rfl rfl rfl rfl (by decide) rfl (by decide) (ok_X11_puts hR  g39) ?_
        show mr X _ _ 50 _ [] (MM RR q38) _
        refine mr_iconst (pc' := 51) (v := (1 : Int32)) dX11_value_50 rfl (by decide) ?_
        obtain rfl := Option.some.inj h40
        exact mr_zreturn dX11_value_51 rfl (by decide)
def lp_X11_term_9  (K : fS → Option (Int32 × fS)) : Nat → fS → Option (Int32 × fS)
  | 0, _ => none
  | n + 1, S0 =>
    (f_X11_see  S0).bind fun q5 =>
    if q5.1 = (42 : Int32) then ((gI q5.2 146 400 (q5.2.1 145 13)).bind fun a9 =>
    if a9 = (42 : Int32) then ((some (pI q5.2 145 13 ((q5.2.1 145 13) + (1 : Int32)))).bind fun S23 =>
    (f_X11_value  S23).bind fun q26 =>
    if q26.1 = (0 : Int32) then (some ((0 : Int32), q26.2)) else
    ((f_X11_puts (4 : Int32) (0 : Int32) q26.2).bind fun q30 =>
    lp_X11_term_9  K n  q30)) else
    ((some (pI q5.2 145 13 ((q5.2.1 145 13) + (1 : Int32)))).bind fun S13 =>
    (f_X11_value  S13).bind fun q16 =>
    if q16.1 = (0 : Int32) then (some ((0 : Int32), q16.2)) else
    ((f_X11_puts (5 : Int32) (0 : Int32) q16.2).bind fun q20 =>
    lp_X11_term_9  K n  q20))) else
    ((f_X11_see  q5.2).bind fun q33 =>
    if q33.1 = (47 : Int32) then ((gI q33.2 146 400 (q33.2.1 145 13)).bind fun a37 =>
    if a37 = (42 : Int32) then ((some (pI q33.2 145 13 ((q33.2.1 145 13) + (1 : Int32)))).bind fun S51 =>
    (f_X11_value  S51).bind fun q54 =>
    if q54.1 = (0 : Int32) then (some ((0 : Int32), q54.2)) else
    ((f_X11_puts (4 : Int32) (0 : Int32) q54.2).bind fun q58 =>
    lp_X11_term_9  K n  q58)) else
    ((some (pI q33.2 145 13 ((q33.2.1 145 13) + (1 : Int32)))).bind fun S41 =>
    (f_X11_value  S41).bind fun q44 =>
    if q44.1 = (0 : Int32) then (some ((0 : Int32), q44.2)) else
    ((f_X11_puts (5 : Int32) (0 : Int32) q44.2).bind fun q48 =>
    lp_X11_term_9  K n  q48))) else
    (K q33.2))
set_option maxHeartbeats 4000000 in
set_option maxRecDepth 100000 in
theorem ok_lp_X11_term_9 {X : mm_C} {RR : Nat → Nat → Option Nat} (hR : RRok RR)   {K : fS → Option (Int32 × fS)} {r : Int32 × fS} (hK : ∀ (Sk : fS), K Sk = some r → mr X 4 mY_X11_term 75 [] [] (MM RR Sk) (some (.int r.1), MM RR r.2)) : ∀ (n : Nat) (S0 : fS), lp_X11_term_9  K n S0 = some r → mr X 4 mY_X11_term 9 [(0, .ref 145)] [] (MM RR S0) (some (.int r.1), MM RR r.2) := by
  intro n
  induction n with
  | zero => intro S0 h; exact mm_no h
  | succ n ih =>
    intro S0 h
    unfold lp_X11_term_9 at h
    refine mr_aload_n (pc' := 10) dX11_term_9 rfl rfl ?_
    obtain ⟨q5, g6, h7⟩ := Option.bind_eq_some_iff.mp h
    refine mr_cv (pc' := 13) (a := 145) (d1 := 0) dX11_term_10 rfl rfl rfl rfl rfl rfl (by decide) rfl (by decide) (ok_X11_see hR  g6) ?_
    show mr X _ _ 13 _ [.int q5.1] (MM RR q5.2) _
    refine mr_bipush (pc' := 15) (v := (42 : Int32)) dX11_term_13 rfl (by decide) ?_
    by_cases c8 : q5.1 = (42 : Int32)
    · rw [if_pos c8] at h7
      refine mr_icmp_eq_t (t := 27) dX11_term_15 (by decide) c8 ?_
      refine mr_aload_n (pc' := 28) dX11_term_27 rfl rfl ?_
      refine mr_getR (pc' := 31) (ci := 11) (j := 0) (b := 146) hR dX11_term_28 rfl rfl rfl (by decide) (by decide) (by decide) rfl rfl ?_
      refine mr_aload_n (pc' := 32) dX11_term_31 rfl rfl ?_
      refine mr_getI (pc' := 35) (ci := 11) (j := 13) dX11_term_32 rfl rfl rfl (by decide) (by decide) rfl ?_
      obtain ⟨a9, g10, h11⟩ := Option.bind_eq_some_iff.mp h7
      refine mr_bald (pc' := 36) dX11_term_35 rfl (Or.inl rfl) rfl g10 ?_
      refine mr_bipush (pc' := 38) (v := (42 : Int32)) dX11_term_36 rfl (by decide) ?_
      by_cases c12 : a9 = (42 : Int32)
      · rw [if_pos c12] at h11
        refine mr_icmp_ne_f (t := 45) (pc' := 41) dX11_term_38 (by decide) rfl (not_not_intro c12) ?_
        refine mr_iconst (pc' := 42) (v := (4 : Int32)) dX11_term_41 rfl (by decide) ?_
        refine mr_goto (t := 46) dX11_term_42 (by decide) ?_
        refine mr_istore_n (pc' := 47) (lv' := [(1, .int (4 : Int32)), (0, .ref 145)]) dX11_term_46 rfl (by decide) rfl ?_
        refine mr_aload_n (pc' := 48) dX11_term_47 rfl rfl ?_
        refine mr_dup_ref (pc' := 49) dX11_term_48 rfl ?_
        refine mr_getI (pc' := 52) (ci := 11) (j := 13) dX11_term_49 rfl rfl rfl (by decide) (by decide) rfl ?_
        refine mr_iconst (pc' := 53) (v := (1 : Int32)) dX11_term_52 rfl (by decide) ?_
        refine mr_iadd (pc' := 54) dX11_term_53 rfl ?_
        obtain ⟨S23, g24, h25⟩ := Option.bind_eq_some_iff.mp h11
        refine mr_putI (pc' := 57) (ci := 11) (j := 13) dX11_term_54 rfl rfl rfl (by decide) (by decide) rfl rfl ?_
        rw [Option.some.inj g24]
        refine mr_aload_n (pc' := 58) dX11_term_57 rfl rfl ?_
        obtain ⟨q26, g27, h28⟩ := Option.bind_eq_some_iff.mp h25
        refine mr_cv (pc' := 61) (a := 145) (d1 := 3) dX11_term_58 rfl rfl rfl rfl rfl rfl (by decide) rfl (by decide) (ok_X11_value hR  g27) ?_
        show mr X _ _ 61 _ [.int q26.1] (MM RR q26.2) _
        by_cases c29 : q26.1 = (0 : Int32)
        · rw [if_pos c29] at h28
          refine mr_if_ne_f (t := 66) (pc' := 64) dX11_term_61 (by decide) rfl (not_not_intro c29) ?_
          refine mr_iconst (pc' := 65) (v := (0 : Int32)) dX11_term_64 rfl (by decide) ?_
          obtain rfl := Option.some.inj h28
          exact mr_zreturn dX11_term_65 rfl (by decide)
        · rw [if_neg c29] at h28
          refine mr_if_ne_t (t := 66) dX11_term_61 (by decide) c29 ?_
          refine mr_aload_n (pc' := 67) dX11_term_66 rfl rfl ?_
          refine mr_iload_n (pc' := 68) dX11_term_67 rfl rfl ?_
          refine mr_iconst (pc' := 69) (v := (0 : Int32)) dX11_term_68 rfl (by decide) ?_
          obtain ⟨q30, g31, h32⟩ := Option.bind_eq_some_iff.mp h28
          refine mr_cv (pc' := 72) (a := 145) (d1 := 0) dX11_term_69 rfl rfl rfl rfl rfl rfl (by decide) rfl (by decide) (ok_X11_puts hR  g31) ?_
          show mr X _ _ 72 _ [] (MM RR q30) _
          refine mr_goto (t := 9) dX11_term_72 (by decide) ?_
          exact mr_sub [(0, .ref 145)] ⟨rfl, trivial⟩ rfl (ih _  h32)
      · rw [if_neg c12] at h11
        refine mr_icmp_ne_t (t := 45) dX11_term_38 (by decide) c12 ?_
        refine mr_iconst (pc' := 46) (v := (5 : Int32)) dX11_term_45 rfl (by decide) ?_
        refine mr_istore_n (pc' := 47) (lv' := [(1, .int (5 : Int32)), (0, .ref 145)]) dX11_term_46 rfl (by decide) rfl ?_
        refine mr_aload_n (pc' := 48) dX11_term_47 rfl rfl ?_
        refine mr_dup_ref (pc' := 49) dX11_term_48 rfl ?_
        refine mr_getI (pc' := 52) (ci := 11) (j := 13) dX11_term_49 rfl rfl rfl (by decide) (by decide) rfl ?_
        refine mr_iconst (pc' := 53) (v := (1 : Int32)) dX11_term_52 rfl (by decide) ?_
        refine mr_iadd (pc' := 54) dX11_term_53 rfl ?_
        obtain ⟨S13, g14, h15⟩ := Option.bind_eq_some_iff.mp h11
        refine mr_putI (pc' := 57) (ci := 11) (j := 13) dX11_term_54 rfl rfl rfl (by decide) (by decide) rfl rfl ?_
        rw [Option.some.inj g14]
        refine mr_aload_n (pc' := 58) dX11_term_57 rfl rfl ?_
        obtain ⟨q16, g17, h18⟩ := Option.bind_eq_some_iff.mp h15
        refine mr_cv (pc' := 61) (a := 145) (d1 := 3) dX11_term_58 rfl rfl rfl rfl rfl rfl (by decide) rfl (by decide) (ok_X11_value hR  g17) ?_
        show mr X _ _ 61 _ [.int q16.1] (MM RR q16.2) _
        by_cases c19 : q16.1 = (0 : Int32)
        · rw [if_pos c19] at h18
          refine mr_if_ne_f (t := 66) (pc' := 64) dX11_term_61 (by decide) rfl (not_not_intro c19) ?_
          refine mr_iconst (pc' := 65) (v := (0 : Int32)) dX11_term_64 rfl (by decide) ?_
          obtain rfl := Option.some.inj h18
          exact mr_zreturn dX11_term_65 rfl (by decide)
        · rw [if_neg c19] at h18
          refine mr_if_ne_t (t := 66) dX11_term_61 (by decide) c19 ?_
          refine mr_aload_n (pc' := 67) dX11_term_66 rfl rfl ?_
          refine mr_iload_n (pc' := 68) dX11_term_67 rfl rfl ?_
          refine mr_iconst (pc' := 69) (v := (0 : Int32)) dX11_term_68 rfl (by decide) ?_
          obtain ⟨q20, g21, h22⟩ := Option.bind_eq_some_iff.mp h18
          refine mr_cv (pc' := 72) (a := 145) (d1 := 0) dX11_term_69 rfl rfl rfl rfl rfl rfl (by decide) rfl (by decide) (ok_X11_puts hR  g21) ?_
          show mr X _ _ 72 _ [] (MM RR q20) _
          refine mr_goto (t := 9) dX11_term_72 (by decide) ?_
          exact mr_sub [(0, .ref 145)] ⟨rfl, trivial⟩ rfl (ih _  h22)
    · rw [if_neg c8] at h7
      refine mr_icmp_eq_f (t := 27) (pc' := 18) dX11_term_15 (by decide) rfl c8 ?_
      refine mr_aload_n (pc' := 19) dX11_term_18 rfl rfl ?_
      obtain ⟨q33, g34, h35⟩ := Option.bind_eq_some_iff.mp h7
      refine mr_cv (pc' := 22) (a := 145) (d1 := 0) dX11_term_19 rfl rfl rfl rfl rfl rfl (by decide) rfl (by decide) (ok_X11_see hR  g34) ?_
      show mr X _ _ 22 _ [.int q33.1] (MM RR q33.2) _
      refine mr_bipush (pc' := 24) (v := (47 : Int32)) dX11_term_22 rfl (by decide) ?_
      by_cases c36 : q33.1 = (47 : Int32)
      · rw [if_pos c36] at h35
        refine mr_icmp_ne_f (t := 75) (pc' := 27) dX11_term_24 (by decide) rfl (not_not_intro c36) ?_
        refine mr_aload_n (pc' := 28) dX11_term_27 rfl rfl ?_
        refine mr_getR (pc' := 31) (ci := 11) (j := 0) (b := 146) hR dX11_term_28 rfl rfl rfl (by decide) (by decide) (by decide) rfl rfl ?_
        refine mr_aload_n (pc' := 32) dX11_term_31 rfl rfl ?_
        refine mr_getI (pc' := 35) (ci := 11) (j := 13) dX11_term_32 rfl rfl rfl (by decide) (by decide) rfl ?_
        obtain ⟨a37, g38, h39⟩ := Option.bind_eq_some_iff.mp h35
        refine mr_bald (pc' := 36) dX11_term_35 rfl (Or.inl rfl) rfl g38 ?_
        refine mr_bipush (pc' := 38) (v := (42 : Int32)) dX11_term_36 rfl (by decide) ?_
        by_cases c40 : a37 = (42 : Int32)
        · rw [if_pos c40] at h39
          refine mr_icmp_ne_f (t := 45) (pc' := 41) dX11_term_38 (by decide) rfl (not_not_intro c40) ?_
          refine mr_iconst (pc' := 42) (v := (4 : Int32)) dX11_term_41 rfl (by decide) ?_
          refine mr_goto (t := 46) dX11_term_42 (by decide) ?_
          refine mr_istore_n (pc' := 47) (lv' := [(1, .int (4 : Int32)), (0, .ref 145)]) dX11_term_46 rfl (by decide) rfl ?_
          refine mr_aload_n (pc' := 48) dX11_term_47 rfl rfl ?_
          refine mr_dup_ref (pc' := 49) dX11_term_48 rfl ?_
          refine mr_getI (pc' := 52) (ci := 11) (j := 13) dX11_term_49 rfl rfl rfl (by decide) (by decide) rfl ?_
          refine mr_iconst (pc' := 53) (v := (1 : Int32)) dX11_term_52 rfl (by decide) ?_
          refine mr_iadd (pc' := 54) dX11_term_53 rfl ?_
          obtain ⟨S51, g52, h53⟩ := Option.bind_eq_some_iff.mp h39
          refine mr_putI (pc' := 57) (ci := 11) (j := 13) dX11_term_54 rfl rfl rfl (by decide) (by decide) rfl rfl ?_
          rw [Option.some.inj g52]
          refine mr_aload_n (pc' := 58) dX11_term_57 rfl rfl ?_
          obtain ⟨q54, g55, h56⟩ := Option.bind_eq_some_iff.mp h53
          refine mr_cv (pc' := 61) (a := 145) (d1 := 3) dX11_term_58 rfl rfl rfl rfl rfl rfl (by decide) rfl (by decide) (ok_X11_value hR  g55) ?_
          show mr X _ _ 61 _ [.int q54.1] (MM RR q54.2) _
          by_cases c57 : q54.1 = (0 : Int32)
          · rw [if_pos c57] at h56
            refine mr_if_ne_f (t := 66) (pc' := 64) dX11_term_61 (by decide) rfl (not_not_intro c57) ?_
            refine mr_iconst (pc' := 65) (v := (0 : Int32)) dX11_term_64 rfl (by decide) ?_
            obtain rfl := Option.some.inj h56
            exact mr_zreturn dX11_term_65 rfl (by decide)
          · rw [if_neg c57] at h56
            refine mr_if_ne_t (t := 66) dX11_term_61 (by decide) c57 ?_
            refine mr_aload_n (pc' := 67) dX11_term_66 rfl rfl ?_
            refine mr_iload_n (pc' := 68) dX11_term_67 rfl rfl ?_
            refine mr_iconst (pc' := 69) (v := (0 : Int32)) dX11_term_68 rfl (by decide) ?_
            obtain ⟨q58, g59, h60⟩ := Option.bind_eq_some_iff.mp h56
            refine mr_cv (pc' := 72) (a := 145) (d1 := 0) dX11_term_69 rfl rfl rfl rfl rfl rfl (by decide) rfl (by decide) (ok_X11_puts hR  g59) ?_
            show mr X _ _ 72 _ [] (MM RR q58) _
            refine mr_goto (t := 9) dX11_term_72 (by decide) ?_
            exact mr_sub [(0, .ref 145)] ⟨rfl, trivial⟩ rfl (ih _  h60)
        · rw [if_neg c40] at h39
          refine mr_icmp_ne_t (t := 45) dX11_term_38 (by decide) c40 ?_
          refine mr_iconst (pc' := 46) (v := (5 : Int32)) dX11_term_45 rfl (by decide) ?_
          refine mr_istore_n (pc' := 47) (lv' := [(1, .int (5 : Int32)), (0, .ref 145)]) dX11_term_46 rfl (by decide) rfl ?_
          refine mr_aload_n (pc' := 48) dX11_term_47 rfl rfl ?_
          refine mr_dup_ref (pc' := 49) dX11_term_48 rfl ?_
          refine mr_getI (pc' := 52) (ci := 11) (j := 13) dX11_term_49 rfl rfl rfl (by decide) (by decide) rfl ?_
          refine mr_iconst (pc' := 53) (v := (1 : Int32)) dX11_term_52 rfl (by decide) ?_
          refine mr_iadd (pc' := 54) dX11_term_53 rfl ?_
          obtain ⟨S41, g42, h43⟩ := Option.bind_eq_some_iff.mp h39
          refine mr_putI (pc' := 57) (ci := 11) (j := 13) dX11_term_54 rfl rfl rfl (by decide) (by decide) rfl rfl ?_
          rw [Option.some.inj g42]
          refine mr_aload_n (pc' := 58) dX11_term_57 rfl rfl ?_
          obtain ⟨q44, g45, h46⟩ := Option.bind_eq_some_iff.mp h43
          refine mr_cv (pc' := 61) (a := 145) (d1 := 3) dX11_term_58 rfl rfl rfl rfl rfl rfl (by decide) rfl (by decide) (ok_X11_value hR  g45) ?_
          show mr X _ _ 61 _ [.int q44.1] (MM RR q44.2) _
          by_cases c47 : q44.1 = (0 : Int32)
          · rw [if_pos c47] at h46
            refine mr_if_ne_f (t := 66) (pc' := 64) dX11_term_61 (by decide) rfl (not_not_intro c47) ?_
            refine mr_iconst (pc' := 65) (v := (0 : Int32)) dX11_term_64 rfl (by decide) ?_
            obtain rfl := Option.some.inj h46
            exact mr_zreturn dX11_term_65 rfl (by decide)
          · rw [if_neg c47] at h46
            refine mr_if_ne_t (t := 66) dX11_term_61 (by decide) c47 ?_
            refine mr_aload_n (pc' := 67) dX11_term_66 rfl rfl ?_
            refine mr_iload_n (pc' := 68) dX11_term_67 rfl rfl ?_
            refine mr_iconst (pc' := 69) (v := (0 : Int32)) dX11_term_68 rfl (by decide) ?_
            obtain ⟨q48, g49, h50⟩ := Option.bind_eq_some_iff.mp h46
            refine mr_cv (pc' := 72) (a := 145) (d1 := 0) dX11_term_69 rfl rfl rfl rfl rfl rfl (by decide) rfl (by decide) (ok_X11_puts hR  g49) ?_
            show mr X _ _ 72 _ [] (MM RR q48) _
            refine mr_goto (t := 9) dX11_term_72 (by decide) ?_
            exact mr_sub [(0, .ref 145)] ⟨rfl, trivial⟩ rfl (ih _  h50)
      · rw [if_neg c36] at h35
        refine mr_icmp_ne_t (t := 75) dX11_term_24 (by decide) c36 ?_
        exact mr_sub [] trivial rfl (hK _  h35)
def f_X11_term  (S : fS) : Option (Int32 × fS) :=
  (f_X11_value  S).bind fun q1 =>
  if q1.1 = (0 : Int32) then (some ((0 : Int32), q1.2)) else
  (lp_X11_term_9  (fun S61 => some ((1 : Int32), S61)) FU  q1.2)
set_option maxHeartbeats 4000000 in
set_option maxRecDepth 100000 in
theorem ok_X11_term {X : mm_C} {RR : Nat → Nat → Option Nat} (hR : RRok RR)   {S : fS} {r : Int32 × fS} (h : f_X11_term  S = some r) : mr X 4 mY_X11_term 0 (lv_args 0 [.ref 145]) [] (MM RR S) (some (.int r.1), MM RR r.2) := by
  unfold f_X11_term at h
  show mr X _ _ 0 [(0, .ref 145)] [] (MM RR S) _
  refine mr_aload_n (pc' := 1) dX11_term_0 rfl rfl ?_
  obtain ⟨q1, g2, h3⟩ := Option.bind_eq_some_iff.mp h
  refine mr_cv (pc' := 4) (a := 145) (d1 := 3) dX11_term_1 rfl rfl rfl rfl rfl rfl (by decide) rfl (by decide) (ok_X11_value hR  g2) ?_
  show mr X _ _ 4 _ [.int q1.1] (MM RR q1.2) _
  by_cases c4 : q1.1 = (0 : Int32)
  · rw [if_pos c4] at h3
    refine mr_if_ne_f (t := 9) (pc' := 7) dX11_term_4 (by decide) rfl (not_not_intro c4) ?_
    refine mr_iconst (pc' := 8) (v := (0 : Int32)) dX11_term_7 rfl (by decide) ?_
    obtain rfl := Option.some.inj h3
    exact mr_zreturn dX11_term_8 rfl (by decide)
  · rw [if_neg c4] at h3
    refine mr_if_ne_t (t := 9) dX11_term_4 (by decide) c4 ?_
    refine mr_sub [(0, .ref 145)] ⟨rfl, trivial⟩ rfl ?_
    refine ok_lp_X11_term_9 hR  (fun S61 h62 => ?_) FU _  h3
    refine mr_iconst (pc' := 76) (v := (1 : Int32)) dX11_term_75 rfl (by decide) ?_
    obtain rfl := Option.some.inj h62
    exact mr_zreturn dX11_term_76 rfl (by decide)
def lp_X11_sum_9  (K : fS → Option (Int32 × fS)) : Nat → fS → Option (Int32 × fS)
  | 0, _ => none
  | n + 1, S0 =>
    (f_X11_see  S0).bind fun q5 =>
    if q5.1 = (43 : Int32) then ((gI q5.2 146 400 (q5.2.1 145 13)).bind fun a9 =>
    if a9 = (43 : Int32) then ((some (pI q5.2 145 13 ((q5.2.1 145 13) + (1 : Int32)))).bind fun S23 =>
    (f_X11_term  S23).bind fun q26 =>
    if q26.1 = (0 : Int32) then (some ((0 : Int32), q26.2)) else
    ((f_X11_puts (2 : Int32) (0 : Int32) q26.2).bind fun q30 =>
    lp_X11_sum_9  K n  q30)) else
    ((some (pI q5.2 145 13 ((q5.2.1 145 13) + (1 : Int32)))).bind fun S13 =>
    (f_X11_term  S13).bind fun q16 =>
    if q16.1 = (0 : Int32) then (some ((0 : Int32), q16.2)) else
    ((f_X11_puts (3 : Int32) (0 : Int32) q16.2).bind fun q20 =>
    lp_X11_sum_9  K n  q20))) else
    ((f_X11_see  q5.2).bind fun q33 =>
    if q33.1 = (45 : Int32) then ((gI q33.2 146 400 (q33.2.1 145 13)).bind fun a37 =>
    if a37 = (43 : Int32) then ((some (pI q33.2 145 13 ((q33.2.1 145 13) + (1 : Int32)))).bind fun S51 =>
    (f_X11_term  S51).bind fun q54 =>
    if q54.1 = (0 : Int32) then (some ((0 : Int32), q54.2)) else
    ((f_X11_puts (2 : Int32) (0 : Int32) q54.2).bind fun q58 =>
    lp_X11_sum_9  K n  q58)) else
    ((some (pI q33.2 145 13 ((q33.2.1 145 13) + (1 : Int32)))).bind fun S41 =>
    (f_X11_term  S41).bind fun q44 =>
    if q44.1 = (0 : Int32) then (some ((0 : Int32), q44.2)) else
    ((f_X11_puts (3 : Int32) (0 : Int32) q44.2).bind fun q48 =>
    lp_X11_sum_9  K n  q48))) else
    (K q33.2))
set_option maxHeartbeats 4000000 in
set_option maxRecDepth 100000 in
theorem ok_lp_X11_sum_9 {X : mm_C} {RR : Nat → Nat → Option Nat} (hR : RRok RR)   {K : fS → Option (Int32 × fS)} {r : Int32 × fS} (hK : ∀ (Sk : fS), K Sk = some r → mr X 5 mY_X11_sum 75 [] [] (MM RR Sk) (some (.int r.1), MM RR r.2)) : ∀ (n : Nat) (S0 : fS), lp_X11_sum_9  K n S0 = some r → mr X 5 mY_X11_sum 9 [(0, .ref 145)] [] (MM RR S0) (some (.int r.1), MM RR r.2) := by
  intro n
  induction n with
  | zero => intro S0 h; exact mm_no h
  | succ n ih =>
    intro S0 h
    unfold lp_X11_sum_9 at h
    refine mr_aload_n (pc' := 10) dX11_sum_9 rfl rfl ?_
    obtain ⟨q5, g6, h7⟩ := Option.bind_eq_some_iff.mp h
    refine mr_cv (pc' := 13) (a := 145) (d1 := 0) dX11_sum_10 rfl rfl rfl rfl rfl rfl (by decide) rfl (by decide) (ok_X11_see hR  g6) ?_
    show mr X _ _ 13 _ [.int q5.1] (MM RR q5.2) _
    refine mr_bipush (pc' := 15) (v := (43 : Int32)) dX11_sum_13 rfl (by decide) ?_
    by_cases c8 : q5.1 = (43 : Int32)
    · rw [if_pos c8] at h7
      refine mr_icmp_eq_t (t := 27) dX11_sum_15 (by decide) c8 ?_
      refine mr_aload_n (pc' := 28) dX11_sum_27 rfl rfl ?_
      refine mr_getR (pc' := 31) (ci := 11) (j := 0) (b := 146) hR dX11_sum_28 rfl rfl rfl (by decide) (by decide) (by decide) rfl rfl ?_
      refine mr_aload_n (pc' := 32) dX11_sum_31 rfl rfl ?_
      refine mr_getI (pc' := 35) (ci := 11) (j := 13) dX11_sum_32 rfl rfl rfl (by decide) (by decide) rfl ?_
      obtain ⟨a9, g10, h11⟩ := Option.bind_eq_some_iff.mp h7
      refine mr_bald (pc' := 36) dX11_sum_35 rfl (Or.inl rfl) rfl g10 ?_
      refine mr_bipush (pc' := 38) (v := (43 : Int32)) dX11_sum_36 rfl (by decide) ?_
      by_cases c12 : a9 = (43 : Int32)
      · rw [if_pos c12] at h11
        refine mr_icmp_ne_f (t := 45) (pc' := 41) dX11_sum_38 (by decide) rfl (not_not_intro c12) ?_
        refine mr_iconst (pc' := 42) (v := (2 : Int32)) dX11_sum_41 rfl (by decide) ?_
        refine mr_goto (t := 46) dX11_sum_42 (by decide) ?_
        refine mr_istore_n (pc' := 47) (lv' := [(1, .int (2 : Int32)), (0, .ref 145)]) dX11_sum_46 rfl (by decide) rfl ?_
        refine mr_aload_n (pc' := 48) dX11_sum_47 rfl rfl ?_
        refine mr_dup_ref (pc' := 49) dX11_sum_48 rfl ?_
        refine mr_getI (pc' := 52) (ci := 11) (j := 13) dX11_sum_49 rfl rfl rfl (by decide) (by decide) rfl ?_
        refine mr_iconst (pc' := 53) (v := (1 : Int32)) dX11_sum_52 rfl (by decide) ?_
        refine mr_iadd (pc' := 54) dX11_sum_53 rfl ?_
        obtain ⟨S23, g24, h25⟩ := Option.bind_eq_some_iff.mp h11
        refine mr_putI (pc' := 57) (ci := 11) (j := 13) dX11_sum_54 rfl rfl rfl (by decide) (by decide) rfl rfl ?_
        rw [Option.some.inj g24]
        refine mr_aload_n (pc' := 58) dX11_sum_57 rfl rfl ?_
        obtain ⟨q26, g27, h28⟩ := Option.bind_eq_some_iff.mp h25
        refine mr_cv (pc' := 61) (a := 145) (d1 := 4) dX11_sum_58 rfl rfl rfl rfl rfl rfl (by decide) rfl (by decide) (ok_X11_term hR  g27) ?_
        show mr X _ _ 61 _ [.int q26.1] (MM RR q26.2) _
        by_cases c29 : q26.1 = (0 : Int32)
        · rw [if_pos c29] at h28
          refine mr_if_ne_f (t := 66) (pc' := 64) dX11_sum_61 (by decide) rfl (not_not_intro c29) ?_
          refine mr_iconst (pc' := 65) (v := (0 : Int32)) dX11_sum_64 rfl (by decide) ?_
          obtain rfl := Option.some.inj h28
          exact mr_zreturn dX11_sum_65 rfl (by decide)
        · rw [if_neg c29] at h28
          refine mr_if_ne_t (t := 66) dX11_sum_61 (by decide) c29 ?_
          refine mr_aload_n (pc' := 67) dX11_sum_66 rfl rfl ?_
          refine mr_iload_n (pc' := 68) dX11_sum_67 rfl rfl ?_
          refine mr_iconst (pc' := 69) (v := (0 : Int32)) dX11_sum_68 rfl (by decide) ?_
          obtain ⟨q30, g31, h32⟩ := Option.bind_eq_some_iff.mp h28
          refine mr_cv (pc' := 72) (a := 145) (d1 := 0) dX11_sum_69 rfl rfl rfl rfl rfl rfl (by decide) rfl (by decide) (ok_X11_puts hR  g31) ?_
          show mr X _ _ 72 _ [] (MM RR q30) _
          refine mr_goto (t := 9) dX11_sum_72 (by decide) ?_
          exact mr_sub [(0, .ref 145)] ⟨rfl, trivial⟩ rfl (ih _  h32)
      · rw [if_neg c12] at h11
        refine mr_icmp_ne_t (t := 45) dX11_sum_38 (by decide) c12 ?_
        refine mr_iconst (pc' := 46) (v := (3 : Int32)) dX11_sum_45 rfl (by decide) ?_
        refine mr_istore_n (pc' := 47) (lv' := [(1, .int (3 : Int32)), (0, .ref 145)]) dX11_sum_46 rfl (by decide) rfl ?_
        refine mr_aload_n (pc' := 48) dX11_sum_47 rfl rfl ?_
        refine mr_dup_ref (pc' := 49) dX11_sum_48 rfl ?_
        refine mr_getI (pc' := 52) (ci := 11) (j := 13) dX11_sum_49 rfl rfl rfl (by decide) (by decide) rfl ?_
        refine mr_iconst (pc' := 53) (v := (1 : Int32)) dX11_sum_52 rfl (by decide) ?_
        refine mr_iadd (pc' := 54) dX11_sum_53 rfl ?_
        obtain ⟨S13, g14, h15⟩ := Option.bind_eq_some_iff.mp h11
        refine mr_putI (pc' := 57) (ci := 11) (j := 13) dX11_sum_54 rfl rfl rfl (by decide) (by decide) rfl rfl ?_
        rw [Option.some.inj g14]
        refine mr_aload_n (pc' := 58) dX11_sum_57 rfl rfl ?_
        obtain ⟨q16, g17, h18⟩ := Option.bind_eq_some_iff.mp h15
        refine mr_cv (pc' := 61) (a := 145) (d1 := 4) dX11_sum_58 rfl rfl rfl rfl rfl rfl (by decide) rfl (by decide) (ok_X11_term hR  g17) ?_
        show mr X _ _ 61 _ [.int q16.1] (MM RR q16.2) _
        by_cases c19 : q16.1 = (0 : Int32)
        · rw [if_pos c19] at h18
          refine mr_if_ne_f (t := 66) (pc' := 64) dX11_sum_61 (by decide) rfl (not_not_intro c19) ?_
          refine mr_iconst (pc' := 65) (v := (0 : Int32)) dX11_sum_64 rfl (by decide) ?_
          obtain rfl := Option.some.inj h18
          exact mr_zreturn dX11_sum_65 rfl (by decide)
        · rw [if_neg c19] at h18
          refine mr_if_ne_t (t := 66) dX11_sum_61 (by decide) c19 ?_
          refine mr_aload_n (pc' := 67) dX11_sum_66 rfl rfl ?_
          refine mr_iload_n (pc' := 68) dX11_sum_67 rfl rfl ?_
          refine mr_iconst (pc' := 69) (v := (0 : Int32)) dX11_sum_68 rfl (by decide) ?_
          obtain ⟨q20, g21, h22⟩ := Option.bind_eq_some_iff.mp h18
          refine mr_cv (pc' := 72) (a := 145) (d1 := 0) dX11_sum_69 rfl rfl rfl rfl rfl rfl (by decide) rfl (by decide) (ok_X11_puts hR  g21) ?_
          show mr X _ _ 72 _ [] (MM RR q20) _
          refine mr_goto (t := 9) dX11_sum_72 (by decide) ?_
          exact mr_sub [(0, .ref 145)] ⟨rfl, trivial⟩ rfl (ih _  h22)
    · rw [if_neg c8] at h7
      refine mr_icmp_eq_f (t := 27) (pc' := 18) dX11_sum_15 (by decide) rfl c8 ?_
      refine mr_aload_n (pc' := 19) dX11_sum_18 rfl rfl ?_
      obtain ⟨q33, g34, h35⟩ := Option.bind_eq_some_iff.mp h7
      refine mr_cv (pc' := 22) (a := 145) (d1 := 0) dX11_sum_19 rfl rfl rfl rfl rfl rfl (by decide) rfl (by decide) (ok_X11_see hR  g34) ?_
      show mr X _ _ 22 _ [.int q33.1] (MM RR q33.2) _
      refine mr_bipush (pc' := 24) (v := (45 : Int32)) dX11_sum_22 rfl (by decide) ?_
      by_cases c36 : q33.1 = (45 : Int32)
      · rw [if_pos c36] at h35
        refine mr_icmp_ne_f (t := 75) (pc' := 27) dX11_sum_24 (by decide) rfl (not_not_intro c36) ?_
        refine mr_aload_n (pc' := 28) dX11_sum_27 rfl rfl ?_
        refine mr_getR (pc' := 31) (ci := 11) (j := 0) (b := 146) hR dX11_sum_28 rfl rfl rfl (by decide) (by decide) (by decide) rfl rfl ?_
        refine mr_aload_n (pc' := 32) dX11_sum_31 rfl rfl ?_
        refine mr_getI (pc' := 35) (ci := 11) (j := 13) dX11_sum_32 rfl rfl rfl (by decide) (by decide) rfl ?_
        obtain ⟨a37, g38, h39⟩ := Option.bind_eq_some_iff.mp h35
        refine mr_bald (pc' := 36) dX11_sum_35 rfl (Or.inl rfl) rfl g38 ?_
        refine mr_bipush (pc' := 38) (v := (43 : Int32)) dX11_sum_36 rfl (by decide) ?_
        by_cases c40 : a37 = (43 : Int32)
        · rw [if_pos c40] at h39
          refine mr_icmp_ne_f (t := 45) (pc' := 41) dX11_sum_38 (by decide) rfl (not_not_intro c40) ?_
          refine mr_iconst (pc' := 42) (v := (2 : Int32)) dX11_sum_41 rfl (by decide) ?_
          refine mr_goto (t := 46) dX11_sum_42 (by decide) ?_
          refine mr_istore_n (pc' := 47) (lv' := [(1, .int (2 : Int32)), (0, .ref 145)]) dX11_sum_46 rfl (by decide) rfl ?_
          refine mr_aload_n (pc' := 48) dX11_sum_47 rfl rfl ?_
          refine mr_dup_ref (pc' := 49) dX11_sum_48 rfl ?_
          refine mr_getI (pc' := 52) (ci := 11) (j := 13) dX11_sum_49 rfl rfl rfl (by decide) (by decide) rfl ?_
          refine mr_iconst (pc' := 53) (v := (1 : Int32)) dX11_sum_52 rfl (by decide) ?_
          refine mr_iadd (pc' := 54) dX11_sum_53 rfl ?_
          obtain ⟨S51, g52, h53⟩ := Option.bind_eq_some_iff.mp h39
          refine mr_putI (pc' := 57) (ci := 11) (j := 13) dX11_sum_54 rfl rfl rfl (by decide) (by decide) rfl rfl ?_
          rw [Option.some.inj g52]
          refine mr_aload_n (pc' := 58) dX11_sum_57 rfl rfl ?_
          obtain ⟨q54, g55, h56⟩ := Option.bind_eq_some_iff.mp h53
          refine mr_cv (pc' := 61) (a := 145) (d1 := 4) dX11_sum_58 rfl rfl rfl rfl rfl rfl (by decide) rfl (by decide) (ok_X11_term hR  g55) ?_
          show mr X _ _ 61 _ [.int q54.1] (MM RR q54.2) _
          by_cases c57 : q54.1 = (0 : Int32)
          · rw [if_pos c57] at h56
            refine mr_if_ne_f (t := 66) (pc' := 64) dX11_sum_61 (by decide) rfl (not_not_intro c57) ?_
            refine mr_iconst (pc' := 65) (v := (0 : Int32)) dX11_sum_64 rfl (by decide) ?_
            obtain rfl := Option.some.inj h56
            exact mr_zreturn dX11_sum_65 rfl (by decide)
          · rw [if_neg c57] at h56
            refine mr_if_ne_t (t := 66) dX11_sum_61 (by decide) c57 ?_
            refine mr_aload_n (pc' := 67) dX11_sum_66 rfl rfl ?_
            refine mr_iload_n (pc' := 68) dX11_sum_67 rfl rfl ?_
            refine mr_iconst (pc' := 69) (v := (0 : Int32)) dX11_sum_68 rfl (by decide) ?_
            obtain ⟨q58, g59, h60⟩ := Option.bind_eq_some_iff.mp h56
            refine mr_cv (pc' := 72) (a := 145) (d1 := 0) dX11_sum_69 rfl rfl rfl rfl rfl rfl (by decide) rfl (by decide) (ok_X11_puts hR  g59) ?_
            show mr X _ _ 72 _ [] (MM RR q58) _
            refine mr_goto (t := 9) dX11_sum_72 (by decide) ?_
            exact mr_sub [(0, .ref 145)] ⟨rfl, trivial⟩ rfl (ih _  h60)
        · rw [if_neg c40] at h39
          refine mr_icmp_ne_t (t := 45) dX11_sum_38 (by decide) c40 ?_
          refine mr_iconst (pc' := 46) (v := (3 : Int32)) dX11_sum_45 rfl (by decide) ?_
          refine mr_istore_n (pc' := 47) (lv' := [(1, .int (3 : Int32)), (0, .ref 145)]) dX11_sum_46 rfl (by decide) rfl ?_
          refine mr_aload_n (pc' := 48) dX11_sum_47 rfl rfl ?_
          refine mr_dup_ref (pc' := 49) dX11_sum_48 rfl ?_
          refine mr_getI (pc' := 52) (ci := 11) (j := 13) dX11_sum_49 rfl rfl rfl (by decide) (by decide) rfl ?_
          refine mr_iconst (pc' := 53) (v := (1 : Int32)) dX11_sum_52 rfl (by decide) ?_
          refine mr_iadd (pc' := 54) dX11_sum_53 rfl ?_
          obtain ⟨S41, g42, h43⟩ := Option.bind_eq_some_iff.mp h39
          refine mr_putI (pc' := 57) (ci := 11) (j := 13) dX11_sum_54 rfl rfl rfl (by decide) (by decide) rfl rfl ?_
          rw [Option.some.inj g42]
          refine mr_aload_n (pc' := 58) dX11_sum_57 rfl rfl ?_
          obtain ⟨q44, g45, h46⟩ := Option.bind_eq_some_iff.mp h43
          refine mr_cv (pc' := 61) (a := 145) (d1 := 4) dX11_sum_58 rfl rfl rfl rfl rfl rfl (by decide) rfl (by decide) (ok_X11_term hR  g45) ?_
          show mr X _ _ 61 _ [.int q44.1] (MM RR q44.2) _
          by_cases c47 : q44.1 = (0 : Int32)
          · rw [if_pos c47] at h46
            refine mr_if_ne_f (t := 66) (pc' := 64) dX11_sum_61 (by decide) rfl (not_not_intro c47) ?_
            refine mr_iconst (pc' := 65) (v := (0 : Int32)) dX11_sum_64 rfl (by decide) ?_
            obtain rfl := Option.some.inj h46
            exact mr_zreturn dX11_sum_65 rfl (by decide)
          · rw [if_neg c47] at h46
            refine mr_if_ne_t (t := 66) dX11_sum_61 (by decide) c47 ?_
            refine mr_aload_n (pc' := 67) dX11_sum_66 rfl rfl ?_
            refine mr_iload_n (pc' := 68) dX11_sum_67 rfl rfl ?_
            refine mr_iconst (pc' := 69) (v := (0 : Int32)) dX11_sum_68 rfl (by decide) ?_
            obtain ⟨q48, g49, h50⟩ := Option.bind_eq_some_iff.mp h46
            refine mr_cv (pc' := 72) (a := 145) (d1 := 0) dX11_sum_69 rfl rfl rfl rfl rfl rfl (by decide) rfl (by decide) (ok_X11_puts hR  g49) ?_
            show mr X _ _ 72 _ [] (MM RR q48) _
            refine mr_goto (t := 9) dX11_sum_72 (by decide) ?_
            exact mr_sub [(0, .ref 145)] ⟨rfl, trivial⟩ rfl (ih _  h50)
      · rw [if_neg c36] at h35
        refine mr_icmp_ne_t (t := 75) dX11_sum_24 (by decide) c36 ?_
        exact mr_sub [] trivial rfl (hK _  h35)
def f_X11_sum  (S : fS) : Option (Int32 × fS) :=
  (f_X11_term  S).bind fun q1 =>
  if q1.1 = (0 : Int32) then (some ((0 : Int32), q1.2)) else
  (lp_X11_sum_9  (fun S61 => some ((1 : Int32), S61)) FU  q1.2)
set_option maxHeartbeats 4000000 in
set_option maxRecDepth 100000 in
theorem ok_X11_sum {X : mm_C} {RR : Nat → Nat → Option Nat} (hR : RRok RR)   {S : fS} {r : Int32 × fS} (h : f_X11_sum  S = some r) : mr X 5 mY_X11_sum 0 (lv_args 0 [.ref 145]) [] (MM RR S) (some (.int r.1), MM RR r.2) := by
  unfold f_X11_sum at h
  show mr X _ _ 0 [(0, .ref 145)] [] (MM RR S) _
  refine mr_aload_n (pc' := 1) dX11_sum_0 rfl rfl ?_
  obtain ⟨q1, g2, h3⟩ := Option.bind_eq_some_iff.mp h
  refine mr_cv (pc' := 4) (a := 145) (d1 := 4) dX11_sum_1 rfl rfl rfl rfl rfl rfl (by decide) rfl (by decide) (ok_X11_term hR  g2) ?_
  show mr X _ _ 4 _ [.int q1.1] (MM RR q1.2) _
  by_cases c4 : q1.1 = (0 : Int32)
  · rw [if_pos c4] at h3
    refine mr_if_ne_f (t := 9) (pc' := 7) dX11_sum_4 (by decide) rfl (not_not_intro c4) ?_
    refine mr_iconst (pc' := 8) (v := (0 : Int32)) dX11_sum_7 rfl (by decide) ?_
    obtain rfl := Option.some.inj h3
    exact mr_zreturn dX11_sum_8 rfl (by decide)
  · rw [if_neg c4] at h3
    refine mr_if_ne_t (t := 9) dX11_sum_4 (by decide) c4 ?_
    refine mr_sub [(0, .ref 145)] ⟨rfl, trivial⟩ rfl ?_
    refine ok_lp_X11_sum_9 hR  (fun S61 h62 => ?_) FU _  h3
    refine mr_iconst (pc' := 76) (v := (1 : Int32)) dX11_sum_75 rfl (by decide) ?_
    obtain rfl := Option.some.inj h62
    exact mr_zreturn dX11_sum_76 rfl (by decide)
