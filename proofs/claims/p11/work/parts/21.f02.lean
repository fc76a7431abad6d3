def f_X7_takeSign (v1 : Int32) (S : fS) : Option (Int32 × fS) :=
  (f_X7_skipBlanks  S).bind fun q1 =>
  (f_X7_byteAt (q1.1 1 2) q1).bind fun q4 =>
  if q4 = v1 then ((some (pI q1 1 3 (q1.1 1 2))).bind fun S8 =>
  (some (pI S8 1 2 ((S8.1 1 2) + (1 : Int32)))).bind fun S11 =>
  some ((1 : Int32), S11)) else
  (some ((0 : Int32), q1))
set_option maxHeartbeats 4000000 in
set_option maxRecDepth 100000 in
theorem ok_X7_takeSign {X : mm_C} {RR : Nat → Nat → Option Nat} (hR : RRok RR) {v1 : Int32}  {S : fS} {r : Int32 × fS} (h : f_X7_takeSign v1 S = some r) : mr X 1 mY_X7_takeSign 0 (lv_args 0 [.ref 1, .int v1]) [] (MM RR S) (some (.int r.1), MM RR r.2) := by
  unfold f_X7_takeSign at h
  show mr X _ _ 0 [(0, .ref 1), (1, .int v1)] [] (MM RR S) _
  refine mr_aload_n (pc' := 1) dX7_takeSign_0 rfl rfl ?_
  obtain ⟨q1, g2, h3⟩ := Option.bind_eq_some_iff.mp h
  refine mr_cv (pc' := 4) (a := 1) (d1 := 0) dX7_takeSign_1 rfl rfl rfl rfl rfl rfl (by decide) rfl (by decide) (ok_X7_skipBlanks hR  g2) ?_
  show mr X _ _ 4 _ [] (MM RR q1) _
  refine mr_aload_n (pc' := 5) dX7_takeSign_4 rfl rfl ?_
  refine mr_aload_n (pc' := 6) dX7_takeSign_5 rfl rfl ?_
  refine mr_getI (pc' := 9) (ci := 7) (j := 2) dX7_takeSign_6 rfl rfl rfl (by decide) (by decide) rfl ?_
  obtain ⟨q4, g5, h6⟩ := Option.bind_eq_some_iff.mp h3
  refine mr_cv (pc' := 12) (a := 1) (d1 := 0) dX7_takeSign_9 rfl rfl rfl rfl rfl rfl (by decide) rfl (by decide) (ok_X7_byteAt hR  g5) ?_
  show mr X _ _ 12 _ [.int q4] (MM RR q1) _
  refine mr_iload_n (pc' := 13) dX7_takeSign_12 rfl rfl ?_
  by_cases c7 : q4 = v1
  · rw [if_pos c7] at h6
    refine mr_icmp_eq_t (t := 18) dX7_takeSign_13 (by decide) c7 ?_
    refine mr_aload_n (pc' := 19) dX7_takeSign_18 rfl rfl ?_
    refine mr_aload_n (pc' := 20) dX7_takeSign_19 rfl rfl ?_
    refine mr_getI (pc' := 23) (ci := 7) (j := 2) dX7_takeSign_20 rfl rfl rfl (by decide) (by decide) rfl ?_
    obtain ⟨S8, g9, h10⟩ := Option.bind_eq_some_iff.mp h6
    refine mr_putI (pc' := 26) (ci := 7) (j := 3) dX7_takeSign_23 rfl rfl rfl (by decide) (by decide) rfl rfl ?_
    rw [Option.some.inj g9]
    refine mr_aload_n (pc' := 27) dX7_takeSign_26 rfl rfl ?_
    refine mr_dup_ref (pc' := 28) dX7_takeSign_27 rfl ?_
    refine mr_getI (pc' := 31) (ci := 7) (j := 2) dX7_takeSign_28 rfl rfl rfl (by decide) (by decide) rfl ?_
    refine mr_iconst (pc' := 32) (v := (1 : Int32)) dX7_takeSign_31 rfl (by decide) ?_
    refine mr_iadd (pc' := 33) dX7_takeSign_32 rfl ?_
    obtain ⟨S11, g12, h13⟩ := Option.bind_eq_some_iff.mp h10
    refine mr_putI (pc' := 36) (ci := 7) (j := 2) dX7_takeSign_33 rfl rfl rfl (by decide) (by decide) rfl rfl ?_
    rw [Option.some.inj g12]
    refine mr_iconst (pc' := 37) (v := (1 : Int32)) dX7_takeSign_36 rfl (by decide) ?_
    obtain rfl := Option.some.inj h13
    exact mr_zreturn dX7_takeSign_37 rfl (by decide)
  · rw [if_neg c7] at h6
    refine mr_icmp_eq_f (t := 18) (pc' := 16) dX7_takeSign_13 (by decide) rfl c7 ?_
    refine mr_iconst (pc' := 17) (v := (0 : Int32)) dX7_takeSign_16 rfl (by decide) ?_
    obtain rfl := Option.some.inj h6
    exact mr_zreturn dX7_takeSign_17 rfl (by decide)
def lp_X9_read_41  (K : fS → Option (Int32 × fS)) : Nat → Int32 → fS → Option (Int32 × fS)
  | 0, _, _ => none
  | n + 1, p1, S0 =>
    if (24 : Int32) < p1 then (K S0) else
    ((f_X9_readClause p1 S0).bind fun q17 =>
    if q17.1 = (0 : Int32) then (some ((0 : Int32), q17.2)) else
    ((f_X7_isAtEnd  q17.2).bind fun q21 =>
    if q21.1 = (0 : Int32) then ((f_X7_takeSign (59 : Int32) q21.2).bind fun q25 =>
    if q25.1 = (0 : Int32) then ((f_X7_fail (q25.2.1 1 2) (0 : Int32) q25.2).bind fun q29 =>
    (bZ q29.1).bind fun z32 => some (z32, q29.2)) else
    (lp_X9_read_41  K n (p1 + (1 : Int32)) q25.2)) else
    ((f_X8_measureWays 24 q21.2).bind fun q37 =>
    some ((1 : Int32), q37))))
set_option maxHeartbeats 4000000 in
set_option maxRecDepth 100000 in
theorem ok_lp_X9_read_41 {X : mm_C} {RR : Nat → Nat → Option Nat} (hR : RRok RR)   {K : fS → Option (Int32 × fS)} {r : Int32 × fS} (hK : ∀ (Sk : fS), K Sk = some r → mr X 6 mY_X9_read 110 [] [] (MM RR Sk) (some (.int r.1), MM RR r.2)) : ∀ (n : Nat) (p1 : Int32) (S0 : fS), lp_X9_read_41  K n p1 S0 = some r → mr X 6 mY_X9_read 41 [(0, .ref 37), (1, .int p1)] [] (MM RR S0) (some (.int r.1), MM RR r.2) := by
  intro n
  induction n with
  | zero => intro p1 S0 h; exact mm_no h
  | succ n ih =>
    intro p1 S0 h
    unfold lp_X9_read_41 at h
    refine mr_iload_n (pc' := 42) dX9_read_41 rfl rfl ?_
    refine mr_bipush (pc' := 44) (v := (24 : Int32)) dX9_read_42 rfl (by decide) ?_
    by_cases c16 : (24 : Int32) < p1
    · rw [if_pos c16] at h
      refine mr_icmp_gt_t (t := 110) dX9_read_44 (by decide) c16 ?_
      exact mr_sub [] trivial rfl (hK _  h)
    · rw [if_neg c16] at h
      refine mr_icmp_gt_f (t := 110) (pc' := 47) dX9_read_44 (by decide) rfl c16 ?_
      refine mr_aload_n (pc' := 48) dX9_read_47 rfl rfl ?_
      refine mr_iload_n (pc' := 49) dX9_read_48 rfl rfl ?_
      obtain ⟨q17, g18, h19⟩ := Option.bind_eq_some_iff.mp h
      refine mr_cv (pc' := 52) (a := 37) (d1 := 5) dX9_read_49 rfl rfl rfl rfl rfl rfl (by decide) rfl (by decide) (ok_X9_readClause hR  g18) ?_
      show mr X _ _ 52 _ [.int q17.1] (MM RR q17.2) _
      by_cases c20 : q17.1 = (0 : Int32)
      · rw [if_pos c20] at h19
        refine mr_if_ne_f (t := 57) (pc' := 55) dX9_read_52 (by decide) rfl (not_not_intro c20) ?_
        refine mr_iconst (pc' := 56) (v := (0 : Int32)) dX9_read_55 rfl (by decide) ?_
        obtain rfl := Option.some.inj h19
        exact mr_zreturn dX9_read_56 rfl (by decide)
      · rw [if_neg c20] at h19
        refine mr_if_ne_t (t := 57) dX9_read_52 (by decide) c20 ?_
        refine mr_aload_n (pc' := 58) dX9_read_57 rfl rfl ?_
        refine mr_getR (pc' := 61) (ci := 9) (j := 0) (b := 1) hR dX9_read_58 rfl rfl rfl (by decide) (by decide) (by decide) rfl rfl ?_
        obtain ⟨q21, g22, h23⟩ := Option.bind_eq_some_iff.mp h19
        refine mr_cv (pc' := 64) (a := 1) (d1 := 1) dX9_read_61 rfl rfl rfl rfl rfl rfl (by decide) rfl (by decide) (ok_X7_isAtEnd hR  g22) ?_
        show mr X _ _ 64 _ [.int q21.1] (MM RR q21.2) _
        by_cases c24 : q21.1 = (0 : Int32)
        · rw [if_pos c24] at h23
          refine mr_if_eq_t (t := 76) dX9_read_64 (by decide) c24 ?_
          refine mr_aload_n (pc' := 77) dX9_read_76 rfl rfl ?_
          refine mr_getR (pc' := 80) (ci := 9) (j := 0) (b := 1) hR dX9_read_77 rfl rfl rfl (by decide) (by decide) (by decide) rfl rfl ?_
          refine mr_bipush (pc' := 82) (v := (59 : Int32)) dX9_read_80 rfl (by decide) ?_
          obtain ⟨q25, g26, h27⟩ := Option.bind_eq_some_iff.mp h23
          refine mr_cv (pc' := 85) (a := 1) (d1 := 1) dX9_read_82 rfl rfl rfl rfl rfl rfl (by decide) rfl (by decide) (ok_X7_takeSign hR  g26) ?_
          show mr X _ _ 85 _ [.int q25.1] (MM RR q25.2) _
          by_cases c28 : q25.1 = (0 : Int32)
          · rw [if_pos c28] at h27
            refine mr_if_ne_f (t := 104) (pc' := 88) dX9_read_85 (by decide) rfl (not_not_intro c28) ?_
            refine mr_aload_n (pc' := 89) dX9_read_88 rfl rfl ?_
            refine mr_getR (pc' := 92) (ci := 9) (j := 0) (b := 1) hR dX9_read_89 rfl rfl rfl (by decide) (by decide) (by decide) rfl rfl ?_
            refine mr_aload_n (pc' := 93) dX9_read_92 rfl rfl ?_
            refine mr_getR (pc' := 96) (ci := 9) (j := 0) (b := 1) hR dX9_read_93 rfl rfl rfl (by decide) (by decide) (by decide) rfl rfl ?_
            refine mr_getI (pc' := 99) (ci := 7) (j := 2) dX9_read_96 rfl rfl rfl (by decide) (by decide) rfl ?_
            refine mr_iconst (pc' := 100) (v := (0 : Int32)) dX9_read_99 rfl (by decide) ?_
            obtain ⟨q29, g30, h31⟩ := Option.bind_eq_some_iff.mp h27
            refine mr_cv (pc' := 103) (a := 1) (d1 := 0) dX9_read_100 rfl rfl rfl rfl rfl rfl (by decide) rfl (by decide) (ok_X7_fail hR  g30) ?_
            show mr X _ _ 103 _ [.int q29.1] (MM RR q29.2) _
            obtain ⟨z32, g33, h34⟩ := Option.bind_eq_some_iff.mp h31
            obtain ⟨g35, e36⟩ := mm_ifs g33
            cases e36
            cases h34
            exact mr_zreturn dX9_read_103 rfl g35
          · rw [if_neg c28] at h27
            refine mr_if_ne_t (t := 104) dX9_read_85 (by decide) c28 ?_
            refine mr_iinc (pc' := 107) (x' := (p1 + (1 : Int32))) (lv' := [(1, .int (p1 + (1 : Int32))), (0, .ref 37)]) dX9_read_104 rfl (by decide) rfl rfl rfl ?_
            refine mr_goto (t := 41) dX9_read_107 (by decide) ?_
            exact mr_sub [(0, .ref 37), (1, .int (p1 + (1 : Int32)))] ⟨rfl, rfl, trivial⟩ rfl (ih _ _  h27)
        · rw [if_neg c24] at h23
          refine mr_if_eq_f (t := 76) (pc' := 67) dX9_read_64 (by decide) rfl c24 ?_
          refine mr_aload_n (pc' := 68) dX9_read_67 rfl rfl ?_
          refine mr_getR (pc' := 71) (ci := 9) (j := 1) (b := 24) hR dX9_read_68 rfl rfl rfl (by decide) (by decide) (by decide) rfl rfl ?_
          obtain ⟨q37, g38, h39⟩ := Option.bind_eq_some_iff.mp h23
          refine mr_cv (pc' := 74) (a := 24) (d1 := 2) dX9_read_71 rfl rfl rfl rfl rfl rfl (by decide) rfl (by decide) (ok_X8_measureWays hR rfl g38) ?_
          show mr X _ _ 74 _ [] (MM RR q37) _
          refine mr_iconst (pc' := 75) (v := (1 : Int32)) dX9_read_74 rfl (by decide) ?_
          obtain rfl := Option.some.inj h39
          exact mr_zreturn dX9_read_75 rfl (by decide)
def f_X9_read  (S : fS) : Option (Int32 × fS) :=
  (some (pI S 24 6 (0 : Int32))).bind fun S1 =>
  (some (pI S1 24 7 (0 : Int32))).bind fun S4 =>
  (some (pI S4 31 5 (0 : Int32))).bind fun S7 =>
  (some (pI S7 31 6 (0 : Int32))).bind fun S10 =>
  (f_X7_rewind  S10).bind fun q13 =>
  lp_X9_read_41  (fun S40 => some ((0 : Int32), S40)) FU (0 : Int32) q13
set_option maxHeartbeats 4000000 in
set_option maxRecDepth 100000 in
theorem ok_X9_read {X : mm_C} {RR : Nat → Nat → Option Nat} (hR : RRok RR)   {S : fS} {r : Int32 × fS} (h : f_X9_read  S = some r) : mr X 6 mY_X9_read 0 (lv_args 0 [.ref 37]) [] (MM RR S) (some (.int r.1), MM RR r.2) := by
  unfold f_X9_read at h
  show mr X _ _ 0 [(0, .ref 37)] [] (MM RR S) _
  refine mr_aload_n (pc' := 1) dX9_read_0 rfl rfl ?_
  refine mr_getR (pc' := 4) (ci := 9) (j := 1) (b := 24) hR dX9_read_1 rfl rfl rfl (by decide) (by decide) (by decide) rfl rfl ?_
  refine mr_iconst (pc' := 5) (v := (0 : Int32)) dX9_read_4 rfl (by decide) ?_
  obtain ⟨S1, g2, h3⟩ := Option.bind_eq_some_iff.mp h
  refine mr_putI (pc' := 8) (ci := 8) (j := 6) dX9_read_5 rfl rfl rfl (by decide) (by decide) rfl rfl ?_
  rw [Option.some.inj g2]
  refine mr_aload_n (pc' := 9) dX9_read_8 rfl rfl ?_
  refine mr_getR (pc' := 12) (ci := 9) (j := 1) (b := 24) hR dX9_read_9 rfl rfl rfl (by decide) (by decide) (by decide) rfl rfl ?_
  refine mr_iconst (pc' := 13) (v := (0 : Int32)) dX9_read_12 rfl (by decide) ?_
  obtain ⟨S4, g5, h6⟩ := Option.bind_eq_some_iff.mp h3
  refine mr_putI (pc' := 16) (ci := 8) (j := 7) dX9_read_13 rfl rfl rfl (by decide) (by decide) rfl rfl ?_
  rw [Option.some.inj g5]
  refine mr_aload_n (pc' := 17) dX9_read_16 rfl rfl ?_
  refine mr_getR (pc' := 20) (ci := 9) (j := 2) (b := 31) hR dX9_read_17 rfl rfl rfl (by decide) (by decide) (by decide) rfl rfl ?_
  refine mr_iconst (pc' := 21) (v := (0 : Int32)) dX9_read_20 rfl (by decide) ?_
  obtain ⟨S7, g8, h9⟩ := Option.bind_eq_some_iff.mp h6
  refine mr_putI (pc' := 24) (ci := 0) (j := 5) dX9_read_21 rfl rfl rfl (by decide) (by decide) rfl rfl ?_
  rw [Option.some.inj g8]
  refine mr_aload_n (pc' := 25) dX9_read_24 rfl rfl ?_
  refine mr_getR (pc' := 28) (ci := 9) (j := 2) (b := 31) hR dX9_read_25 rfl rfl rfl (by decide) (by decide) (by decide) rfl rfl ?_
  refine mr_iconst (pc' := 29) (v := (0 : Int32)) dX9_read_28 rfl (by decide) ?_
  obtain ⟨S10, g11, h12⟩ := Option.bind_eq_some_iff.mp h9
  refine mr_putI (pc' := 32) (ci := 0) (j := 6) dX9_read_29 rfl rfl rfl (by decide) (by decide) rfl rfl ?_
  rw [Option.some.inj g11]
  refine mr_aload_n (pc' := 33) dX9_read_32 rfl rfl ?_
  refine mr_getR (pc' := 36) (ci := 9) (j := 0) (b := 1) hR dX9_read_33 rfl rfl rfl (by decide) (by decide) (by decide) rfl rfl ?_
  obtain ⟨q13, g14, h15⟩ := Option.bind_eq_some_iff.mp h12
  refine mr_cv (pc' := 39) (a := 1) (d1 := 0) dX9_read_36 rfl rfl rfl rfl rfl rfl (by decide) rfl (by decide) (ok_X7_rewind hR  g14) ?_
  show mr X _ _ 39 _ [] (MM RR q13) _
  refine mr_iconst (pc' := 40) (v := (0 : Int32)) dX9_read_39 rfl (by decide) ?_
  refine mr_istore_n (pc' := 41) (lv' := [(1, .int (0 : Int32)), (0, .ref 37)]) dX9_read_40 rfl (by decide) rfl ?_
  refine mr_sub [(0, .ref 37), (1, .int (0 : Int32))] ⟨rfl, rfl, trivial⟩ rfl ?_
  refine ok_lp_X9_read_41 hR  (fun S40 h41 => ?_) FU _ _  h15
  refine mr_iconst (pc' := 111) (v := (0 : Int32)) dX9_read_110 rfl (by decide) ?_
  obtain rfl := Option.some.inj h41
  exact mr_zreturn dX9_read_111 rfl (by decide)
def f_X8_copyFrom (v0 : Nat) (v1 : Nat) (S : fS) : Option (fS) :=
  (some (cL S (v1 + 1) (v0 + 1) 10)).bind fun S1 =>
  (some (cI S1 (v1 + 2) (v0 + 2) 12)).bind fun S4 =>
  (some (cI S4 (v1 + 3) (v0 + 3) 12)).bind fun S7 =>
  (some (cI S7 (v1 + 4) (v0 + 4) 12)).bind fun S10 =>
  (some (cL S10 (v1 + 5) (v0 + 5) 12)).bind fun S13 =>
  (some (cI S13 (v1 + 6) (v0 + 6) 100)).bind fun S16 =>
  (some (pI S16 v0 6 (S16.1 v1 6))).bind fun S19 =>
  (some (pI S19 v0 7 (S19.1 v1 7))).bind fun S22 =>
  some S22
set_option maxHeartbeats 4000000 in
set_option maxRecDepth 100000 in
theorem ok_X8_copyFrom {X : mm_C} {RR : Nat → Nat → Option Nat} (hR : RRok RR) {v0 : Nat} {v1 : Nat} (t0 : tg v0 = 8) (t1 : tg v1 = 8) {S : fS} {r : fS} (h : f_X8_copyFrom v0 v1 S = some r) : mr X 0 mY_X8_copyFrom 0 (lv_args 0 [.ref v0, .ref v1]) [] (MM RR S) (none, MM RR r) := by
  unfold f_X8_copyFrom at h
  show mr X _ _ 0 [(0, .ref v0), (1, .ref v1)] [] (MM RR S) _
  refine mr_aload_n (pc' := 1) dX8_copyFrom_0 rfl rfl ?_
  refine mr_getR (pc' := 4) (ci := 8) (j := 0) (b := (v1 + 1)) hR dX8_copyFrom_1 rfl rfl t1 (by decide) (by decide) (by decide) rfl (ly8_0 t1).1 ?_
  refine mr_iconst (pc' := 5) (v := (0 : Int32)) dX8_copyFrom_4 rfl (by decide) ?_
  refine mr_aload_n (pc' := 6) dX8_copyFrom_5 rfl rfl ?_
  refine mr_getR (pc' := 9) (ci := 8) (j := 0) (b := (v0 + 1)) hR dX8_copyFrom_6 rfl rfl t0 (by decide) (by decide) (by decide) rfl (ly8_0 t0).1 ?_
  refine mr_iconst (pc' := 10) (v := (0 : Int32)) dX8_copyFrom_9 rfl (by decide) ?_
  refine mr_bipush (pc' := 12) (v := (10 : Int32)) dX8_copyFrom_10 rfl (by decide) ?_
  obtain ⟨S1, g2, h3⟩ := Option.bind_eq_some_iff.mp h
  refine mr_cpyL (pc' := 15) (n := 10) dX8_copyFrom_12 rfl rfl (by decide) ⟨(ly8_0 t1).2.1, Nat.le_of_eq (ly8_0 t1).2.2.symm⟩ ⟨(ly8_0 t0).2.1, Nat.le_of_eq (ly8_0 t0).2.2.symm⟩ (by decide) (by decide) ?_
  rw [Option.some.inj g2]
  refine mr_aload_n (pc' := 16) dX8_copyFrom_15 rfl rfl ?_
  refine mr_getR (pc' := 19) (ci := 8) (j := 1) (b := (v1 + 2)) hR dX8_copyFrom_16 rfl rfl t1 (by decide) (by decide) (by decide) rfl (ly8_1 t1).1 ?_
  refine mr_iconst (pc' := 20) (v := (0 : Int32)) dX8_copyFrom_19 rfl (by decide) ?_
  refine mr_aload_n (pc' := 21) dX8_copyFrom_20 rfl rfl ?_
  refine mr_getR (pc' := 24) (ci := 8) (j := 1) (b := (v0 + 2)) hR dX8_copyFrom_21 rfl rfl t0 (by decide) (by decide) (by decide) rfl (ly8_1 t0).1 ?_
  refine mr_iconst (pc' := 25) (v := (0 : Int32)) dX8_copyFrom_24 rfl (by decide) ?_
  refine mr_bipush (pc' := 27) (v := (12 : Int32)) dX8_copyFrom_25 rfl (by decide) ?_
  obtain ⟨S4, g5, h6⟩ := Option.bind_eq_some_iff.mp h3
  refine mr_cpyI (pc' := 30) (n := 12) dX8_copyFrom_27 rfl rfl (by decide) ⟨(ly8_1 t1).2.1, Nat.le_of_eq (ly8_1 t1).2.2.symm⟩ ⟨(ly8_1 t0).2.1, Nat.le_of_eq (ly8_1 t0).2.2.symm⟩ (by decide) (by decide) ?_
  rw [Option.some.inj g5]
  refine mr_aload_n (pc' := 31) dX8_copyFrom_30 rfl rfl ?_
  refine mr_getR (pc' := 34) (ci := 8) (j := 2) (b := (v1 + 3)) hR dX8_copyFrom_31 rfl rfl t1 (by decide) (by decide) (by decide) rfl (ly8_2 t1).1 ?_
  refine mr_iconst (pc' := 35) (v := (0 : Int32)) dX8_copyFrom_34 rfl (by decide) ?_
  refine mr_aload_n (pc' := 36) dX8_copyFrom_35 rfl rfl ?_
  refine mr_getR (pc' := 39) (ci := 8) (j := 2) (b := (v0 + 3)) hR dX8_copyFrom_36 rfl rfl t0 (by decide) (by decide) (by decide) rfl (ly8_2 t0).1 ?_
  refine mr_iconst (pc' := 40) (v := (0 : Int32)) dX8_copyFrom_39 rfl (by decide) ?_
  refine mr_bipush (pc' := 42) (v := (12 : Int32)) dX8_copyFrom_40 rfl (by decide) ?_
  obtain ⟨S7, g8, h9⟩ := Option.bind_eq_some_iff.mp h6
  refine mr_cpyI (pc' := 45) (n := 12) dX8_copyFrom_42 rfl rfl (by decide) ⟨(ly8_2 t1).2.1, Nat.le_of_eq (ly8_2 t1).2.2.symm⟩ ⟨(ly8_2 t0).2.1, Nat.le_of_eq (ly8_2 t0).2.2.symm⟩ (by decide) (by decide) ?_
  rw [Option.some.inj g8]
  refine mr_aload_n (pc' := 46) dX8_copyFrom_45 rfl rfl ?_
  refine mr_getR (pc' := 49) (ci := 8) (j := 3) (b := (v1 + 4)) hR dX8_copyFrom_46 rfl rfl t1 (by decide) (by decide) (by decide) rfl (ly8_3 t1).1 ?_
  refine mr_iconst (pc' := 50) (v := (0 : Int32)) dX8_copyFrom_49 rfl (by decide) ?_
  refine mr_aload_n (pc' := 51) dX8_copyFrom_50 rfl rfl ?_
  refine mr_getR (pc' := 54) (ci := 8) (j := 3) (b := (v0 + 4)) hR dX8_copyFrom_51 rfl rfl t0 (by decide) (by decide) (by decide) rfl (ly8_3 t0).1 ?_
  refine mr_iconst (pc' := 55) (v := (0 : Int32)) dX8_copyFrom_54 rfl (by decide) ?_
  refine mr_bipush (pc' := 57) (v := (12 : Int32)) dX8_copyFrom_55 rfl (by decide) ?_
  obtain ⟨S10, g11, h12⟩ := Option.bind_eq_some_iff.mp h9
  refine mr_cpyI (pc' := 60) (n := 12) dX8_copyFrom_57 rfl rfl (by decide) ⟨(ly8_3 t1).2.1, Nat.le_of_eq (ly8_3 t1).2.2.symm⟩ ⟨(ly8_3 t0).2.1, Nat.le_of_eq (ly8_3 t0).2.2.symm⟩ (by decide) (by decide) ?_
  rw [Option.some.inj g11]
  refine mr_aload_n (pc' := 61) dX8_copyFrom_60 rfl rfl ?_
  refine mr_getR (pc' := 64) (ci := 8) (j := 4) (b := (v1 + 5)) hR dX8_copyFrom_61 rfl rfl t1 (by decide) (by decide) (by decide) rfl (ly8_4 t1).1 ?_
  refine mr_iconst (pc' := 65) (v := (0 : Int32)) dX8_copyFrom_64 rfl (by decide) ?_
  refine mr_aload_n (pc' := 66) dX8_copyFrom_65 rfl rfl ?_
  refine mr_getR (pc' := 69) (ci := 8) (j := 4) (b := (v0 + 5)) hR dX8_copyFrom_66 rfl rfl t0 (by decide) (by decide) (by decide) rfl (ly8_4 t0).1 ?_
  refine mr_iconst (pc' := 70) (v := (0 : Int32)) dX8_copyFrom_69 rfl (by decide) ?_
  refine mr_bipush (pc' := 72) (v := (12 : Int32)) dX8_copyFrom_70 rfl (by decide) ?_
  obtain ⟨S13, g14, h15⟩ := Option.bind_eq_some_iff.mp h12
  refine mr_cpyL (pc' := 75) (n := 12) dX8_copyFrom_72 rfl rfl (by decide) ⟨(ly8_4 t1).2.1, Nat.le_of_eq (ly8_4 t1).2.2.symm⟩ ⟨(ly8_4 t0).2.1, Nat.le_of_eq (ly8_4 t0).2.2.symm⟩ (by decide) (by decide) ?_
  rw [Option.some.inj g14]
  refine mr_aload_n (pc' := 76) dX8_copyFrom_75 rfl rfl ?_
  refine mr_getR (pc' := 79) (ci := 8) (j := 5) (b := (v1 + 6)) hR dX8_copyFrom_76 rfl rfl t1 (by decide) (by decide) (by decide) rfl (ly8_5 t1).1 ?_
  refine mr_iconst (pc' := 80) (v := (0 : Int32)) dX8_copyFrom_79 rfl (by decide) ?_
  refine mr_aload_n (pc' := 81) dX8_copyFrom_80 rfl rfl ?_
  refine mr_getR (pc' := 84) (ci := 8) (j := 5) (b := (v0 + 6)) hR dX8_copyFrom_81 rfl rfl t0 (by decide) (by decide) (by decide) rfl (ly8_5 t0).1 ?_
  refine mr_iconst (pc' := 85) (v := (0 : Int32)) dX8_copyFrom_84 rfl (by decide) ?_
  refine mr_bipush (pc' := 87) (v := (100 : Int32)) dX8_copyFrom_85 rfl (by decide) ?_
  obtain ⟨S16, g17, h18⟩ := Option.bind_eq_some_iff.mp h15
  refine mr_cpyI (pc' := 90) (n := 100) dX8_copyFrom_87 rfl rfl (by decide) ⟨(ly8_5 t1).2.1, Nat.le_of_eq (ly8_5 t1).2.2.symm⟩ ⟨(ly8_5 t0).2.1, Nat.le_of_eq (ly8_5 t0).2.2.symm⟩ (by decide) (by decide) ?_
  rw [Option.some.inj g17]
  refine mr_aload_n (pc' := 91) dX8_copyFrom_90 rfl rfl ?_
  refine mr_aload_n (pc' := 92) dX8_copyFrom_91 rfl rfl ?_
  refine mr_getI (pc' := 95) (ci := 8) (j := 6) dX8_copyFrom_92 rfl rfl t1 (by decide) (by decide) rfl ?_
  obtain ⟨S19, g20, h21⟩ := Option.bind_eq_some_iff.mp h18
  refine mr_putI (pc' := 98) (ci := 8) (j := 6) dX8_copyFrom_95 rfl rfl t0 (by decide) (by decide) rfl rfl ?_
  rw [Option.some.inj g20]
  refine mr_aload_n (pc' := 99) dX8_copyFrom_98 rfl rfl ?_
  refine mr_aload_n (pc' := 100) dX8_copyFrom_99 rfl rfl ?_
  refine mr_getI (pc' := 103) (ci := 8) (j := 7) dX8_copyFrom_100 rfl rfl t1 (by decide) (by decide) rfl ?_
  obtain ⟨S22, g23, h24⟩ := Option.bind_eq_some_iff.mp h21
  refine mr_putI (pc' := 106) (ci := 8) (j := 7) dX8_copyFrom_103 rfl rfl t0 (by decide) (by decide) rfl rfl ?_
  rw [Option.some.inj g23]
  obtain rfl := Option.some.inj h24
  exact mr_return dX8_copyFrom_106 rfl
def f_X0_copyFrom (v0 : Nat) (v1 : Nat) (S : fS) : Option (fS) :=
  (some (cI S (v1 + 1) (v0 + 1) 8)).bind fun S1 =>
  (some (cI S1 (v1 + 2) (v0 + 2) 8)).bind fun S4 =>
  (some (cI S4 (v1 + 3) (v0 + 3) 8)).bind fun S7 =>
  (some (cI S7 (v1 + 4) (v0 + 4) 8)).bind fun S10 =>
  (some (cL S10 (v1 + 5) (v0 + 5) 8)).bind fun S13 =>
  (some (pI S13 v0 5 (S13.1 v1 5))).bind fun S16 =>
  (some (pI S16 v0 6 (S16.1 v1 6))).bind fun S19 =>
  some S19
set_option maxHeartbeats 4000000 in
set_option maxRecDepth 100000 in
theorem ok_X0_copyFrom {X : mm_C} {RR : Nat → Nat → Option Nat} (hR : RRok RR) {v0 : Nat} {v1 : Nat} (t0 : tg v0 = 0) (t1 : tg v1 = 0) {S : fS} {r : fS} (h : f_X0_copyFrom v0 v1 S = some r) : mr X 0 mY_X0_copyFrom 0 (lv_args 0 [.ref v0, .ref v1]) [] (MM RR S) (none, MM RR r) := by
  unfold f_X0_copyFrom at h
  show mr X _ _ 0 [(0, .ref v0), (1, .ref v1)] [] (MM RR S) _
  refine mr_aload_n (pc' := 1) dX0_copyFrom_0 rfl rfl ?_
  refine mr_getR (pc' := 4) (ci := 0) (j := 0) (b := (v1 + 1)) hR dX0_copyFrom_1 rfl rfl t1 (by decide) (by decide) (by decide) rfl (ly0_0 t1).1 ?_
  refine mr_iconst (pc' := 5) (v := (0 : Int32)) dX0_copyFrom_4 rfl (by decide) ?_
  refine mr_aload_n (pc' := 6) dX0_copyFrom_5 rfl rfl ?_
  refine mr_getR (pc' := 9) (ci := 0) (j := 0) (b := (v0 + 1)) hR dX0_copyFrom_6 rfl rfl t0 (by decide) (by decide) (by decide) rfl (ly0_0 t0).1 ?_
  refine mr_iconst (pc' := 10) (v := (0 : Int32)) dX0_copyFrom_9 rfl (by decide) ?_
  refine mr_bipush (pc' := 12) (v := (8 : Int32)) dX0_copyFrom_10 rfl (by decide) ?_
  obtain ⟨S1, g2, h3⟩ := Option.bind_eq_some_iff.mp h
  refine mr_cpyI (pc' := 15) (n := 8) dX0_copyFrom_12 rfl rfl (by decide) ⟨(ly0_0 t1).2.1, Nat.le_of_eq (ly0_0 t1).2.2.symm⟩ ⟨(ly0_0 t0).2.1, Nat.le_of_eq (ly0_0 t0).2.2.symm⟩ (by decide) (by decide) ?_
  rw [Option.some.inj g2]
  refine mr_aload_n (pc' := 16) dX0_copyFrom_15 rfl rfl ?_
  refine mr_getR (pc' := 19) (ci := 0) (j := 1) (b := (v1 + 2)) hR dX0_copyFrom_16 rfl rfl t1 (by decide) (by decide) (by decide) rfl (ly0_1 t1).1 ?_
  refine mr_iconst (pc' := 20) (v := (0 : Int32)) dX0_copyFrom_19 rfl (by decide) ?_
  refine mr_aload_n (pc' := 21) dX0_copyFrom_20 rfl rfl ?_
  refine mr_getR (pc' := 24) (ci := 0) (j := 1) (b := (v0 + 2)) hR dX0_copyFrom_21 rfl rfl t0 (by decide) (by decide) (by decide) rfl (ly0_1 t0).1 ?_
  refine mr_iconst (pc' := 25) (v := (0 : Int32)) dX0_copyFrom_24 rfl (by decide) ?_
  refine mr_bipush (pc' := 27) (v := (8 : Int32)) dX0_copyFrom_25 rfl (by decide) ?_
  obtain ⟨S4, g5, h6⟩ := Option.bind_eq_some_iff.mp h3
  refine mr_cpyI (pc' := 30) (n := 8) dX0_copyFrom_27 rfl rfl (by decide) ⟨(ly0_1 t1).2.1, Nat.le_of_eq (ly0_1 t1).2.2.symm⟩ ⟨(ly0_1 t0).2.1, Nat.le_of_eq (ly0_1 t0).2.2.symm⟩ (by decide) (by decide) ?_
  rw [Option.some.inj g5]
  refine mr_aload_n (pc' := 31) dX0_copyFrom_30 rfl rfl ?_
  refine mr_getR (pc' := 34) (ci := 0) (j := 2) (b := (v1 + 3)) hR dX0_copyFrom_31 rfl rfl t1 (by decide) (by decide) (by decide) rfl (ly0_2 t1).1 ?_
  refine mr_iconst (pc' := 35) (v := (0 : Int32)) dX0_copyFrom_34 rfl (by decide) ?_
  refine mr_aload_n (pc' := 36) dX0_copyFrom_35 rfl rfl ?_
  refine mr_getR (pc' := 39) (ci := 0) (j := 2) (b := (v0 + 3)) hR dX0_copyFrom_36 rfl rfl t0 (by decide) (by decide) (by decide) rfl (ly0_2 t0).1 ?_
  refine mr_iconst (pc' := 40) (v := (0 : Int32)) dX0_copyFrom_39 rfl (by decide) ?_
  refine mr_bipush (pc' := 42) (v := (8 : Int32)) dX0_copyFrom_40 rfl (by decide) ?_
  obtain ⟨S7, g8, h9⟩ := Option.bind_eq_some_iff.mp h6
  refine mr_cpyI (pc' := 45) (n := 8) dX0_copyFrom_42 rfl rfl (by decide) ⟨(ly0_2 t1).2.1, Nat.le_of_eq (ly0_2 t1).2.2.symm⟩ ⟨(ly0_2 t0).2.1, Nat.le_of_eq (ly0_2 t0).2.2.symm⟩ (by decide) (by decide) ?_
  rw [Option.some.inj g8]
  refine mr_aload_n (pc' := 46) dX0_copyFrom_45 rfl rfl ?_
  refine mr_getR (pc' := 49) (ci := 0) (j := 3) (b := (v1 + 4)) hR dX0_copyFrom_46 rfl rfl t1 (by decide) (by decide) (by decide) rfl (ly0_3 t1).1 ?_
  refine mr_iconst (pc' := 50) (v := (0 : Int32)) dX0_copyFrom_49 rfl (by decide) ?_
  refine mr_aload_n (pc' := 51) dX0_copyFrom_50 rfl rfl ?_
  refine mr_getR (pc' := 54) (ci := 0) (j := 3) (b := (v0 + 4)) hR dX0_copyFrom_51 rfl rfl t0 (by decide) (by decide) (by decide) rfl (ly0_3 t0).1 ?_
  refine mr_iconst (pc' := 55) (v := (0 : Int32)) dX0_copyFrom_54 rfl (by decide) ?_
  refine mr_bipush (pc' := 57) (v := (8 : Int32)) dX0_copyFrom_55 rfl (by decide) ?_
  obtain ⟨S10, g11, h12⟩ := Option.bind_eq_some_iff.mp h9
  refine mr_cpyI (pc' := 60) (n := 8) dX0_copyFrom_57 rfl rfl (by decide) ⟨(ly0_3 t1).2.1, Nat.le_of_eq (ly0_3 t1).2.2.symm⟩ ⟨(ly0_3 t0).2.1, Nat.le_of_eq (ly0_3 t0).2.2.symm⟩ (by decide) (by decide) ?_
  rw [Option.some.inj g11]
  refine mr_aload_n (pc' := 61) dX0_copyFrom_60 rfl rfl ?_
  refine mr_getR (pc' := 64) (ci := 0) (j := 4) (b := (v1 + 5)) hR dX0_copyFrom_61 rfl rfl t1 (by decide) (by decide) (by decide) rfl (ly0_4 t1).1 ?_
  refine mr_iconst (pc' := 65) (v := (0 : Int32)) dX0_copyFrom_64 rfl (by decide) ?_
  refine mr_aload_n (pc' := 66) dX0_copyFrom_65 rfl rfl ?_
  refine mr_getR (pc' := 69) (ci := 0) (j := 4) (b := (v0 + 5)) hR dX0_copyFrom_66 rfl rfl t0 (by decide) (by decide) (by decide) rfl (ly0_4 t0).1 ?_
  refine mr_iconst (pc' := 70) (v := (0 : Int32)) dX0_copyFrom_69 rfl (by decide) ?_
  refine mr_bipush (pc' := 72) (v := (8 : Int32)) dX0_copyFrom_70 rfl (by decide) ?_
  obtain ⟨S13, g14, h15⟩ := Option.bind_eq_some_iff.mp h12
  refine mr_cpyL (pc' := 75) (n := 8) dX0_copyFrom_72 rfl rfl (by decide) ⟨(ly0_4 t1).2.1, Nat.le_of_eq (ly0_4 t1).2.2.symm⟩ ⟨(ly0_4 t0).2.1, Nat.le_of_eq (ly0_4 t0).2.2.symm⟩ (by decide) (by decide) ?_
  rw [Option.some.inj g14]
  refine mr_aload_n (pc' := 76) dX0_copyFrom_75 rfl rfl ?_
  refine mr_aload_n (pc' := 77) dX0_copyFrom_76 rfl rfl ?_
  refine mr_getI (pc' := 80) (ci := 0) (j := 5) dX0_copyFrom_77 rfl rfl t1 (by decide) (by decide) rfl ?_
  obtain ⟨S16, g17, h18⟩ := Option.bind_eq_some_iff.mp h15
  refine mr_putI (pc' := 83) (ci := 0) (j := 5) dX0_copyFrom_80 rfl rfl t0 (by decide) (by decide) rfl rfl ?_
  rw [Option.some.inj g17]
  refine mr_aload_n (pc' := 84) dX0_copyFrom_83 rfl rfl ?_
  refine mr_aload_n (pc' := 85) dX0_copyFrom_84 rfl rfl ?_
  refine mr_getI (pc' := 88) (ci := 0) (j := 6) dX0_copyFrom_85 rfl rfl t1 (by decide) (by decide) rfl ?_
  obtain ⟨S19, g20, h21⟩ := Option.bind_eq_some_iff.mp h18
  refine mr_putI (pc' := 91) (ci := 0) (j := 6) dX0_copyFrom_88 rfl rfl t0 (by decide) (by decide) rfl rfl ?_
  rw [Option.some.inj g20]
  obtain rfl := Option.some.inj h21
  exact mr_return dX0_copyFrom_91 rfl
def f_X10_tower  (S : fS) : Option (Int32 × fS) :=
  (f_X9_read  S).bind fun q1 =>
  (some (pI q1.2 1 1 (0 : Int32))).bind fun S4 =>
  if q1.1 = (0 : Int32) then (some (((-2 : Int32) - (S4.1 1 4)), S4)) else
  ((f_X8_copyFrom 4 24 S4).bind fun q8 =>
  (f_X0_copyFrom 11 31 q8).bind fun q11 =>
  (some (pI q11 17 4 (0 : Int32))).bind fun S14 =>
  some ((S14.1 4 6), S14))
set_option maxHeartbeats 4000000 in
set_option maxRecDepth 100000 in
theorem ok_X10_tower {X : mm_C} {RR : Nat → Nat → Option Nat} (hR : RRok RR)   {S : fS} {r : Int32 × fS} (h : f_X10_tower  S = some r) : mr X 7 mY_X10_tower 0 (lv_args 0 [.ref 0]) [] (MM RR S) (some (.int r.1), MM RR r.2) := by
  unfold f_X10_tower at h
  show mr X _ _ 0 [(0, .ref 0)] [] (MM RR S) _
  refine mr_aload_n (pc' := 1) dX10_tower_0 rfl rfl ?_
  refine mr_getR (pc' := 4) (ci := 10) (j := 6) (b := 37) hR dX10_tower_1 rfl rfl rfl (by decide) (by decide) (by decide) rfl rfl ?_
  obtain ⟨q1, g2, h3⟩ := Option.bind_eq_some_iff.mp h
  refine mr_cv (pc' := 7) (a := 37) (d1 := 6) dX10_tower_4 rfl rfl rfl rfl rfl rfl (by decide) rfl (by decide) (ok_X9_read hR  g2) ?_
  show mr X _ _ 7 _ [.int q1.1] (MM RR q1.2) _
  refine mr_istore_n (pc' := 8) (lv' := [(1, .int q1.1), (0, .ref 0)]) dX10_tower_7 rfl (by decide) rfl ?_
  refine mr_aload_n (pc' := 9) dX10_tower_8 rfl rfl ?_
  refine mr_getR (pc' := 12) (ci := 10) (j := 0) (b := 1) hR dX10_tower_9 rfl rfl rfl (by decide) (by decide) (by decide) rfl rfl ?_
  refine mr_iconst (pc' := 13) (v := (0 : Int32)) dX10_tower_12 rfl (by decide) ?_
  obtain ⟨S4, g5, h6⟩ := Option.bind_eq_some_iff.mp h3
  refine mr_putI (pc' := 16) (ci := 7) (j := 1) dX10_tower_13 rfl rfl rfl (by decide) (by decide) rfl rfl ?_
  rw [Option.some.inj g5]
  refine mr_iload_n (pc' := 17) dX10_tower_16 rfl rfl ?_
  by_cases c7 : q1.1 = (0 : Int32)
  · rw [if_pos c7] at h6
    refine mr_if_ne_f (t := 31) (pc' := 20) dX10_tower_17 (by decide) rfl (not_not_intro c7) ?_
    refine mr_bipush (pc' := 22) (v := (-2 : Int32)) dX10_tower_20 rfl (by decide) ?_
    refine mr_aload_n (pc' := 23) dX10_tower_22 rfl rfl ?_
    refine mr_getR (pc' := 26) (ci := 10) (j := 0) (b := 1) hR dX10_tower_23 rfl rfl rfl (by decide) (by decide) (by decide) rfl rfl ?_
    refine mr_getI (pc' := 29) (ci := 7) (j := 4) dX10_tower_26 rfl rfl rfl (by decide) (by decide) rfl ?_
    refine mr_isub (pc' := 30) dX10_tower_29 rfl ?_
    obtain rfl := Option.some.inj h6
    exact mr_ireturn dX10_tower_30 rfl
  · rw [if_neg c7] at h6
    refine mr_if_ne_t (t := 31) dX10_tower_17 (by decide) c7 ?_
    refine mr_aload_n (pc' := 32) dX10_tower_31 rfl rfl ?_
    refine mr_getR (pc' := 35) (ci := 10) (j := 1) (b := 3) hR dX10_tower_32 rfl rfl rfl (by decide) (by decide) (by decide) rfl rfl ?_
    refine mr_getR (pc' := 38) (ci := 6) (j := 0) (b := 4) hR dX10_tower_35 rfl rfl rfl (by decide) (by decide) (by decide) rfl rfl ?_
    refine mr_aload_n (pc' := 39) dX10_tower_38 rfl rfl ?_
    refine mr_getR (pc' := 42) (ci := 10) (j := 4) (b := 24) hR dX10_tower_39 rfl rfl rfl (by decide) (by decide) (by decide) rfl rfl ?_
    obtain ⟨q8, g9, h10⟩ := Option.bind_eq_some_iff.mp h6
    refine mr_cv (pc' := 45) (a := 4) (d1 := 0) dX10_tower_42 rfl rfl rfl rfl rfl rfl (by decide) rfl (by decide) (ok_X8_copyFrom hR rfl rfl g9) ?_
    show mr X _ _ 45 _ [] (MM RR q8) _
    refine mr_aload_n (pc' := 46) dX10_tower_45 rfl rfl ?_
    refine mr_getR (pc' := 49) (ci := 10) (j := 1) (b := 3) hR dX10_tower_46 rfl rfl rfl (by decide) (by decide) (by decide) rfl rfl ?_
    refine mr_getR (pc' := 52) (ci := 6) (j := 1) (b := 11) hR dX10_tower_49 rfl rfl rfl (by decide) (by decide) (by decide) rfl rfl ?_
    refine mr_aload_n (pc' := 53) dX10_tower_52 rfl rfl ?_
    refine mr_getR (pc' := 56) (ci := 10) (j := 5) (b := 31) hR dX10_tower_53 rfl rfl rfl (by decide) (by decide) (by decide) rfl rfl ?_
    obtain ⟨q11, g12, h13⟩ := Option.bind_eq_some_iff.mp h10
    refine mr_cv (pc' := 59) (a := 11) (d1 := 0) dX10_tower_56 rfl rfl rfl rfl rfl rfl (by decide) rfl (by decide) (ok_X0_copyFrom hR rfl rfl g12) ?_
    show mr X _ _ 59 _ [] (MM RR q11) _
    refine mr_aload_n (pc' := 60) dX10_tower_59 rfl rfl ?_
    refine mr_getR (pc' := 63) (ci := 10) (j := 1) (b := 3) hR dX10_tower_60 rfl rfl rfl (by decide) (by decide) (by decide) rfl rfl ?_
    refine mr_getR (pc' := 66) (ci := 6) (j := 2) (b := 17) hR dX10_tower_63 rfl rfl rfl (by decide) (by decide) (by decide) rfl rfl ?_
    refine mr_iconst (pc' := 67) (v := (0 : Int32)) dX10_tower_66 rfl (by decide) ?_
    obtain ⟨S14, g15, h16⟩ := Option.bind_eq_some_iff.mp h13
    refine mr_putI (pc' := 70) (ci := 2) (j := 4) dX10_tower_67 rfl rfl rfl (by decide) (by decide) rfl rfl ?_
    rw [Option.some.inj g15]
    refine mr_aload_n (pc' := 71) dX10_tower_70 rfl rfl ?_
    refine mr_getR (pc' := 74) (ci := 10) (j := 1) (b := 3) hR dX10_tower_71 rfl rfl rfl (by decide) (by decide) (by decide) rfl rfl ?_
    refine mr_getR (pc' := 77) (ci := 6) (j := 0) (b := 4) hR dX10_tower_74 rfl rfl rfl (by decide) (by decide) (by decide) rfl rfl ?_
    refine mr_getI (pc' := 80) (ci := 8) (j := 6) dX10_tower_77 rfl rfl rfl (by decide) (by decide) rfl ?_
    obtain rfl := Option.some.inj h16
    exact mr_ireturn dX10_tower_80 rfl
def f_X5_hold (v1 : Int32) (S : fS) : Option (fS) :=
  if (S.1 38 4) < (0 : Int32) then (some S) else
  (if (64 : Int32) ≤ (S.1 38 4) then (some S) else
  ((sI S 39 64 (S.1 38 4) v1).bind fun S3 =>
  (some (pI S3 38 4 ((S3.1 38 4) + (1 : Int32)))).bind fun S6 =>
  some S6))
set_option maxHeartbeats 4000000 in
set_option maxRecDepth 100000 in
theorem ok_X5_hold {X : mm_C} {RR : Nat → Nat → Option Nat} (hR : RRok RR) {v1 : Int32}  {S : fS} {r : fS} (h : f_X5_hold v1 S = some r) : mr X 0 mY_X5_hold 0 (lv_args 0 [.ref 38, .int v1]) [] (MM RR S) (none, MM RR r) := by
  unfold f_X5_hold at h
  show mr X _ _ 0 [(0, .ref 38), (1, .int v1)] [] (MM RR S) _
  refine mr_aload_n (pc' := 1) dX5_hold_0 rfl rfl ?_
  refine mr_getI (pc' := 4) (ci := 5) (j := 4) dX5_hold_1 rfl rfl rfl (by decide) (by decide) rfl ?_
  by_cases c1 : (S.1 38 4) < (0 : Int32)
  · rw [if_pos c1] at h
    refine mr_if_lt_t (t := 36) dX5_hold_4 (by decide) c1 ?_
    obtain rfl := Option.some.inj h
    exact mr_return dX5_hold_36 rfl
  · rw [if_neg c1] at h
    refine mr_if_lt_f (t := 36) (pc' := 7) dX5_hold_4 (by decide) rfl c1 ?_
    refine mr_aload_n (pc' := 8) dX5_hold_7 rfl rfl ?_
    refine mr_getI (pc' := 11) (ci := 5) (j := 4) dX5_hold_8 rfl rfl rfl (by decide) (by decide) rfl ?_
    refine mr_bipush (pc' := 13) (v := (64 : Int32)) dX5_hold_11 rfl (by decide) ?_
    by_cases c2 : (64 : Int32) ≤ (S.1 38 4)
    · rw [if_pos c2] at h
      refine mr_icmp_ge_t (t := 36) dX5_hold_13 (by decide) c2 ?_
      obtain rfl := Option.some.inj h
      exact mr_return dX5_hold_36 rfl
    · rw [if_neg c2] at h
      refine mr_icmp_ge_f (t := 36) (pc' := 16) dX5_hold_13 (by decide) rfl c2 ?_
      refine mr_aload_n (pc' := 17) dX5_hold_16 rfl rfl ?_
      refine mr_getR (pc' := 20) (ci := 5) (j := 1) (b := 39) hR dX5_hold_17 rfl rfl rfl (by decide) (by decide) (by decide) rfl rfl ?_
      refine mr_aload_n (pc' := 21) dX5_hold_20 rfl rfl ?_
      refine mr_getI (pc' := 24) (ci := 5) (j := 4) dX5_hold_21 rfl rfl rfl (by decide) (by decide) rfl ?_
      refine mr_iload_n (pc' := 25) dX5_hold_24 rfl rfl ?_
      obtain ⟨S3, g4, h5⟩ := Option.bind_eq_some_iff.mp h
      refine mr_iast (pc' := 26) dX5_hold_25 rfl rfl rfl g4 ?_
      refine mr_aload_n (pc' := 27) dX5_hold_26 rfl rfl ?_
      refine mr_dup_ref (pc' := 28) dX5_hold_27 rfl ?_
      refine mr_getI (pc' := 31) (ci := 5) (j := 4) dX5_hold_28 rfl rfl rfl (by decide) (by decide) rfl ?_
      refine mr_iconst (pc' := 32) (v := (1 : Int32)) dX5_hold_31 rfl (by decide) ?_
      refine mr_iadd (pc' := 33) dX5_hold_32 rfl ?_
      obtain ⟨S6, g7, h8⟩ := Option.bind_eq_some_iff.mp h5
      refine mr_putI (pc' := 36) (ci := 5) (j := 4) dX5_hold_33 rfl rfl rfl (by decide) (by decide) rfl rfl ?_
      rw [Option.some.inj g7]
      obtain rfl := Option.some.inj h8
      exact mr_return dX5_hold_36 rfl
def lp_X5_readOpenings_2  (K : fS → Option (Int32 × fS)) : Nat → Int32 → fS → Option (Int32 × fS)
  | 0, _, _ => none
  | n + 1, p1, S0 =>
    if (10 : Int32) < p1 then (K S0) else
    ((f_X7_takeWord 5 S0).bind fun q2 =>
    if q2.1 = (0 : Int32) then ((f_X7_takeSign (91 : Int32) q2.2).bind fun q39 =>
    if q39.1 = (0 : Int32) then (some ((1 : Int32), q39.2)) else
    (if (q39.2.1 38 6) < (10 : Int32) then ((some (pI q39.2 38 6 ((q39.2.1 38 6) + (1 : Int32)))).bind fun S44 =>
    if q2.1 = (0 : Int32) then ((some (pI S44 38 5 ((S44.1 38 5) + (1 : Int32)))).bind fun S48 =>
    if q2.1 = (0 : Int32) then ((f_X5_hold (16 : Int32) S48).bind fun q52 =>
    lp_X5_readOpenings_2  K n (p1 + (1 : Int32)) q52) else
    ((f_X5_hold (4 : Int32) S48).bind fun q55 =>
    lp_X5_readOpenings_2  K n (p1 + (1 : Int32)) q55)) else
    ((some (pI S44 38 5 ((S44.1 38 5) + (0 : Int32)))).bind fun S58 =>
    if q2.1 = (0 : Int32) then ((f_X5_hold (16 : Int32) S58).bind fun q62 =>
    lp_X5_readOpenings_2  K n (p1 + (1 : Int32)) q62) else
    ((f_X5_hold (4 : Int32) S58).bind fun q65 =>
    lp_X5_readOpenings_2  K n (p1 + (1 : Int32)) q65))) else
    ((f_X7_fail (q39.2.1 1 3) (2 : Int32) q39.2).bind fun q68 =>
    (bZ q68.1).bind fun z71 => some (z71, q68.2)))) else
    (if (q2.2.1 38 6) < (10 : Int32) then ((some (pI q2.2 38 6 ((q2.2.1 38 6) + (1 : Int32)))).bind fun S7 =>
    if q2.1 = (0 : Int32) then ((some (pI S7 38 5 ((S7.1 38 5) + (1 : Int32)))).bind fun S11 =>
    if q2.1 = (0 : Int32) then ((f_X5_hold (16 : Int32) S11).bind fun q15 =>
    lp_X5_readOpenings_2  K n (p1 + (1 : Int32)) q15) else
    ((f_X5_hold (4 : Int32) S11).bind fun q18 =>
    lp_X5_readOpenings_2  K n (p1 + (1 : Int32)) q18)) else
    ((some (pI S7 38 5 ((S7.1 38 5) + (0 : Int32)))).bind fun S21 =>
    if q2.1 = (0 : Int32) then ((f_X5_hold (16 : Int32) S21).bind fun q25 =>
    lp_X5_readOpenings_2  K n (p1 + (1 : Int32)) q25) else
    ((f_X5_hold (4 : Int32) S21).bind fun q28 =>
    lp_X5_readOpenings_2  K n (p1 + (1 : Int32)) q28))) else
    ((f_X7_fail (q2.2.1 1 3) (2 : Int32) q2.2).bind fun q31 =>
    (bZ q31.1).bind fun z34 => some (z34, q31.2))))
set_option maxHeartbeats 4000000 in
set_option maxRecDepth 100000 in
theorem ok_lp_X5_readOpenings_2 {X : mm_C} {RR : Nat → Nat → Option Nat} (hR : RRok RR)   {K : fS → Option (Int32 × fS)} {r : Int32 × fS} (hK : ∀ (Sk : fS), K Sk = some r → mr X 5 mY_X5_readOpenings 109 [] [] (MM RR Sk) (some (.int r.1), MM RR r.2)) : ∀ (n : Nat) (p1 : Int32) (S0 : fS), lp_X5_readOpenings_2  K n p1 S0 = some r → mr X 5 mY_X5_readOpenings 2 [(0, .ref 38), (1, .int p1)] [] (MM RR S0) (some (.int r.1), MM RR r.2) := by
  intro n
  induction n with
  | zero => intro p1 S0 h; exact mm_no h
  | succ n ih =>
    intro p1 S0 h
    unfold lp_X5_readOpenings_2 at h
    refine mr_iload_n (pc' := 3) dX5_readOpenings_2 rfl rfl ?_
    refine mr_bipush (pc' := 5) (v := (10 : Int32)) dX5_readOpenings_3 rfl (by decide) ?_
    by_cases c1 : (10 : Int32) < p1
    · rw [if_pos c1] at h
      refine mr_icmp_gt_t (t := 109) dX5_readOpenings_5 (by decide) c1 ?_
      exact mr_sub [] trivial rfl (hK _  h)
    · rw [if_neg c1] at h
      refine mr_icmp_gt_f (t := 109) (pc' := 8) dX5_readOpenings_5 (by decide) rfl c1 ?_
      refine mr_aload_n (pc' := 9) dX5_readOpenings_8 rfl rfl ?_
      refine mr_getR (pc' := 12) (ci := 5) (j := 0) (b := 1) hR dX5_readOpenings_9 rfl rfl rfl (by decide) (by decide) (by decide) rfl rfl ?_
      refine mr_ldcS (pc' := 14) (i := 5) dX5_readOpenings_12 rfl rfl rfl ?_
      obtain ⟨q2, g3, h4⟩ := Option.bind_eq_some_iff.mp h
      refine mr_cv (pc' := 17) (a := 1) (d1 := 4) dX5_readOpenings_14 rfl rfl rfl rfl rfl rfl (by decide) rfl (by decide) (ok_X7_takeWord hR (by decide) g3) ?_
      show mr X _ _ 17 _ [.int q2.1] (MM RR q2.2) _
      refine mr_istore_n (pc' := 18) (lv' := [(2, .int q2.1), (0, .ref 38), (1, .int p1)]) dX5_readOpenings_17 rfl (by decide) rfl ?_
      refine mr_iload_n (pc' := 19) dX5_readOpenings_18 rfl rfl ?_
      by_cases c5 : q2.1 = (0 : Int32)
      · rw [if_pos c5] at h4
        refine mr_if_ne_f (t := 36) (pc' := 22) dX5_readOpenings_19 (by decide) rfl (not_not_intro c5) ?_
        refine mr_aload_n (pc' := 23) dX5_readOpenings_22 rfl rfl ?_
        refine mr_getR (pc' := 26) (ci := 5) (j := 0) (b := 1) hR dX5_readOpenings_23 rfl rfl rfl (by decide) (by decide) (by decide) rfl rfl ?_
        refine mr_bipush (pc' := 28) (v := (91 : Int32)) dX5_readOpenings_26 rfl (by decide) ?_
        obtain ⟨q39, g40, h41⟩ := Option.bind_eq_some_iff.mp h4
        refine mr_cv (pc' := 31) (a := 1) (d1 := 1) dX5_readOpenings_28 rfl rfl rfl rfl rfl rfl (by decide) rfl (by decide) (ok_X7_takeSign hR  g40) ?_
        show mr X _ _ 31 _ [.int q39.1] (MM RR q39.2) _
        by_cases c42 : q39.1 = (0 : Int32)
        · rw [if_pos c42] at h41
          refine mr_if_ne_f (t := 36) (pc' := 34) dX5_readOpenings_31 (by decide) rfl (not_not_intro c42) ?_
          refine mr_iconst (pc' := 35) (v := (1 : Int32)) dX5_readOpenings_34 rfl (by decide) ?_
          obtain rfl := Option.some.inj h41
          exact mr_zreturn dX5_readOpenings_35 rfl (by decide)
        · rw [if_neg c42] at h41
          refine mr_if_ne_t (t := 36) dX5_readOpenings_31 (by decide) c42 ?_
          refine mr_aload_n (pc' := 37) dX5_readOpenings_36 rfl rfl ?_
          refine mr_getI (pc' := 40) (ci := 5) (j := 6) dX5_readOpenings_37 rfl rfl rfl (by decide) (by decide) rfl ?_
          refine mr_bipush (pc' := 42) (v := (10 : Int32)) dX5_readOpenings_40 rfl (by decide) ?_
          by_cases c43 : (q39.2.1 38 6) < (10 : Int32)
          · rw [if_pos c43] at h41
            refine mr_icmp_lt_t (t := 61) dX5_readOpenings_42 (by decide) c43 ?_
            refine mr_aload_n (pc' := 62) dX5_readOpenings_61 rfl rfl ?_
            refine mr_dup_ref (pc' := 63) dX5_readOpenings_62 rfl ?_
            refine mr_getI (pc' := 66) (ci := 5) (j := 6) dX5_readOpenings_63 rfl rfl rfl (by decide) (by decide) rfl ?_
            refine mr_iconst (pc' := 67) (v := (1 : Int32)) dX5_readOpenings_66 rfl (by decide) ?_
            refine mr_iadd (pc' := 68) dX5_readOpenings_67 rfl ?_
            obtain ⟨S44, g45, h46⟩ := Option.bind_eq_some_iff.mp h41
            refine mr_putI (pc' := 71) (ci := 5) (j := 6) dX5_readOpenings_68 rfl rfl rfl (by decide) (by decide) rfl rfl ?_
            rw [Option.some.inj g45]
            refine mr_aload_n (pc' := 72) dX5_readOpenings_71 rfl rfl ?_
            refine mr_dup_ref (pc' := 73) dX5_readOpenings_72 rfl ?_
            refine mr_getI (pc' := 76) (ci := 5) (j := 5) dX5_readOpenings_73 rfl rfl rfl (by decide) (by decide) rfl ?_
            refine mr_iload_n (pc' := 77) dX5_readOpenings_76 rfl rfl ?_
            by_cases c47 : q2.1 = (0 : Int32)
            · rw [if_pos c47] at h46
              refine mr_if_eq_t (t := 84) dX5_readOpenings_77 (by decide) c47 ?_
              refine mr_iconst (pc' := 85) (v := (1 : Int32)) dX5_readOpenings_84 rfl (by decide) ?_
              refine mr_iadd (pc' := 86) dX5_readOpenings_85 rfl ?_
              obtain ⟨S48, g49, h50⟩ := Option.bind_eq_some_iff.mp h46
              refine mr_putI (pc' := 89) (ci := 5) (j := 5) dX5_readOpenings_86 rfl rfl rfl (by decide) (by decide) rfl rfl ?_
              rw [Option.some.inj g49]
              refine mr_aload_n (pc' := 90) dX5_readOpenings_89 rfl rfl ?_
              refine mr_iload_n (pc' := 91) dX5_readOpenings_90 rfl rfl ?_
              by_cases c51 : q2.1 = (0 : Int32)
              · rw [if_pos c51] at h50
                refine mr_if_eq_t (t := 98) dX5_readOpenings_91 (by decide) c51 ?_
                refine mr_bipush (pc' := 100) (v := (16 : Int32)) dX5_readOpenings_98 rfl (by decide) ?_
                obtain ⟨q52, g53, h54⟩ := Option.bind_eq_some_iff.mp h50
                refine mr_cv (pc' := 103) (a := 38) (d1 := 0) dX5_readOpenings_100 rfl rfl rfl rfl rfl rfl (by decide) rfl (by decide) (ok_X5_hold hR  g53) ?_
                show mr X _ _ 103 _ [] (MM RR q52) _
                refine mr_iinc (pc' := 106) (x' := (p1 + (1 : Int32))) (lv' := [(1, .int (p1 + (1 : Int32))), (2, .int q2.1), (0, .ref 38)]) dX5_readOpenings_103 rfl (by decide) rfl rfl rfl ?_
                refine mr_goto (t := 2) dX5_readOpenings_106 (by decide) ?_
                exact mr_sub [(0, .ref 38), (1, .int (p1 + (1 : Int32)))] ⟨rfl, rfl, trivial⟩ rfl (ih _ _  h54)
              · rw [if_neg c51] at h50
                refine mr_if_eq_f (t := 98) (pc' := 94) dX5_readOpenings_91 (by decide) rfl c51 ?_
                refine mr_iconst (pc' := 95) (v := (4 : Int32)) dX5_readOpenings_94 rfl (by decide) ?_
                refine mr_goto (t := 100) dX5_readOpenings_95 (by decide) ?_
                obtain ⟨q55, g56, h57⟩ := Option.bind_eq_some_iff.mp h50
                refine mr_cv (pc' := 103) (a := 38) (d1 := 0) dX5_readOpenings_100 rfl rfl rfl rfl rfl rfl (by decide) rfl (by decide) (ok_X5_hold hR  g56) ?_
                show mr X _ _ 103 _ [] (MM RR q55) _
                refine mr_iinc (pc' := 106) (x' := (p1 + (1 : Int32))) (lv' := [(1, .int (p1 + (1 : Int32))), (2, .int q2.1), (0, .ref 38)]) dX5_readOpenings_103 rfl (by decide) rfl rfl rfl ?_
                refine mr_goto (t := 2) dX5_readOpenings_106 (by decide) ?_
                exact mr_sub [(0, .ref 38), (1, .int (p1 + (1 : Int32)))] ⟨rfl, rfl, trivial⟩ rfl (ih _ _  h57)
            · rw [if_neg c47] at h46
              refine mr_if_eq_f (t := 84) (pc' := 80) dX5_readOpenings_77 (by decide) rfl c47 ?_
              refine mr_iconst (pc' := 81) (v := (0 : Int32)) dX5_readOpenings_80 rfl (by decide) ?_
              refine mr_goto (t := 85) dX5_readOpenings_81 (by decide) ?_
              refine mr_iadd (pc' := 86) dX5_readOpenings_85 rfl ?_
              obtain ⟨S58, g59, h60⟩ := Option.bind_eq_some_iff.mp h46
              refine mr_putI (pc' := 89) (ci := 5) (j := 5) dX5_readOpenings_86 rfl rfl rfl (by decide) (by decide) rfl rfl ?_
              rw [Option.some.inj g59]
              refine mr_aload_n (pc' := 90) dX5_readOpenings_89 rfl rfl ?_
              refine mr_iload_n (pc' := 91) dX5_readOpenings_90 rfl rfl ?_
              by_cases c61 : q2.1 = (0 : Int32)
              · rw [if_pos c61] at h60
                refine mr_if_eq_t (t := 98) dX5_readOpenings_91 (by decide) c61 ?_
                refine mr_bipush (pc' := 100) (v := (16 : Int32)) dX5_readOpenings_98 rfl (by decide) ?_
                obtain ⟨q62, g63, h64⟩ := Option.bind_eq_some_iff.mp h60
                refine mr_cv (pc' := 103) (a := 38) (d1 := 0) dX5_readOpenings_100 rfl rfl rfl rfl rfl rfl (by decide) rfl (by decide) (ok_X5_hold hR  g63) ?_
                show mr X _ _ 103 _ [] (MM RR q62) _
                refine mr_iinc (pc' := 106) (x' := (p1 + (1 : Int32))) (lv' := [(1, .int (p1 + (1 : Int32))), (2, .int q2.1), (0, .ref 38)]) dX5_readOpenings_103 rfl (by decide) rfl rfl rfl ?_
                refine mr_goto (t := 2) dX5_readOpenings_106 (by decide) ?_
                exact mr_sub [(0, .ref 38), (1, .int (p1 + (1 : Int32)))] ⟨rfl, rfl, trivial⟩ rfl (ih _ _  h64)
              · rw [if_neg c61] at h60
                refine mr_if_eq_f (t := 98) (pc' := 94) dX5_readOpenings_91 (by decide) rfl c61 ?_
                refine mr_iconst (pc' := 95) (v := (4 : Int32)) dX5_readOpenings_94 rfl (by decide) ?_
                refine mr_goto (t := 100) dX5_readOpenings_95 (by decide) ?_
                obtain ⟨q65, g66, h67⟩ := Option.bind_eq_some_iff.mp h60
                refine mr_cv (pc' := 103) (a := 38) (d1 := 0) dX5_readOpenings_100 rfl rfl rfl rfl rfl rfl (by decide) rfl (by decide) (ok_X5_hold hR  g66) ?_
                show mr X _ _ 103 _ [] (MM RR q65) _
                refine mr_iinc (pc' := 106) (x' := (p1 + (1 : Int32))) (lv' := [(1, .int (p1 + (1 : Int32))), (2, .int q2.1), (0, .ref 38)]) dX5_readOpenings_103 rfl (by decide) rfl rfl rfl ?_
                refine mr_goto (t := 2) dX5_readOpenings_106 (by decide) ?_
                exact mr_sub [(0, .ref 38), (1, .int (p1 + (1 : Int32)))] ⟨rfl, rfl, trivial⟩ rfl (ih _ _  h67)
          · rw [if_neg c43] at h41
            refine mr_icmp_lt_f (t := 61) (pc' := 45) dX5_readOpenings_42 (by decide) rfl c43 ?_
            refine mr_aload_n (pc' := 46) dX5_readOpenings_45 rfl rfl ?_
            refine mr_getR (pc' := 49) (ci := 5) (j := 0) (b := 1) hR dX5_readOpenings_46 rfl rfl rfl (by decide) (by decide) (by decide) rfl rfl ?_
            refine mr_aload_n (pc' := 50) dX5_readOpenings_49 rfl rfl ?_
            refine mr_getR (pc' := 53) (ci := 5) (j := 0) (b := 1) hR dX5_readOpenings_50 rfl rfl rfl (by decide) (by decide) (by decide) rfl rfl ?_
            refine mr_getI (pc' := 56) (ci := 7) (j := 3) dX5_readOpenings_53 rfl rfl rfl (by decide) (by decide) rfl ?_
            refine mr_iconst (pc' := 57) (v := (2 : Int32)) dX5_readOpenings_56 rfl (by decide) ?_
            obtain ⟨q68, g69, h70⟩ := Option.bind_eq_some_iff.mp h41
            refine mr_cv (pc' := 60) (a := 1) (d1 := 0) dX5_readOpenings_57 rfl rfl rfl rfl rfl rfl (by decide) rfl (by decide) (ok_X7_fail hR  g69) ?_
            show mr X _ _ 60 _ [.int q68.1] (MM RR q68.2) _
            obtain ⟨z71, g72, h73⟩ := Option.bind_eq_some_iff.mp h70
            obtain ⟨g74, e75⟩ := mm_ifs g72
            cases e75
            cases h73
            exact mr_zreturn dX5_readOpenings_60 rfl g74
      · rw [if_neg c5] at h4
        refine mr_if_ne_t (t := 36) dX5_readOpenings_19 (by decide) c5 ?_
        refine mr_aload_n (pc' := 37) dX5_readOpenings_36 rfl rfl ?_
        refine mr_getI (pc' := 40) (ci := 5) (j := 6) dX5_readOpenings_37 rfl rfl rfl (by decide) (by decide) rfl ?_
        refine mr_bipush (pc' := 42) (v := (10 : Int32)) dX5_readOpenings_40 rfl (by decide) ?_
        by_cases c6 : (q2.2.1 38 6) < (10 : Int32)
        · rw [if_pos c6] at h4
          refine mr_icmp_lt_t (t := 61) dX5_readOpenings_42 (by decide) c6 ?_
          refine mr_aload_n (pc' := 62) dX5_readOpenings_61 rfl rfl ?_
          refine mr_dup_ref (pc' := 63) dX5_readOpenings_62 rfl ?_
          refine mr_getI (pc' := 66) (ci := 5) (j := 6) dX5_readOpenings_63 rfl rfl rfl (by decide) (by decide) rfl ?_
          refine mr_iconst (pc' := 67) (v := (1 : Int32)) dX5_readOpenings_66 rfl (by decide) ?_
          refine mr_iadd (pc' := 68) dX5_readOpenings_67 rfl ?_
          obtain ⟨S7, g8, h9⟩ := Option.bind_eq_some_iff.mp h4
          refine mr_putI (pc' := 71) (ci := 5) (j := 6) dX5_readOpenings_68 rfl rfl rfl (by decide) (by decide) rfl rfl ?_
          rw [Option.some.inj g8]
          refine mr_aload_n (pc' := 72) dX5_readOpenings_71 rfl rfl ?_
          refine mr_dup_ref (pc' := 73) dX5_readOpenings_72 rfl ?_
          refine mr_getI (pc' := 76) (ci := 5) (j := 5) dX5_readOpenings_73 rfl rfl rfl (by decide) (by decide) rfl ?_
          refine mr_iload_n (pc' := 77) dX5_readOpenings_76 rfl rfl ?_
          by_cases c10 : q2.1 = (0 : Int32)
          · rw [if_pos c10] at h9
            refine mr_if_eq_t (t := 84) dX5_readOpenings_77 (by decide) c10 ?_
            refine mr_iconst (pc' := 85) (v := (1 : Int32)) dX5_readOpenings_84 rfl (by decide) ?_
            refine mr_iadd (pc' := 86) dX5_readOpenings_85 rfl ?_
            obtain ⟨S11, g12, h13⟩ := Option.bind_eq_some_iff.mp h9
            refine mr_putI (pc' := 89) (ci := 5) (j := 5) dX5_readOpenings_86 rfl rfl rfl (by decide) (by decide) rfl rfl ?_
            rw [Option.some.inj g12]
            refine mr_aload_n (pc' := 90) dX5_readOpenings_89 rfl rfl ?_
            refine mr_iload_n (pc' := 91) dX5_readOpenings_90 rfl rfl ?_
            by_cases c14 : q2.1 = (0 : Int32)
            · rw [if_pos c14] at h13
              refine mr_if_eq_t (t := 98) dX5_readOpenings_91 (by decide) c14 ?_
              refine mr_bipush (pc' := 100) (v := (16 : Int32)) dX5_readOpenings_98 rfl (by decide) ?_
              obtain ⟨q15, g16, h17⟩ := Option.bind_eq_some_iff.mp h13
              refine mr_cv (pc' := 103) (a := 38) (d1 := 0) dX5_readOpenings_100 rfl rfl rfl rfl rfl rfl (by decide) rfl (by decide) (ok_X5_hold hR  g16) ?_
              show mr X _ _ 103 _ [] (MM RR q15) _
              refine mr_iinc (pc' := 106) (x' := (p1 + (1 : Int32))) (lv' := [(1, .int (p1 + (1 : Int32))), (2, .int q2.1), (0, .ref 38)]) dX5_readOpenings_103 rfl (by decide) rfl rfl rfl ?_
              refine mr_goto (t := 2) dX5_readOpenings_106 (by decide) ?_
              exact mr_sub [(0, .ref 38), (1, .int (p1 + (1 : Int32)))] ⟨rfl, rfl, trivial⟩ rfl (ih _ _  h17)
            · rw [if_neg c14] at h13
              refine mr_if_eq_f (t := 98) (pc' := 94) dX5_readOpenings_91 (by decide) rfl c14 ?_
              refine mr_iconst (pc' := 95) (v := (4 : Int32)) dX5_readOpenings_94 rfl (by decide) ?_
              refine mr_goto (t := 100) dX5_readOpenings_95 (by decide) ?_
              obtain ⟨q18, g19, h20⟩ := Option.bind_eq_some_iff.mp h13
              refine mr_cv (pc' := 103) (a := 38) (d1 := 0) dX5_readOpenings_100 rfl rfl rfl rfl rfl rfl (by decide) rfl (by decide) (ok_X5_hold hR  g19) ?_
              show mr X _ _ 103 _ [] (MM RR q18) _
              refine mr_iinc (pc' := 106) (x' := (p1 + (1 : Int32))) (lv' := [(1, .int (p1 + (1 : Int32))), (2, .int q2.1), (0, .ref 38)]) dX5_readOpenings_103 rfl (by decide) rfl rfl rfl ?_
              refine mr_goto (t := 2) dX5_readOpenings_106 (by decide) ?_
              exact mr_sub [(0, .ref 38), (1, .int (p1 + (1 : Int32)))] ⟨rfl, rfl, trivial⟩ rfl (ih _ _  h20)
          · rw [if_neg c10] at h9
            refine mr_if_eq_f (t := 84) (pc' := 80) dX5_readOpenings_77 (by decide) rfl c10 ?_
            refine mr_iconst (pc' := 81) (v := (0 : Int32)) dX5_readOpenings_80 rfl (by decide) ?_
            refine mr_goto (t := 85) dX5_readOpenings_81 (by decide) ?_
            refine mr_iadd (pc' := 86) dX5_readOpenings_85 rfl ?_
            obtain ⟨S21, g22, h23⟩ := Option.bind_eq_some_iff.mp h9
            refine mr_putI (pc' := 89) (ci := 5) (j := 5) dX5_readOpenings_86 rfl rfl rfl (by decide) (by decide) rfl rfl ?_
            rw [Option.some.inj g22]
            refine mr_aload_n (pc' := 90) dX5_readOpenings_89 rfl rfl ?_
            refine mr_iload_n (pc' := 91) dX5_readOpenings_90 rfl rfl ?_
            by_cases c24 : q2.1 = (0 : Int32)
            · rw [if_pos c24] at h23
              refine mr_if_eq_t (t := 98) dX5_readOpenings_91 (by decide) c24 ?_
              refine mr_bipush (pc' := 100) (v := (16 : Int32)) dX5_readOpenings_98 rfl (by decide) ?_
              obtain ⟨q25, g26, h27⟩ := Option.bind_eq_some_iff.mp h23
              refine mr_cv (pc' := 103) (a := 38) (d1 := 0) dX5_readOpenings_100 rfl rfl rfl rfl rfl rfl (by decide) rfl (by decide) (ok_X5_hold hR  g26) ?_
              show mr X _ _ 103 _ [] (MM RR q25) _
              refine mr_iinc (pc' := 106) (x' := (p1 + (1 : Int32))) (lv' := [(1, .int (p1 + (1 : Int32))), (2, .int q2.1), (0, .ref 38)]) dX5_readOpenings_103 rfl (by decide) rfl rfl rfl ?_
              refine mr_goto (t := 2) dX5_readOpenings_106 (by decide) ?_
              exact mr_sub [(0, .ref 38), (1, .int (p1 + (1 : Int32)))] ⟨rfl, rfl, trivial⟩ rfl (ih _ _  h27)
            · rw [if_neg c24] at h23
              refine mr_if_eq_f (t := 98) (pc' := 94) dX5_readOpenings_91 (by decide) rfl c24 ?_
              refine mr_iconst (pc' := 95) (v := (4 : Int32)) dX5_readOpenings_94 rfl (by decide) ?_
              refine mr_goto (t := 100) dX5_readOpenings_95 (by decide) ?_
              obtain ⟨q28, g29, h30⟩ := Option.bind_eq_some_iff.mp h23
              refine mr_cv (pc' := 103) (a := 38) (d1 := 0) dX5_readOpenings_100 rfl rfl rfl rfl rfl rfl (by decide) rfl (by decide) (ok_X5_hold hR  g29) ?_
              show mr X _ _ 103 _ [] (MM RR q28) _
              refine mr_iinc (pc' := 106) (x' := (p1 + (1 : Int32))) (lv' := [(1, .int (p1 + (1 : Int32))), (2, .int q2.1), (0, .ref 38)]) dX5_readOpenings_103 rfl (by decide) rfl rfl rfl ?_
              refine mr_goto (t := 2) dX5_readOpenings_106 (by decide) ?_
              exact mr_sub [(0, .ref 38), (1, .int (p1 + (1 : Int32)))] ⟨rfl, rfl, trivial⟩ rfl (ih _ _  h30)
        · rw [if_neg c6] at h4
          refine mr_icmp_lt_f (t := 61) (pc' := 45) dX5_readOpenings_42 (by decide) rfl c6 ?_
          refine mr_aload_n (pc' := 46) dX5_readOpenings_45 rfl rfl ?_
          refine mr_getR (pc' := 49) (ci := 5) (j := 0) (b := 1) hR dX5_readOpenings_46 rfl rfl rfl (by decide) (by decide) (by decide) rfl rfl ?_
          refine mr_aload_n (pc' := 50) dX5_readOpenings_49 rfl rfl ?_
          refine mr_getR (pc' := 53) (ci := 5) (j := 0) (b := 1) hR dX5_readOpenings_50 rfl rfl rfl (by decide) (by decide) (by decide) rfl rfl ?_
          refine mr_getI (pc' := 56) (ci := 7) (j := 3) dX5_readOpenings_53 rfl rfl rfl (by decide) (by decide) rfl ?_
          refine mr_iconst (pc' := 57) (v := (2 : Int32)) dX5_readOpenings_56 rfl (by decide) ?_
          obtain ⟨q31, g32, h33⟩ := Option.bind_eq_some_iff.mp h4
          refine mr_cv (pc' := 60) (a := 1) (d1 := 0) dX5_readOpenings_57 rfl rfl rfl rfl rfl rfl (by decide) rfl (by decide) (ok_X7_fail hR  g32) ?_
          show mr X _ _ 60 _ [.int q31.1] (MM RR q31.2) _
          obtain ⟨z34, g35, h36⟩ := Option.bind_eq_some_iff.mp h33
          obtain ⟨g37, e38⟩ := mm_ifs g35
          cases e38
          cases h36
          exact mr_zreturn dX5_readOpenings_60 rfl g37
def f_X5_readOpenings  (S : fS) : Option (Int32 × fS) :=
  lp_X5_readOpenings_2  (fun S76 => some ((0 : Int32), S76)) FU (0 : Int32) S
set_option maxHeartbeats 4000000 in
set_option maxRecDepth 100000 in
theorem ok_X5_readOpenings {X : mm_C} {RR : Nat → Nat → Option Nat} (hR : RRok RR)   {S : fS} {r : Int32 × fS} (h : f_X5_readOpenings  S = some r) : mr X 5 mY_X5_readOpenings 0 (lv_args 0 [.ref 38]) [] (MM RR S) (some (.int r.1), MM RR r.2) := by
  unfold f_X5_readOpenings at h
  show mr X _ _ 0 [(0, .ref 38)] [] (MM RR S) _
  refine mr_iconst (pc' := 1) (v := (0 : Int32)) dX5_readOpenings_0 rfl (by decide) ?_
  refine mr_istore_n (pc' := 2) (lv' := [(1, .int (0 : Int32)), (0, .ref 38)]) dX5_readOpenings_1 rfl (by decide) rfl ?_
  refine mr_sub [(0, .ref 38), (1, .int (0 : Int32))] ⟨rfl, rfl, trivial⟩ rfl ?_
  refine ok_lp_X5_readOpenings_2 hR  (fun S76 h77 => ?_) FU _ _  h
  refine mr_iconst (pc' := 110) (v := (0 : Int32)) dX5_readOpenings_109 rfl (by decide) ?_
  obtain rfl := Option.some.inj h77
  exact mr_zreturn dX5_readOpenings_110 rfl (by decide)
def f_X5_takeName  (S : fS) : Option (Int32 × fS) :=
  (f_X7_takeWord 6 S).bind fun q1 =>
  if q1.1 = (0 : Int32) then ((f_X7_takeWord 7 q1.2).bind fun q5 =>
  if q5.1 = (0 : Int32) then ((f_X7_takeWord 8 q5.2).bind fun q9 =>
  if q9.1 = (0 : Int32) then ((f_X7_takeWord 9 q9.2).bind fun q13 =>
  if q13.1 = (0 : Int32) then ((f_X7_takeWord 10 q13.2).bind fun q17 =>
  if q17.1 = (0 : Int32) then ((f_X7_takeWord 11 q17.2).bind fun q21 =>
  if q21.1 = (0 : Int32) then ((f_X7_takeWord 12 q21.2).bind fun q25 =>
  if q25.1 = (0 : Int32) then ((f_X7_takeWord 13 q25.2).bind fun q29 =>
  if q29.1 = (0 : Int32) then (some ((-1 : Int32), q29.2)) else
  (some ((7 : Int32), q29.2))) else
  (some ((6 : Int32), q25.2))) else
  (some ((5 : Int32), q21.2))) else
  (some ((4 : Int32), q17.2))) else
  (some ((3 : Int32), q13.2))) else
  (some ((2 : Int32), q9.2))) else
  (some ((1 : Int32), q5.2))) else
  (some ((0 : Int32), q1.2))
set_option maxHeartbeats 4000000 in
set_option maxRecDepth 100000 in
theorem ok_X5_takeName {X : mm_C} {RR : Nat → Nat → Option Nat} (hR : RRok RR)   {S : fS} {r : Int32 × fS} (h : f_X5_takeName  S = some r) : mr X 5 mY_X5_takeName 0 (lv_args 0 [.ref 38]) [] (MM RR S) (some (.int r.1), MM RR r.2) := by
  unfold f_X5_takeName at h
  show mr X _ _ 0 [(0, .ref 38)] [] (MM RR S) _
  refine mr_aload_n (pc' := 1) dX5_takeName_0 rfl rfl ?_
  refine mr_getR (pc' := 4) (ci := 5) (j := 0) (b := 1) hR dX5_takeName_1 rfl rfl rfl (by decide) (by decide) (by decide) rfl rfl ?_
  refine mr_ldcS (pc' := 6) (i := 6) dX5_takeName_4 rfl rfl rfl ?_
  obtain ⟨q1, g2, h3⟩ := Option.bind_eq_some_iff.mp h
  refine mr_cv (pc' := 9) (a := 1) (d1 := 4) dX5_takeName_6 rfl rfl rfl rfl rfl rfl (by decide) rfl (by decide) (ok_X7_takeWord hR (by decide) g2) ?_
  show mr X _ _ 9 _ [.int q1.1] (MM RR q1.2) _
  by_cases c4 : q1.1 = (0 : Int32)
  · rw [if_pos c4] at h3
    refine mr_if_eq_t (t := 14) dX5_takeName_9 (by decide) c4 ?_
    refine mr_aload_n (pc' := 15) dX5_takeName_14 rfl rfl ?_
    refine mr_getR (pc' := 18) (ci := 5) (j := 0) (b := 1) hR dX5_takeName_15 rfl rfl rfl (by decide) (by decide) (by decide) rfl rfl ?_
    refine mr_ldcS (pc' := 20) (i := 7) dX5_takeName_18 rfl rfl rfl ?_
    obtain ⟨q5, g6, h7⟩ := Option.bind_eq_some_iff.mp h3
    refine mr_cv (pc' := 23) (a := 1) (d1 := 4) dX5_takeName_20 rfl rfl rfl rfl rfl rfl (by decide) rfl (by decide) (ok_X7_takeWord hR (by decide) g6) ?_
    show mr X _ _ 23 _ [.int q5.1] (MM RR q5.2) _
    by_cases c8 : q5.1 = (0 : Int32)
    · rw [if_pos c8] at h7
      refine mr_if_eq_t (t := 28) dX5_takeName_23 (by decide) c8 ?_
      refine mr_aload_n (pc' := 29) dX5_takeName_28 rfl rfl ?_
      refine mr_getR (pc' := 32) (ci := 5) (j := 0) (b := 1) hR dX5_takeName_29 rfl rfl rfl (by decide) (by decide) (by decide) rfl rfl ?_
      refine mr_ldcS (pc' := 34) (i := 8) dX5_takeName_32 rfl rfl rfl ?_
      obtain ⟨q9, g10, h11⟩ := Option.bind_eq_some_iff.mp h7
      refine mr_cv (pc' := 37) (a := 1) (d1 := 4) dX5_takeName_34 rfl rfl rfl rfl rfl rfl (by decide) rfl (by decide) (ok_X7_takeWord hR (by decide) g10) ?_
      show mr X _ _ 37 _ [.int q9.1] (MM RR q9.2) _
      by_cases c12 : q9.1 = (0 : Int32)
      · rw [if_pos c12] at h11
        refine mr_if_eq_t (t := 42) dX5_takeName_37 (by decide) c12 ?_
        refine mr_aload_n (pc' := 43) dX5_takeName_42 rfl rfl ?_
        refine mr_getR (pc' := 46) (ci := 5) (j := 0) (b := 1) hR dX5_takeName_43 rfl rfl rfl (by decide) (by decide) (by decide) rfl rfl ?_
        refine mr_ldcS (pc' := 48) (i := 9) dX5_takeName_46 rfl rfl rfl ?_
        obtain ⟨q13, g14, h15⟩ := Option.bind_eq_some_iff.mp h11
        refine mr_cv (pc' := 51) (a := 1) (d1 := 4) dX5_takeName_48 rfl rfl rfl rfl rfl rfl (by decide) rfl (by decide) (ok_X7_takeWord hR (by decide) g14) ?_
        show mr X _ _ 51 _ [.int q13.1] (MM RR q13.2) _
        by_cases c16 : q13.1 = (0 : Int32)
        · rw [if_pos c16] at h15
          refine mr_if_eq_t (t := 56) dX5_takeName_51 (by decide) c16 ?_
          refine mr_aload_n (pc' := 57) dX5_takeName_56 rfl rfl ?_
          refine mr_getR (pc' := 60) (ci := 5) (j := 0) (b := 1) hR dX5_takeName_57 rfl rfl rfl (by decide) (by decide) (by decide) rfl rfl ?_
          refine mr_ldcS (pc' := 62) (i := 10) dX5_takeName_60 rfl rfl rfl ?_
          obtain ⟨q17, g18, h19⟩ := Option.bind_eq_some_iff.mp h15
          refine mr_cv (pc' := 65) (a := 1) (d1 := 4) dX5_takeName_62 rfl rfl rfl rfl rfl rfl (by decide) rfl (by decide) (ok_X7_takeWord hR (by decide) g18) ?_
          show mr X _ _ 65 _ [.int q17.1] (MM RR q17.2) _
          by_cases c20 : q17.1 = (0 : Int32)
          · rw [if_pos c20] at h19
            refine mr_if_eq_t (t := 70) dX5_takeName_65 (by decide) c20 ?_
            refine mr_aload_n (pc' := 71) dX5_takeName_70 rfl rfl ?_
            refine mr_getR (pc' := 74) (ci := 5) (j := 0) (b := 1) hR dX5_takeName_71 rfl rfl rfl (by decide) (by decide) (by decide) rfl rfl ?_
            refine mr_ldcS (pc' := 76) (i := 11) dX5_takeName_74 rfl rfl rfl ?_
            obtain ⟨q21, g22, h23⟩ := Option.bind_eq_some_iff.mp h19
            refine mr_cv (pc' := 79) (a := 1) (d1 := 4) dX5_takeName_76 rfl rfl rfl rfl rfl rfl (by decide) rfl (by decide) (ok_X7_takeWord hR (by decide) g22) ?_
            show mr X _ _ 79 _ [.int q21.1] (MM RR q21.2) _
            by_cases c24 : q21.1 = (0 : Int32)
            · rw [if_pos c24] at h23
              refine mr_if_eq_t (t := 84) dX5_takeName_79 (by decide) c24 ?_
              refine mr_aload_n (pc' := 85) dX5_takeName_84 rfl rfl ?_
              refine mr_getR (pc' := 88) (ci := 5) (j := 0) (b := 1) hR dX5_takeName_85 rfl rfl rfl (by decide) (by decide) (by decide) rfl rfl ?_
              refine mr_ldcS (pc' := 90) (i := 12) dX5_takeName_88 rfl rfl rfl ?_
              obtain ⟨q25, g26, h27⟩ := Option.bind_eq_some_iff.mp h23
              refine mr_cv (pc' := 93) (a := 1) (d1 := 4) dX5_takeName_90 rfl rfl rfl rfl rfl rfl (by decide) rfl (by decide) (ok_X7_takeWord hR (by decide) g26) ?_
              show mr X _ _ 93 _ [.int q25.1] (MM RR q25.2) _
              by_cases c28 : q25.1 = (0 : Int32)
              · rw [if_pos c28] at h27
                refine mr_if_eq_t (t := 99) dX5_takeName_93 (by decide) c28 ?_
                refine mr_aload_n (pc' := 100) dX5_takeName_99 rfl rfl ?_
                refine mr_getR (pc' := 103) (ci := 5) (j := 0) (b := 1) hR dX5_takeName_100 rfl rfl rfl (by decide) (by decide) (by decide) rfl rfl ?_
                refine mr_ldcS (pc' := 105) (i := 13) dX5_takeName_103 rfl rfl rfl ?_
                obtain ⟨q29, g30, h31⟩ := Option.bind_eq_some_iff.mp h27
                refine mr_cv (pc' := 108) (a := 1) (d1 := 4) dX5_takeName_105 rfl rfl rfl rfl rfl rfl (by decide) rfl (by decide) (ok_X7_takeWord hR (by decide) g30) ?_
                show mr X _ _ 108 _ [.int q29.1] (MM RR q29.2) _
                by_cases c32 : q29.1 = (0 : Int32)
                · rw [if_pos c32] at h31
                  refine mr_if_eq_t (t := 116) dX5_takeName_108 (by decide) c32 ?_
                  refine mr_iconst (pc' := 117) (v := (-1 : Int32)) dX5_takeName_116 rfl (by decide) ?_
                  obtain rfl := Option.some.inj h31
                  exact mr_ireturn dX5_takeName_117 rfl
                · rw [if_neg c32] at h31
                  refine mr_if_eq_f (t := 116) (pc' := 111) dX5_takeName_108 (by decide) rfl c32 ?_
                  refine mr_bipush (pc' := 113) (v := (7 : Int32)) dX5_takeName_111 rfl (by decide) ?_
                  refine mr_goto (t := 117) dX5_takeName_113 (by decide) ?_
                  obtain rfl := Option.some.inj h31
                  exact mr_ireturn dX5_takeName_117 rfl
              · rw [if_neg c28] at h27
                refine mr_if_eq_f (t := 99) (pc' := 96) dX5_takeName_93 (by decide) rfl c28 ?_
                refine mr_bipush (pc' := 98) (v := (6 : Int32)) dX5_takeName_96 rfl (by decide) ?_
                obtain rfl := Option.some.inj h27
                exact mr_ireturn dX5_takeName_98 rfl
            · rw [if_neg c24] at h23
              refine mr_if_eq_f (t := 84) (pc' := 82) dX5_takeName_79 (by decide) rfl c24 ?_
              refine mr_iconst (pc' := 83) (v := (5 : Int32)) dX5_takeName_82 rfl (by decide) ?_
              obtain rfl := Option.some.inj h23
              exact mr_ireturn dX5_takeName_83 rfl
          · rw [if_neg c20] at h19
            refine mr_if_eq_f (t := 70) (pc' := 68) dX5_takeName_65 (by decide) rfl c20 ?_
            refine mr_iconst (pc' := 69) (v := (4 : Int32)) dX5_takeName_68 rfl (by decide) ?_
            obtain rfl := Option.some.inj h19
            exact mr_ireturn dX5_takeName_69 rfl
        · rw [if_neg c16] at h15
          refine mr_if_eq_f (t := 56) (pc' := 54) dX5_takeName_51 (by decide) rfl c16 ?_
          refine mr_iconst (pc' := 55) (v := (3 : Int32)) dX5_takeName_54 rfl (by decide) ?_
          obtain rfl := Option.some.inj h15
          exact mr_ireturn dX5_takeName_55 rfl
      · rw [if_neg c12] at h11
        refine mr_if_eq_f (t := 42) (pc' := 40) dX5_takeName_37 (by decide) rfl c12 ?_
        refine mr_iconst (pc' := 41) (v := (2 : Int32)) dX5_takeName_40 rfl (by decide) ?_
        obtain rfl := Option.some.inj h11
        exact mr_ireturn dX5_takeName_41 rfl
    · rw [if_neg c8] at h7
      refine mr_if_eq_f (t := 28) (pc' := 26) dX5_takeName_23 (by decide) rfl c8 ?_
      refine mr_iconst (pc' := 27) (v := (1 : Int32)) dX5_takeName_26 rfl (by decide) ?_
      obtain rfl := Option.some.inj h7
      exact mr_ireturn dX5_takeName_27 rfl
  · rw [if_neg c4] at h3
    refine mr_if_eq_f (t := 14) (pc' := 12) dX5_takeName_9 (by decide) rfl c4 ?_
    refine mr_iconst (pc' := 13) (v := (0 : Int32)) dX5_takeName_12 rfl (by decide) ?_
    obtain rfl := Option.some.inj h3
    exact mr_ireturn dX5_takeName_13 rfl
