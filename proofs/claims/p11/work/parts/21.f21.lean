def f_X11_otherEnd (v1 : Int32) (v2 : Int32) (S : fS) : Option (Int32) :=
  (f_X11_stairOf v1 (0 : Int32) S).bind fun q1 =>
  if q1 = v2 then ((f_X11_stairOf v1 (1 : Int32) S).bind fun q12 =>
  some q12) else
  ((f_X11_stairOf v1 (1 : Int32) S).bind fun q5 =>
  if q5 = v2 then ((f_X11_stairOf v1 (0 : Int32) S).bind fun q9 =>
  some q9) else
  (some (-1 : Int32)))
set_option maxHeartbeats 4000000 in
set_option maxRecDepth 100000 in
theorem ok_X11_otherEnd {X : mm_C} {RR : Nat → Nat → Option Nat} (hR : RRok RR) {v1 : Int32} {v2 : Int32}  {S : fS} {r : Int32} (h : f_X11_otherEnd v1 v2 S = some r) : mr X 1 mY_X11_otherEnd 0 (lv_args 0 [.ref 145, .int v1, .int v2]) [] (MM RR S) (some (.int r), MM RR S) := by
  unfold f_X11_otherEnd at h
  show mr X _ _ 0 [(0, .ref 145), (1, .int v1), (2, .int v2)] [] (MM RR S) _
  refine mr_aload_n (pc' := 1) dX11_otherEnd_0 rfl rfl ?_
  refine mr_iload_n (pc' := 2) dX11_otherEnd_1 rfl rfl ?_
  refine mr_iconst (pc' := 3) (v := (0 : Int32)) dX11_otherEnd_2 rfl (by decide) ?_
  obtain ⟨q1, g2, h3⟩ := Option.bind_eq_some_iff.mp h
  refine mr_cv (pc' := 6) (a := 145) (d1 := 0) dX11_otherEnd_3 rfl rfl rfl rfl rfl rfl (by decide) rfl (by decide) (ok_X11_stairOf hR  g2) ?_
  show mr X _ _ 6 _ [.int q1] (MM RR S) _
  refine mr_iload_n (pc' := 7) dX11_otherEnd_6 rfl rfl ?_
  by_cases c4 : q1 = v2
  · rw [if_pos c4] at h3
    refine mr_icmp_ne_f (t := 19) (pc' := 10) dX11_otherEnd_7 (by decide) rfl (not_not_intro c4) ?_
    refine mr_aload_n (pc' := 11) dX11_otherEnd_10 rfl rfl ?_
    refine mr_iload_n (pc' := 12) dX11_otherEnd_11 rfl rfl ?_
    refine mr_iconst (pc' := 13) (v := (1 : Int32)) dX11_otherEnd_12 rfl (by decide) ?_
    obtain ⟨q12, g13, h14⟩ := Option.bind_eq_some_iff.mp h3
    refine mr_cv (pc' := 16) (a := 145) (d1 := 0) dX11_otherEnd_13 rfl rfl rfl rfl rfl rfl (by decide) rfl (by decide) (ok_X11_stairOf hR  g13) ?_
    show mr X _ _ 16 _ [.int q12] (MM RR S) _
    refine mr_goto (t := 39) dX11_otherEnd_16 (by decide) ?_
    obtain rfl := Option.some.inj h14
    exact mr_ireturn dX11_otherEnd_39 rfl
  · rw [if_neg c4] at h3
    refine mr_icmp_ne_t (t := 19) dX11_otherEnd_7 (by decide) c4 ?_
    refine mr_aload_n (pc' := 20) dX11_otherEnd_19 rfl rfl ?_
    refine mr_iload_n (pc' := 21) dX11_otherEnd_20 rfl rfl ?_
    refine mr_iconst (pc' := 22) (v := (1 : Int32)) dX11_otherEnd_21 rfl (by decide) ?_
    obtain ⟨q5, g6, h7⟩ := Option.bind_eq_some_iff.mp h3
    refine mr_cv (pc' := 25) (a := 145) (d1 := 0) dX11_otherEnd_22 rfl rfl rfl rfl rfl rfl (by decide) rfl (by decide) (ok_X11_stairOf hR  g6) ?_
    show mr X _ _ 25 _ [.int q5] (MM RR S) _
    refine mr_iload_n (pc' := 26) dX11_otherEnd_25 rfl rfl ?_
    by_cases c8 : q5 = v2
    · rw [if_pos c8] at h7
      refine mr_icmp_ne_f (t := 38) (pc' := 29) dX11_otherEnd_26 (by decide) rfl (not_not_intro c8) ?_
      refine mr_aload_n (pc' := 30) dX11_otherEnd_29 rfl rfl ?_
      refine mr_iload_n (pc' := 31) dX11_otherEnd_30 rfl rfl ?_
      refine mr_iconst (pc' := 32) (v := (0 : Int32)) dX11_otherEnd_31 rfl (by decide) ?_
      obtain ⟨q9, g10, h11⟩ := Option.bind_eq_some_iff.mp h7
      refine mr_cv (pc' := 35) (a := 145) (d1 := 0) dX11_otherEnd_32 rfl rfl rfl rfl rfl rfl (by decide) rfl (by decide) (ok_X11_stairOf hR  g10) ?_
      show mr X _ _ 35 _ [.int q9] (MM RR S) _
      refine mr_goto (t := 39) dX11_otherEnd_35 (by decide) ?_
      obtain rfl := Option.some.inj h11
      exact mr_ireturn dX11_otherEnd_39 rfl
    · rw [if_neg c8] at h7
      refine mr_icmp_ne_t (t := 38) dX11_otherEnd_26 (by decide) c8 ?_
      refine mr_iconst (pc' := 39) (v := (-1 : Int32)) dX11_otherEnd_38 rfl (by decide) ?_
      obtain rfl := Option.some.inj h7
      exact mr_ireturn dX11_otherEnd_39 rfl
def f_X11_setsOff (v1 : Int32) (v2 : Int32) (S : fS) : Option (fS) :=
  (gI S 157 158 ((90 : Int32) + ((4 : Int32) * v1))).bind fun a1 =>
  (f_X11_otherEnd v2 a1 S).bind fun q4 =>
  (sI S 157 158 (((90 : Int32) + ((4 : Int32) * v1)) + (3 : Int32)) q4).bind fun S7 =>
  (sI S7 157 158 ((90 : Int32) + ((4 : Int32) * v1)) (-1 : Int32)).bind fun S10 =>
  (sI S10 157 158 (((90 : Int32) + ((4 : Int32) * v1)) + (1 : Int32)) v2).bind fun S13 =>
  (sI S13 157 158 (((90 : Int32) + ((4 : Int32) * v1)) + (2 : Int32)) (0 : Int32)).bind fun S16 =>
  some S16
set_option maxHeartbeats 4000000 in
set_option maxRecDepth 100000 in
theorem ok_X11_setsOff {X : mm_C} {RR : Nat → Nat → Option Nat} (hR : RRok RR) {v1 : Int32} {v2 : Int32}  {S : fS} {r : fS} (h : f_X11_setsOff v1 v2 S = some r) : mr X 2 mY_X11_setsOff 0 (lv_args 0 [.ref 145, .int v1, .int v2]) [] (MM RR S) (none, MM RR r) := by
  unfold f_X11_setsOff at h
  show mr X _ _ 0 [(0, .ref 145), (1, .int v1), (2, .int v2)] [] (MM RR S) _
  refine mr_bipush (pc' := 2) (v := (90 : Int32)) dX11_setsOff_0 rfl (by decide) ?_
  refine mr_iconst (pc' := 3) (v := (4 : Int32)) dX11_setsOff_2 rfl (by decide) ?_
  refine mr_iload_n (pc' := 4) dX11_setsOff_3 rfl rfl ?_
  refine mr_imul (pc' := 5) dX11_setsOff_4 rfl ?_
  refine mr_iadd (pc' := 6) dX11_setsOff_5 rfl ?_
  refine mr_istore_n (pc' := 7) (lv' := [(3, .int ((90 : Int32) + ((4 : Int32) * v1))), (0, .ref 145), (1, .int v1), (2, .int v2)]) dX11_setsOff_6 rfl (by decide) rfl ?_
  refine mr_aload_n (pc' := 8) dX11_setsOff_7 rfl rfl ?_
  refine mr_getR (pc' := 11) (ci := 11) (j := 25) (b := 157) hR dX11_setsOff_8 rfl rfl rfl (by decide) (by decide) (by decide) rfl rfl ?_
  refine mr_iload_n (pc' := 12) dX11_setsOff_11 rfl rfl ?_
  refine mr_iconst (pc' := 13) (v := (3 : Int32)) dX11_setsOff_12 rfl (by decide) ?_
  refine mr_iadd (pc' := 14) dX11_setsOff_13 rfl ?_
  refine mr_aload_n (pc' := 15) dX11_setsOff_14 rfl rfl ?_
  refine mr_iload_n (pc' := 16) dX11_setsOff_15 rfl rfl ?_
  refine mr_aload_n (pc' := 17) dX11_setsOff_16 rfl rfl ?_
  refine mr_getR (pc' := 20) (ci := 11) (j := 25) (b := 157) hR dX11_setsOff_17 rfl rfl rfl (by decide) (by decide) (by decide) rfl rfl ?_
  refine mr_iload_n (pc' := 21) dX11_setsOff_20 rfl rfl ?_
  obtain ⟨a1, g2, h3⟩ := Option.bind_eq_some_iff.mp h
  refine mr_iald (pc' := 22) dX11_setsOff_21 rfl rfl rfl g2 ?_
  obtain ⟨q4, g5, h6⟩ := Option.bind_eq_some_iff.mp h3
  refine mr_cv (pc' := 25) (a := 145) (d1 := 1) dX11_setsOff_22 rfl rfl rfl rfl rfl rfl (by decide) rfl (by decide) (ok_X11_otherEnd hR  g5) ?_
  show mr X _ _ 25 _ [.int q4, .int (((90 : Int32) + ((4 : Int32) * v1)) + (3 : Int32)), .ref 157] (MM RR S) _
  obtain ⟨S7, g8, h9⟩ := Option.bind_eq_some_iff.mp h6
  refine mr_iast (pc' := 26) dX11_setsOff_25 rfl rfl rfl g8 ?_
  refine mr_aload_n (pc' := 27) dX11_setsOff_26 rfl rfl ?_
  refine mr_getR (pc' := 30) (ci := 11) (j := 25) (b := 157) hR dX11_setsOff_27 rfl rfl rfl (by decide) (by decide) (by decide) rfl rfl ?_
  refine mr_iload_n (pc' := 31) dX11_setsOff_30 rfl rfl ?_
  refine mr_iconst (pc' := 32) (v := (-1 : Int32)) dX11_setsOff_31 rfl (by decide) ?_
  obtain ⟨S10, g11, h12⟩ := Option.bind_eq_some_iff.mp h9
  refine mr_iast (pc' := 33) dX11_setsOff_32 rfl rfl rfl g11 ?_
  refine mr_aload_n (pc' := 34) dX11_setsOff_33 rfl rfl ?_
  refine mr_getR (pc' := 37) (ci := 11) (j := 25) (b := 157) hR dX11_setsOff_34 rfl rfl rfl (by decide) (by decide) (by decide) rfl rfl ?_
  refine mr_iload_n (pc' := 38) dX11_setsOff_37 rfl rfl ?_
  refine mr_iconst (pc' := 39) (v := (1 : Int32)) dX11_setsOff_38 rfl (by decide) ?_
  refine mr_iadd (pc' := 40) dX11_setsOff_39 rfl ?_
  refine mr_iload_n (pc' := 41) dX11_setsOff_40 rfl rfl ?_
  obtain ⟨S13, g14, h15⟩ := Option.bind_eq_some_iff.mp h12
  refine mr_iast (pc' := 42) dX11_setsOff_41 rfl rfl rfl g14 ?_
  refine mr_aload_n (pc' := 43) dX11_setsOff_42 rfl rfl ?_
  refine mr_getR (pc' := 46) (ci := 11) (j := 25) (b := 157) hR dX11_setsOff_43 rfl rfl rfl (by decide) (by decide) (by decide) rfl rfl ?_
  refine mr_iload_n (pc' := 47) dX11_setsOff_46 rfl rfl ?_
  refine mr_iconst (pc' := 48) (v := (2 : Int32)) dX11_setsOff_47 rfl (by decide) ?_
  refine mr_iadd (pc' := 49) dX11_setsOff_48 rfl ?_
  refine mr_iconst (pc' := 50) (v := (0 : Int32)) dX11_setsOff_49 rfl (by decide) ?_
  obtain ⟨S16, g17, h18⟩ := Option.bind_eq_some_iff.mp h15
  refine mr_iast (pc' := 51) dX11_setsOff_50 rfl rfl rfl g17 ?_
  obtain rfl := Option.some.inj h18
  exact mr_return dX11_setsOff_51 rfl
def f_X11_go (v1 : Int32) (v2 : Int32) (S : fS) : Option (Int32 × fS) :=
  (f_X11_isThing v1 S).bind fun q1 =>
  if q1 = (0 : Int32) then (some ((0 : Int32), S)) else
  ((f_X11_isStair v2 S).bind fun q5 =>
  if q5 = (0 : Int32) then (some ((0 : Int32), S)) else
  ((f_X11_thingOf v1 (0 : Int32) S).bind fun q9 =>
  if q9 < (0 : Int32) then (some ((0 : Int32), S)) else
  ((f_X11_thingOf v1 (0 : Int32) S).bind fun q13 =>
  (f_X11_otherEnd v2 q13 S).bind fun q16 =>
  if (0 : Int32) ≤ q16 then ((f_X11_setsOff v1 v2 S).bind fun q20 =>
  some ((1 : Int32), q20)) else
  (some ((0 : Int32), S)))))
set_option maxHeartbeats 4000000 in
set_option maxRecDepth 100000 in
theorem ok_X11_go {X : mm_C} {RR : Nat → Nat → Option Nat} (hR : RRok RR) {v1 : Int32} {v2 : Int32}  {S : fS} {r : Int32 × fS} (h : f_X11_go v1 v2 S = some r) : mr X 3 mY_X11_go 0 (lv_args 0 [.ref 145, .int v1, .int v2]) [] (MM RR S) (some (.int r.1), MM RR r.2) := by
  unfold f_X11_go at h
  show mr X _ _ 0 [(0, .ref 145), (1, .int v1), (2, .int v2)] [] (MM RR S) _
  refine mr_aload_n (pc' := 1) dX11_go_0 rfl rfl ?_
  refine mr_iload_n (pc' := 2) dX11_go_1 rfl rfl ?_
  obtain ⟨q1, g2, h3⟩ := Option.bind_eq_some_iff.mp h
  refine mr_cv (pc' := 5) (a := 145) (d1 := 0) dX11_go_2 rfl rfl rfl rfl rfl rfl (by decide) rfl (by decide) (ok_X11_isThing hR  g2) ?_
  show mr X _ _ 5 _ [.int q1] (MM RR S) _
  by_cases c4 : q1 = (0 : Int32)
  · rw [if_pos c4] at h3
    refine mr_if_eq_t (t := 39) dX11_go_5 (by decide) c4 ?_
    refine mr_iconst (pc' := 40) (v := (0 : Int32)) dX11_go_39 rfl (by decide) ?_
    obtain rfl := Option.some.inj h3
    exact mr_zreturn dX11_go_40 rfl (by decide)
  · rw [if_neg c4] at h3
    refine mr_if_eq_f (t := 39) (pc' := 8) dX11_go_5 (by decide) rfl c4 ?_
    refine mr_aload_n (pc' := 9) dX11_go_8 rfl rfl ?_
    refine mr_iload_n (pc' := 10) dX11_go_9 rfl rfl ?_
    obtain ⟨q5, g6, h7⟩ := Option.bind_eq_some_iff.mp h3
    refine mr_cv (pc' := 13) (a := 145) (d1 := 0) dX11_go_10 rfl rfl rfl rfl rfl rfl (by decide) rfl (by decide) (ok_X11_isStair hR  g6) ?_
    show mr X _ _ 13 _ [.int q5] (MM RR S) _
    by_cases c8 : q5 = (0 : Int32)
    · rw [if_pos c8] at h7
      refine mr_if_eq_t (t := 39) dX11_go_13 (by decide) c8 ?_
      refine mr_iconst (pc' := 40) (v := (0 : Int32)) dX11_go_39 rfl (by decide) ?_
      obtain rfl := Option.some.inj h7
      exact mr_zreturn dX11_go_40 rfl (by decide)
    · rw [if_neg c8] at h7
      refine mr_if_eq_f (t := 39) (pc' := 16) dX11_go_13 (by decide) rfl c8 ?_
      refine mr_aload_n (pc' := 17) dX11_go_16 rfl rfl ?_
      refine mr_iload_n (pc' := 18) dX11_go_17 rfl rfl ?_
      refine mr_iconst (pc' := 19) (v := (0 : Int32)) dX11_go_18 rfl (by decide) ?_
      obtain ⟨q9, g10, h11⟩ := Option.bind_eq_some_iff.mp h7
      refine mr_cv (pc' := 22) (a := 145) (d1 := 0) dX11_go_19 rfl rfl rfl rfl rfl rfl (by decide) rfl (by decide) (ok_X11_thingOf hR  g10) ?_
      show mr X _ _ 22 _ [.int q9] (MM RR S) _
      by_cases c12 : q9 < (0 : Int32)
      · rw [if_pos c12] at h11
        refine mr_if_lt_t (t := 39) dX11_go_22 (by decide) c12 ?_
        refine mr_iconst (pc' := 40) (v := (0 : Int32)) dX11_go_39 rfl (by decide) ?_
        obtain rfl := Option.some.inj h11
        exact mr_zreturn dX11_go_40 rfl (by decide)
      · rw [if_neg c12] at h11
        refine mr_if_lt_f (t := 39) (pc' := 25) dX11_go_22 (by decide) rfl c12 ?_
        refine mr_aload_n (pc' := 26) dX11_go_25 rfl rfl ?_
        refine mr_iload_n (pc' := 27) dX11_go_26 rfl rfl ?_
        refine mr_aload_n (pc' := 28) dX11_go_27 rfl rfl ?_
        refine mr_iload_n (pc' := 29) dX11_go_28 rfl rfl ?_
        refine mr_iconst (pc' := 30) (v := (0 : Int32)) dX11_go_29 rfl (by decide) ?_
        obtain ⟨q13, g14, h15⟩ := Option.bind_eq_some_iff.mp h11
        refine mr_cv (pc' := 33) (a := 145) (d1 := 0) dX11_go_30 rfl rfl rfl rfl rfl rfl (by decide) rfl (by decide) (ok_X11_thingOf hR  g14) ?_
        show mr X _ _ 33 _ [.int q13, .int v2, .ref 145] (MM RR S) _
        obtain ⟨q16, g17, h18⟩ := Option.bind_eq_some_iff.mp h15
        refine mr_cv (pc' := 36) (a := 145) (d1 := 1) dX11_go_33 rfl rfl rfl rfl rfl rfl (by decide) rfl (by decide) (ok_X11_otherEnd hR  g17) ?_
        show mr X _ _ 36 _ [.int q16] (MM RR S) _
        by_cases c19 : (0 : Int32) ≤ q16
        · rw [if_pos c19] at h18
          refine mr_if_ge_t (t := 41) dX11_go_36 (by decide) c19 ?_
          refine mr_aload_n (pc' := 42) dX11_go_41 rfl rfl ?_
          refine mr_iload_n (pc' := 43) dX11_go_42 rfl rfl ?_
          refine mr_iload_n (pc' := 44) dX11_go_43 rfl rfl ?_
          obtain ⟨q20, g21, h22⟩ := Option.bind_eq_some_iff.mp h18
          refine mr_cv (pc' := 47) (a := 145) (d1 := 2) dX11_go_44 rfl rfl rfl rfl rfl rfl (by decide) rfl (by decide) (ok_X11_setsOff hR  g21) ?_
          show mr X _ _ 47 _ [] (MM RR q20) _
          refine mr_iconst (pc' := 48) (v := (1 : Int32)) dX11_go_47 rfl (by decide) ?_
          obtain rfl := Option.some.inj h22
          exact mr_zreturn dX11_go_48 rfl (by decide)
        · rw [if_neg c19] at h18
          refine mr_if_ge_f (t := 41) (pc' := 39) dX11_go_36 (by decide) rfl c19 ?_
          refine mr_iconst (pc' := 40) (v := (0 : Int32)) dX11_go_39 rfl (by decide) ?_
          obtain rfl := Option.some.inj h18
          exact mr_zreturn dX11_go_40 rfl (by decide)
def f_X11_isRule (v1 : Int32) (S : fS) : Option (Int32) :=
  if v1 < (0 : Int32) then (some (0 : Int32)) else
  (if (S.1 145 2) ≤ v1 then (some (0 : Int32)) else
  (some (1 : Int32)))
set_option maxHeartbeats 4000000 in
set_option maxRecDepth 100000 in
theorem ok_X11_isRule {X : mm_C} {RR : Nat → Nat → Option Nat} (hR : RRok RR) {v1 : Int32}  {S : fS} {r : Int32} (h : f_X11_isRule v1 S = some r) : mr X 0 mY_X11_isRule 0 (lv_args 0 [.ref 145, .int v1]) [] (MM RR S) (some (.int r), MM RR S) := by
  unfold f_X11_isRule at h
  show mr X _ _ 0 [(0, .ref 145), (1, .int v1)] [] (MM RR S) _
  refine mr_iload_n (pc' := 1) dX11_isRule_0 rfl rfl ?_
  by_cases c1 : v1 < (0 : Int32)
  · rw [if_pos c1] at h
    refine mr_if_lt_t (t := 16) dX11_isRule_1 (by decide) c1 ?_
    refine mr_iconst (pc' := 17) (v := (0 : Int32)) dX11_isRule_16 rfl (by decide) ?_
    obtain rfl := Option.some.inj h
    exact mr_zreturn dX11_isRule_17 rfl (by decide)
  · rw [if_neg c1] at h
    refine mr_if_lt_f (t := 16) (pc' := 4) dX11_isRule_1 (by decide) rfl c1 ?_
    refine mr_iload_n (pc' := 5) dX11_isRule_4 rfl rfl ?_
    refine mr_aload_n (pc' := 6) dX11_isRule_5 rfl rfl ?_
    refine mr_getI (pc' := 9) (ci := 11) (j := 2) dX11_isRule_6 rfl rfl rfl (by decide) (by decide) rfl ?_
    by_cases c2 : (S.1 145 2) ≤ v1
    · rw [if_pos c2] at h
      refine mr_icmp_ge_t (t := 16) dX11_isRule_9 (by decide) c2 ?_
      refine mr_iconst (pc' := 17) (v := (0 : Int32)) dX11_isRule_16 rfl (by decide) ?_
      obtain rfl := Option.some.inj h
      exact mr_zreturn dX11_isRule_17 rfl (by decide)
    · rw [if_neg c2] at h
      refine mr_icmp_ge_f (t := 16) (pc' := 12) dX11_isRule_9 (by decide) rfl c2 ?_
      refine mr_iconst (pc' := 13) (v := (1 : Int32)) dX11_isRule_12 rfl (by decide) ?_
      refine mr_goto (t := 17) dX11_isRule_13 (by decide) ?_
      obtain rfl := Option.some.inj h
      exact mr_zreturn dX11_isRule_17 rfl (by decide)
def lp_X11_words_118 (p1 : Int32) (K : fS → Option (fS)) : Nat → Int32 → fS → Option (fS)
  | 0, _, _ => none
  | n + 1, p3, S0 =>
    (gI S0 157 158 (2 : Int32)).bind fun a49 =>
    if a49 ≤ p3 then (K S0) else
    ((gL S0 158 8 p3).bind fun a53 =>
    (gL S0 158 8 p1).bind fun a56 =>
    if a53 ≤ a56 then ((gL S0 158 8 p3).bind fun a60 =>
    (gL S0 158 8 p1).bind fun a63 =>
    if a63 ≤ a60 then (lp_X11_words_118 p1 K n (p3 + (1 : Int32)) S0) else
    ((sL S0 156 8 (7 : Int32) (0 : Int64)).bind fun S67 =>
    lp_X11_words_118 p1 K n (p3 + (1 : Int32)) S67)) else
    ((sL S0 156 8 (6 : Int32) (0 : Int64)).bind fun S70 =>
    (gL S70 158 8 p3).bind fun a73 =>
    (gL S70 158 8 p1).bind fun a76 =>
    if a76 ≤ a73 then (lp_X11_words_118 p1 K n (p3 + (1 : Int32)) S70) else
    ((sL S70 156 8 (7 : Int32) (0 : Int64)).bind fun S80 =>
    lp_X11_words_118 p1 K n (p3 + (1 : Int32)) S80)))
set_option maxHeartbeats 4000000 in
set_option maxRecDepth 100000 in
theorem ok_lp_X11_words_118 {X : mm_C} {RR : Nat → Nat → Option Nat} (hR : RRok RR) {p1 : Int32}  {K : fS → Option (fS)} {r : fS} (hK : ∀ (Sk : fS), K Sk = some r → mr X 2 mY_X11_words 182 [] [] (MM RR Sk) (none, MM RR r)) : ∀ (n : Nat) (p3 : Int32) (S0 : fS), lp_X11_words_118 p1 K n p3 S0 = some r → mr X 2 mY_X11_words 118 [(0, .ref 145), (1, .int p1), (3, .int p3)] [] (MM RR S0) (none, MM RR r) := by
  intro n
  induction n with
  | zero => intro p3 S0 h; exact mm_no h
  | succ n ih =>
    intro p3 S0 h
    unfold lp_X11_words_118 at h
    refine mr_iload_n (pc' := 119) dX11_words_118 rfl rfl ?_
    refine mr_aload_n (pc' := 120) dX11_words_119 rfl rfl ?_
    refine mr_getR (pc' := 123) (ci := 11) (j := 25) (b := 157) hR dX11_words_120 rfl rfl rfl (by decide) (by decide) (by decide) rfl rfl ?_
    refine mr_iconst (pc' := 124) (v := (2 : Int32)) dX11_words_123 rfl (by decide) ?_
    obtain ⟨a49, g50, h51⟩ := Option.bind_eq_some_iff.mp h
    refine mr_iald (pc' := 125) dX11_words_124 rfl rfl rfl g50 ?_
    by_cases c52 : a49 ≤ p3
    · rw [if_pos c52] at h51
      refine mr_icmp_ge_t (t := 182) dX11_words_125 (by decide) c52 ?_
      exact mr_sub [] trivial rfl (hK _  h51)
    · rw [if_neg c52] at h51
      refine mr_icmp_ge_f (t := 182) (pc' := 128) dX11_words_125 (by decide) rfl c52 ?_
      refine mr_aload_n (pc' := 129) dX11_words_128 rfl rfl ?_
      refine mr_getR (pc' := 132) (ci := 11) (j := 26) (b := 158) hR dX11_words_129 rfl rfl rfl (by decide) (by decide) (by decide) rfl rfl ?_
      refine mr_iload_n (pc' := 133) dX11_words_132 rfl rfl ?_
      obtain ⟨a53, g54, h55⟩ := Option.bind_eq_some_iff.mp h51
      refine mr_lald (pc' := 134) dX11_words_133 rfl rfl rfl g54 ?_
      refine mr_aload_n (pc' := 135) dX11_words_134 rfl rfl ?_
      refine mr_getR (pc' := 138) (ci := 11) (j := 26) (b := 158) hR dX11_words_135 rfl rfl rfl (by decide) (by decide) (by decide) rfl rfl ?_
      refine mr_iload_n (pc' := 139) dX11_words_138 rfl rfl ?_
      obtain ⟨a56, g57, h58⟩ := Option.bind_eq_some_iff.mp h55
      refine mr_lald (pc' := 140) dX11_words_139 rfl rfl rfl g57 ?_
      by_cases c59 : a53 ≤ a56
      · rw [if_pos c59] at h58
        refine mr_lcmp_le_t (t := 152) dX11_words_140 rfl dX11_words_141 (by decide) c59 ?_
        refine mr_aload_n (pc' := 153) dX11_words_152 rfl rfl ?_
        refine mr_getR (pc' := 156) (ci := 11) (j := 26) (b := 158) hR dX11_words_153 rfl rfl rfl (by decide) (by decide) (by decide) rfl rfl ?_
        refine mr_iload_n (pc' := 157) dX11_words_156 rfl rfl ?_
        obtain ⟨a60, g61, h62⟩ := Option.bind_eq_some_iff.mp h58
        refine mr_lald (pc' := 158) dX11_words_157 rfl rfl rfl g61 ?_
        refine mr_aload_n (pc' := 159) dX11_words_158 rfl rfl ?_
        refine mr_getR (pc' := 162) (ci := 11) (j := 26) (b := 158) hR dX11_words_159 rfl rfl rfl (by decide) (by decide) (by decide) rfl rfl ?_
        refine mr_iload_n (pc' := 163) dX11_words_162 rfl rfl ?_
        obtain ⟨a63, g64, h65⟩ := Option.bind_eq_some_iff.mp h62
        refine mr_lald (pc' := 164) dX11_words_163 rfl rfl rfl g64 ?_
        by_cases c66 : a63 ≤ a60
        · rw [if_pos c66] at h65
          refine mr_lcmp_ge_t (t := 176) dX11_words_164 rfl dX11_words_165 (by decide) c66 ?_
          refine mr_iinc (pc' := 179) (x' := (p3 + (1 : Int32))) (lv' := [(3, .int (p3 + (1 : Int32))), (0, .ref 145), (1, .int p1)]) dX11_words_176 rfl (by decide) rfl rfl rfl ?_
          refine mr_goto (t := 118) dX11_words_179 (by decide) ?_
          exact mr_sub [(0, .ref 145), (1, .int p1), (3, .int (p3 + (1 : Int32)))] ⟨rfl, rfl, rfl, trivial⟩ rfl (ih _ _  h65)
        · rw [if_neg c66] at h65
          refine mr_lcmp_ge_f (t := 176) (pc' := 168) dX11_words_164 rfl dX11_words_165 (by decide) rfl c66 ?_
          refine mr_aload_n (pc' := 169) dX11_words_168 rfl rfl ?_
          refine mr_getR (pc' := 172) (ci := 11) (j := 24) (b := 156) hR dX11_words_169 rfl rfl rfl (by decide) (by decide) (by decide) rfl rfl ?_
          refine mr_bipush (pc' := 174) (v := (7 : Int32)) dX11_words_172 rfl (by decide) ?_
          refine mr_lconst (pc' := 175) (v := (0 : Int64)) dX11_words_174 rfl (by decide) ?_
          obtain ⟨S67, g68, h69⟩ := Option.bind_eq_some_iff.mp h65
          refine mr_last (pc' := 176) dX11_words_175 rfl rfl rfl g68 ?_
          refine mr_iinc (pc' := 179) (x' := (p3 + (1 : Int32))) (lv' := [(3, .int (p3 + (1 : Int32))), (0, .ref 145), (1, .int p1)]) dX11_words_176 rfl (by decide) rfl rfl rfl ?_
          refine mr_goto (t := 118) dX11_words_179 (by decide) ?_
          exact mr_sub [(0, .ref 145), (1, .int p1), (3, .int (p3 + (1 : Int32)))] ⟨rfl, rfl, rfl, trivial⟩ rfl (ih _ _  h69)
      · rw [if_neg c59] at h58
        refine mr_lcmp_le_f (t := 152) (pc' := 144) dX11_words_140 rfl dX11_words_141 (by decide) rfl c59 ?_
        refine mr_aload_n (pc' := 145) dX11_words_144 rfl rfl ?_
        refine mr_getR (pc' := 148) (ci := 11) (j := 24) (b := 156) hR dX11_words_145 rfl rfl rfl (by decide) (by decide) (by decide) rfl rfl ?_
        refine mr_bipush (pc' := 150) (v := (6 : Int32)) dX11_words_148 rfl (by decide) ?_
        refine mr_lconst (pc' := 151) (v := (0 : Int64)) dX11_words_150 rfl (by decide) ?_
        obtain ⟨S70, g71, h72⟩ := Option.bind_eq_some_iff.mp h58
        refine mr_last (pc' := 152) dX11_words_151 rfl rfl rfl g71 ?_
        refine mr_aload_n (pc' := 153) dX11_words_152 rfl rfl ?_
        refine mr_getR (pc' := 156) (ci := 11) (j := 26) (b := 158) hR dX11_words_153 rfl rfl rfl (by decide) (by decide) (by decide) rfl rfl ?_
        refine mr_iload_n (pc' := 157) dX11_words_156 rfl rfl ?_
        obtain ⟨a73, g74, h75⟩ := Option.bind_eq_some_iff.mp h72
        refine mr_lald (pc' := 158) dX11_words_157 rfl rfl rfl g74 ?_
        refine mr_aload_n (pc' := 159) dX11_words_158 rfl rfl ?_
        refine mr_getR (pc' := 162) (ci := 11) (j := 26) (b := 158) hR dX11_words_159 rfl rfl rfl (by decide) (by decide) (by decide) rfl rfl ?_
        refine mr_iload_n (pc' := 163) dX11_words_162 rfl rfl ?_
        obtain ⟨a76, g77, h78⟩ := Option.bind_eq_some_iff.mp h75
        refine mr_lald (pc' := 164) dX11_words_163 rfl rfl rfl g77 ?_
        by_cases c79 : a76 ≤ a73
        · rw [if_pos c79] at h78
          refine mr_lcmp_ge_t (t := 176) dX11_words_164 rfl dX11_words_165 (by decide) c79 ?_
          refine mr_iinc (pc' := 179) (x' := (p3 + (1 : Int32))) (lv' := [(3, .int (p3 + (1 : Int32))), (0, .ref 145), (1, .int p1)]) dX11_words_176 rfl (by decide) rfl rfl rfl ?_
          refine mr_goto (t := 118) dX11_words_179 (by decide) ?_
          exact mr_sub [(0, .ref 145), (1, .int p1), (3, .int (p3 + (1 : Int32)))] ⟨rfl, rfl, rfl, trivial⟩ rfl (ih _ _  h78)
        · rw [if_neg c79] at h78
          refine mr_lcmp_ge_f (t := 176) (pc' := 168) dX11_words_164 rfl dX11_words_165 (by decide) rfl c79 ?_
          refine mr_aload_n (pc' := 169) dX11_words_168 rfl rfl ?_
          refine mr_getR (pc' := 172) (ci := 11) (j := 24) (b := 156) hR dX11_words_169 rfl rfl rfl (by decide) (by decide) (by decide) rfl rfl ?_
          refine mr_bipush (pc' := 174) (v := (7 : Int32)) dX11_words_172 rfl (by decide) ?_
          refine mr_lconst (pc' := 175) (v := (0 : Int64)) dX11_words_174 rfl (by decide) ?_
          obtain ⟨S80, g81, h82⟩ := Option.bind_eq_some_iff.mp h78
          refine mr_last (pc' := 176) dX11_words_175 rfl rfl rfl g81 ?_
          refine mr_iinc (pc' := 179) (x' := (p3 + (1 : Int32))) (lv' := [(3, .int (p3 + (1 : Int32))), (0, .ref 145), (1, .int p1)]) dX11_words_176 rfl (by decide) rfl rfl rfl ?_
          refine mr_goto (t := 118) dX11_words_179 (by decide) ?_
          exact mr_sub [(0, .ref 145), (1, .int p1), (3, .int (p3 + (1 : Int32)))] ⟨rfl, rfl, rfl, trivial⟩ rfl (ih _ _  h82)
def f_X11_words (v1 : Int32) (S : fS) : Option (fS) :=
  (f_X11_thingOf v1 (0 : Int32) S).bind fun q1 =>
  (gI S 157 158 (3 : Int32)).bind fun a4 =>
  (sL S 156 8 (0 : Int32) (Int32.toInt64 a4)).bind fun S7 =>
  (sL S7 156 8 (1 : Int32) (Int32.toInt64 v1)).bind fun S10 =>
  (sL S10 156 8 (2 : Int32) (Int32.toInt64 q1)).bind fun S13 =>
  (gL S13 158 8 v1).bind fun a16 =>
  (dL a16 (232792560 : Int64)).bind fun a19 =>
  (sL S13 156 8 (3 : Int32) a19).bind fun S22 =>
  (f_X11_standing q1 S22).bind fun q25 =>
  (sL S22 156 8 (4 : Int32) (Int32.toInt64 q25)).bind fun S28 =>
  (gI S28 157 158 ((10 : Int32) + ((2 : Int32) * q1))).bind fun a31 =>
  (gI S28 157 158 (((10 : Int32) + ((2 : Int32) * q1)) + (1 : Int32))).bind fun a34 =>
  (dI ((1000 : Int32) * a31) a34).bind fun a37 =>
  (sL S28 156 8 (5 : Int32) (Int32.toInt64 a37)).bind fun S40 =>
  (sL S40 156 8 (6 : Int32) (1 : Int64)).bind fun S43 =>
  (sL S43 156 8 (7 : Int32) (1 : Int64)).bind fun S46 =>
  lp_X11_words_118 v1 (fun S83 => some S83) FU (0 : Int32) S46
set_option maxHeartbeats 4000000 in
set_option maxRecDepth 100000 in
theorem ok_X11_words {X : mm_C} {RR : Nat → Nat → Option Nat} (hR : RRok RR) {v1 : Int32}  {S : fS} {r : fS} (h : f_X11_words v1 S = some r) : mr X 2 mY_X11_words 0 (lv_args 0 [.ref 145, .int v1]) [] (MM RR S) (none, MM RR r) := by
  unfold f_X11_words at h
  show mr X _ _ 0 [(0, .ref 145), (1, .int v1)] [] (MM RR S) _
  refine mr_aload_n (pc' := 1) dX11_words_0 rfl rfl ?_
  refine mr_iload_n (pc' := 2) dX11_words_1 rfl rfl ?_
  refine mr_iconst (pc' := 3) (v := (0 : Int32)) dX11_words_2 rfl (by decide) ?_
  obtain ⟨q1, g2, h3⟩ := Option.bind_eq_some_iff.mp h
  refine mr_cv (pc' := 6) (a := 145) (d1 := 0) dX11_words_3 rfl rfl rfl rfl rfl rfl (by decide) rfl (by decide) (ok_X11_thingOf hR  g2) ?_
  show mr X _ _ 6 _ [.int q1] (MM RR S) _
  refine mr_istore_n (pc' := 7) (lv' := [(2, .int q1), (0, .ref 145), (1, .int v1)]) dX11_words_6 rfl (by decide) rfl ?_
  refine mr_aload_n (pc' := 8) dX11_words_7 rfl rfl ?_
  refine mr_getR (pc' := 11) (ci := 11) (j := 24) (b := 156) hR dX11_words_8 rfl rfl rfl (by decide) (by decide) (by decide) rfl rfl ?_
  refine mr_iconst (pc' := 12) (v := (0 : Int32)) dX11_words_11 rfl (by decide) ?_
  refine mr_aload_n (pc' := 13) dX11_words_12 rfl rfl ?_
  refine mr_getR (pc' := 16) (ci := 11) (j := 25) (b := 157) hR dX11_words_13 rfl rfl rfl (by decide) (by decide) (by decide) rfl rfl ?_
  refine mr_iconst (pc' := 17) (v := (3 : Int32)) dX11_words_16 rfl (by decide) ?_
  obtain ⟨a4, g5, h6⟩ := Option.bind_eq_some_iff.mp h3
  refine mr_iald (pc' := 18) dX11_words_17 rfl rfl rfl g5 ?_
  refine mr_i2l (pc' := 19) dX11_words_18 rfl ?_
  obtain ⟨S7, g8, h9⟩ := Option.bind_eq_some_iff.mp h6
  refine mr_last (pc' := 20) dX11_words_19 rfl rfl rfl g8 ?_
  refine mr_aload_n (pc' := 21) dX11_words_20 rfl rfl ?_
  refine mr_getR (pc' := 24) (ci := 11) (j := 24) (b := 156) hR dX11_words_21 rfl rfl rfl (by decide) (by decide) (by decide) rfl rfl ?_
  refine mr_iconst (pc' := 25) (v := (1 : Int32)) dX11_words_24 rfl (by decide) ?_
  refine mr_iload_n (pc' := 26) dX11_words_25 rfl rfl ?_
  refine mr_i2l (pc' := 27) dX11_words_26 rfl ?_
  obtain ⟨S10, g11, h12⟩ := Option.bind_eq_some_iff.mp h9
  refine mr_last (pc' := 28) dX11_words_27 rfl rfl rfl g11 ?_
  refine mr_aload_n (pc' := 29) dX11_words_28 rfl rfl ?_
  refine mr_getR (pc' := 32) (ci := 11) (j := 24) (b := 156) hR dX11_words_29 rfl rfl rfl (by decide) (by decide) (by decide) rfl rfl ?_
  refine mr_iconst (pc' := 33) (v := (2 : Int32)) dX11_words_32 rfl (by decide) ?_
  refine mr_iload_n (pc' := 34) dX11_words_33 rfl rfl ?_
  refine mr_i2l (pc' := 35) dX11_words_34 rfl ?_
  obtain ⟨S13, g14, h15⟩ := Option.bind_eq_some_iff.mp h12
  refine mr_last (pc' := 36) dX11_words_35 rfl rfl rfl g14 ?_
  refine mr_aload_n (pc' := 37) dX11_words_36 rfl rfl ?_
  refine mr_getR (pc' := 40) (ci := 11) (j := 24) (b := 156) hR dX11_words_37 rfl rfl rfl (by decide) (by decide) (by decide) rfl rfl ?_
  refine mr_iconst (pc' := 41) (v := (3 : Int32)) dX11_words_40 rfl (by decide) ?_
  refine mr_aload_n (pc' := 42) dX11_words_41 rfl rfl ?_
  refine mr_getR (pc' := 45) (ci := 11) (j := 26) (b := 158) hR dX11_words_42 rfl rfl rfl (by decide) (by decide) (by decide) rfl rfl ?_
  refine mr_iload_n (pc' := 46) dX11_words_45 rfl rfl ?_
  obtain ⟨a16, g17, h18⟩ := Option.bind_eq_some_iff.mp h15
  refine mr_lald (pc' := 47) dX11_words_46 rfl rfl rfl g17 ?_
  refine mr_ldc2 (pc' := 50) (v := (232792560 : Int64)) dX11_words_47 rfl rfl ?_
  obtain ⟨a19, g20, h21⟩ := Option.bind_eq_some_iff.mp h18
  refine mr_ldiv (pc' := 51) dX11_words_50 rfl g20 ?_
  obtain ⟨S22, g23, h24⟩ := Option.bind_eq_some_iff.mp h21
  refine mr_last (pc' := 52) dX11_words_51 rfl rfl rfl g23 ?_
  refine mr_aload_n (pc' := 53) dX11_words_52 rfl rfl ?_
  refine mr_getR (pc' := 56) (ci := 11) (j := 24) (b := 156) hR dX11_words_53 rfl rfl rfl (by decide) (by decide) (by decide) rfl rfl ?_
  refine mr_iconst (pc' := 57) (v := (4 : Int32)) dX11_words_56 rfl (by decide) ?_
  refine mr_aload_n (pc' := 58) dX11_words_57 rfl rfl ?_
  refine mr_iload_n (pc' := 59) dX11_words_58 rfl rfl ?_
  obtain ⟨q25, g26, h27⟩ := Option.bind_eq_some_iff.mp h24
  refine mr_cv (pc' := 62) (a := 145) (d1 := 1) dX11_words_59 rfl rfl rfl rfl rfl rfl (by decide) rfl (by decide) (ok_X11_standing hR  g26) ?_
  show mr X _ _ 62 _ [.int q25, .int (4 : Int32), .ref 156] (MM RR S22) _
  refine mr_i2l (pc' := 63) dX11_words_62 rfl ?_
  obtain ⟨S28, g29, h30⟩ := Option.bind_eq_some_iff.mp h27
  refine mr_last (pc' := 64) dX11_words_63 rfl rfl rfl g29 ?_
  refine mr_aload_n (pc' := 65) dX11_words_64 rfl rfl ?_
  refine mr_getR (pc' := 68) (ci := 11) (j := 24) (b := 156) hR dX11_words_65 rfl rfl rfl (by decide) (by decide) (by decide) rfl rfl ?_
  refine mr_iconst (pc' := 69) (v := (5 : Int32)) dX11_words_68 rfl (by decide) ?_
  refine mr_sipush (pc' := 72) (v := (1000 : Int32)) dX11_words_69 rfl (by decide) ?_
  refine mr_aload_n (pc' := 73) dX11_words_72 rfl rfl ?_
  refine mr_getR (pc' := 76) (ci := 11) (j := 25) (b := 157) hR dX11_words_73 rfl rfl rfl (by decide) (by decide) (by decide) rfl rfl ?_
  refine mr_bipush (pc' := 78) (v := (10 : Int32)) dX11_words_76 rfl (by decide) ?_
  refine mr_iconst (pc' := 79) (v := (2 : Int32)) dX11_words_78 rfl (by decide) ?_
  refine mr_iload_n (pc' := 80) dX11_words_79 rfl rfl ?_
  refine mr_imul (pc' := 81) dX11_words_80 rfl ?_
  refine mr_iadd (pc' := 82) dX11_words_81 rfl ?_
  obtain ⟨a31, g32, h33⟩ := Option.bind_eq_some_iff.mp h30
  refine mr_iald (pc' := 83) dX11_words_82 rfl rfl rfl g32 ?_
  refine mr_imul (pc' := 84) dX11_words_83 rfl ?_
  refine mr_aload_n (pc' := 85) dX11_words_84 rfl rfl ?_
  refine mr_getR (pc' := 88) (ci := 11) (j := 25) (b := 157) hR dX11_words_85 rfl rfl rfl (by decide) (by decide) (by decide) rfl rfl ?_
  refine mr_bipush (pc' := 90) (v := (10 : Int32)) dX11_words_88 rfl (by decide) ?_
  refine mr_iconst (pc' := 91) (v := (2 : Int32)) dX11_words_90 rfl (by decide) ?_
  refine mr_iload_n (pc' := 92) dX11_words_91 rfl rfl ?_
  refine mr_imul (pc' := 93) dX11_words_92 rfl ?_
  refine mr_iadd (pc' := 94) dX11_words_93 rfl ?_
  refine mr_iconst (pc' := 95) (v := (1 : Int32)) dX11_words_94 rfl (by decide) ?_
  refine mr_iadd (pc' := 96) dX11_words_95 rfl ?_
  obtain ⟨a34, g35, h36⟩ := Option.bind_eq_some_iff.mp h33
  refine mr_iald (pc' := 97) dX11_words_96 rfl rfl rfl g35 ?_
  obtain ⟨a37, g38, h39⟩ := Option.bind_eq_some_iff.mp h36
  refine mr_idiv (pc' := 98) dX11_words_97 rfl g38 ?_
  refine mr_i2l (pc' := 99) dX11_words_98 rfl ?_
  obtain ⟨S40, g41, h42⟩ := Option.bind_eq_some_iff.mp h39
  refine mr_last (pc' := 100) dX11_words_99 rfl rfl rfl g41 ?_
  refine mr_aload_n (pc' := 101) dX11_words_100 rfl rfl ?_
  refine mr_getR (pc' := 104) (ci := 11) (j := 24) (b := 156) hR dX11_words_101 rfl rfl rfl (by decide) (by decide) (by decide) rfl rfl ?_
  refine mr_bipush (pc' := 106) (v := (6 : Int32)) dX11_words_104 rfl (by decide) ?_
  refine mr_lconst (pc' := 107) (v := (1 : Int64)) dX11_words_106 rfl (by decide) ?_
  obtain ⟨S43, g44, h45⟩ := Option.bind_eq_some_iff.mp h42
  refine mr_last (pc' := 108) dX11_words_107 rfl rfl rfl g44 ?_
  refine mr_aload_n (pc' := 109) dX11_words_108 rfl rfl ?_
  refine mr_getR (pc' := 112) (ci := 11) (j := 24) (b := 156) hR dX11_words_109 rfl rfl rfl (by decide) (by decide) (by decide) rfl rfl ?_
  refine mr_bipush (pc' := 114) (v := (7 : Int32)) dX11_words_112 rfl (by decide) ?_
  refine mr_lconst (pc' := 115) (v := (1 : Int64)) dX11_words_114 rfl (by decide) ?_
  obtain ⟨S46, g47, h48⟩ := Option.bind_eq_some_iff.mp h45
  refine mr_last (pc' := 116) dX11_words_115 rfl rfl rfl g47 ?_
  refine mr_iconst (pc' := 117) (v := (0 : Int32)) dX11_words_116 rfl (by decide) ?_
  refine mr_istore_n (pc' := 118) (lv' := [(3, .int (0 : Int32)), (2, .int q1), (0, .ref 145), (1, .int v1)]) dX11_words_117 rfl (by decide) rfl ?_
  refine mr_sub [(0, .ref 145), (1, .int v1), (3, .int (0 : Int32))] ⟨rfl, rfl, rfl, trivial⟩ rfl ?_
  refine ok_lp_X11_words_118 hR  (fun S83 h84 => ?_) FU _ _  h48
  obtain rfl := Option.some.inj h84
  exact mr_return dX11_words_182 rfl
def f_X11_push (v1 : Int64) (S : fS) : Option (fS) :=
  (sL S 155 64 (S.1 145 23) v1).bind fun S1 =>
  (some (pI S1 145 23 ((S1.1 145 23) + (1 : Int32)))).bind fun S4 =>
  some S4
set_option maxHeartbeats 4000000 in
set_option maxRecDepth 100000 in
theorem ok_X11_push {X : mm_C} {RR : Nat → Nat → Option Nat} (hR : RRok RR) {v1 : Int64}  {S : fS} {r : fS} (h : f_X11_push v1 S = some r) : mr X 0 mY_X11_push 0 (lv_args 0 [.ref 145, .long v1]) [] (MM RR S) (none, MM RR r) := by
  unfold f_X11_push at h
  show mr X _ _ 0 [(0, .ref 145), (1, .long v1)] [] (MM RR S) _
  refine mr_aload_n (pc' := 1) dX11_push_0 rfl rfl ?_
  refine mr_getR (pc' := 4) (ci := 11) (j := 22) (b := 155) hR dX11_push_1 rfl rfl rfl (by decide) (by decide) (by decide) rfl rfl ?_
  refine mr_aload_n (pc' := 5) dX11_push_4 rfl rfl ?_
  refine mr_getI (pc' := 8) (ci := 11) (j := 23) dX11_push_5 rfl rfl rfl (by decide) (by decide) rfl ?_
  refine mr_lload_n (pc' := 9) dX11_push_8 rfl rfl ?_
  obtain ⟨S1, g2, h3⟩ := Option.bind_eq_some_iff.mp h
  refine mr_last (pc' := 10) dX11_push_9 rfl rfl rfl g2 ?_
  refine mr_aload_n (pc' := 11) dX11_push_10 rfl rfl ?_
  refine mr_dup_ref (pc' := 12) dX11_push_11 rfl ?_
  refine mr_getI (pc' := 15) (ci := 11) (j := 23) dX11_push_12 rfl rfl rfl (by decide) (by decide) rfl ?_
  refine mr_iconst (pc' := 16) (v := (1 : Int32)) dX11_push_15 rfl (by decide) ?_
  refine mr_iadd (pc' := 17) dX11_push_16 rfl ?_
  obtain ⟨S4, g5, h6⟩ := Option.bind_eq_some_iff.mp h3
  refine mr_putI (pc' := 20) (ci := 11) (j := 23) dX11_push_17 rfl rfl rfl (by decide) (by decide) rfl rfl ?_
  rw [Option.some.inj g5]
  obtain rfl := Option.some.inj h6
  exact mr_return dX11_push_20 rfl
def f_X11_pop  (S : fS) : Option (Int64 × fS) :=
  (some (pI S 145 23 ((S.1 145 23) - (1 : Int32)))).bind fun S1 =>
  (gL S1 155 64 (S1.1 145 23)).bind fun a4 =>
  some (a4, S1)
set_option maxHeartbeats 4000000 in
set_option maxRecDepth 100000 in
theorem ok_X11_pop {X : mm_C} {RR : Nat → Nat → Option Nat} (hR : RRok RR)   {S : fS} {r : Int64 × fS} (h : f_X11_pop  S = some r) : mr X 0 mY_X11_pop 0 (lv_args 0 [.ref 145]) [] (MM RR S) (some (.long r.1), MM RR r.2) := by
  unfold f_X11_pop at h
  show mr X _ _ 0 [(0, .ref 145)] [] (MM RR S) _
  refine mr_aload_n (pc' := 1) dX11_pop_0 rfl rfl ?_
  refine mr_dup_ref (pc' := 2) dX11_pop_1 rfl ?_
  refine mr_getI (pc' := 5) (ci := 11) (j := 23) dX11_pop_2 rfl rfl rfl (by decide) (by decide) rfl ?_
  refine mr_iconst (pc' := 6) (v := (1 : Int32)) dX11_pop_5 rfl (by decide) ?_
  refine mr_isub (pc' := 7) dX11_pop_6 rfl ?_
  obtain ⟨S1, g2, h3⟩ := Option.bind_eq_some_iff.mp h
  refine mr_putI (pc' := 10) (ci := 11) (j := 23) dX11_pop_7 rfl rfl rfl (by decide) (by decide) rfl rfl ?_
  rw [Option.some.inj g2]
  refine mr_aload_n (pc' := 11) dX11_pop_10 rfl rfl ?_
  refine mr_getR (pc' := 14) (ci := 11) (j := 22) (b := 155) hR dX11_pop_11 rfl rfl rfl (by decide) (by decide) (by decide) rfl rfl ?_
  refine mr_aload_n (pc' := 15) dX11_pop_14 rfl rfl ?_
  refine mr_getI (pc' := 18) (ci := 11) (j := 23) dX11_pop_15 rfl rfl rfl (by decide) (by decide) rfl ?_
  obtain ⟨a4, g5, h6⟩ := Option.bind_eq_some_iff.mp h3
  refine mr_lald (pc' := 19) dX11_pop_18 rfl rfl rfl g5 ?_
  obtain rfl := Option.some.inj h6
  exact mr_lreturn dX11_pop_19 rfl
def f_X11_one (v0 : Int32) (v1 : Int64) (v3 : Int64) (S : fS) : Option (Int64) :=
  if v0 = (2 : Int32) then (some (v1 + v3)) else
  if v0 = (3 : Int32) then (some (v1 - v3)) else
  if v0 = (4 : Int32) then (some (v1 * v3)) else
  if v0 = (5 : Int32) then (if v3 = (0 : Int64) then (some (0 : Int64)) else
  ((dL v1 v3).bind fun a6 =>
  some a6)) else
  if v0 = (6 : Int32) then (if v3 ≤ v1 then (some (0 : Int64)) else
  (some (1 : Int64))) else
  if v0 = (7 : Int32) then (if v3 < v1 then (some (0 : Int64)) else
  (some (1 : Int64))) else
  if v0 = (8 : Int32) then (if v1 = v3 then (some (1 : Int64)) else
  (some (0 : Int64))) else
  if v0 = (9 : Int32) then (if v1 < v3 then (some (0 : Int64)) else
  (some (1 : Int64))) else
  if v0 = (10 : Int32) then (if v1 ≤ v3 then (some (0 : Int64)) else
  (some (1 : Int64))) else
  if v0 = (11 : Int32) then (some (v1 ||| v3)) else
  if v0 = (12 : Int32) then (some (v1 &&& v3)) else
  (some (v1 ||| v3))
set_option maxHeartbeats 4000000 in
set_option maxRecDepth 100000 in
theorem ok_X11_one {X : mm_C} {RR : Nat → Nat → Option Nat} (hR : RRok RR) {v0 : Int32} {v1 : Int64} {v3 : Int64}  {S : fS} {r : Int64} (h : f_X11_one v0 v1 v3 S = some r) : mr X 0 mY_X11_one 0 (lv_args 0 [.int v0, .long v1, .long v3]) [] (MM RR S) (some (.long r), MM RR S) := by
  unfold f_X11_one at h
  show mr X _ _ 0 [(0, .int v0), (1, .long v1), (3, .long v3)] [] (MM RR S) _
  refine mr_iload_n (pc' := 1) dX11_one_0 rfl rfl ?_
  by_cases c1 : v0 = (2 : Int32)
  · rw [if_pos c1] at h
    refine mr_sw_in (t := 60) (v := (2 : Int32)) dX11_one_1 c1 rfl ?_
    refine mr_lload_n (pc' := 61) dX11_one_60 rfl rfl ?_
    refine mr_lload_n (pc' := 62) dX11_one_61 rfl rfl ?_
    refine mr_ladd (pc' := 63) dX11_one_62 rfl ?_
    obtain rfl := Option.some.inj h
    exact mr_lreturn dX11_one_63 rfl
  rw [if_neg c1] at h
  by_cases c2 : v0 = (3 : Int32)
  · rw [if_pos c2] at h
    refine mr_sw_in (t := 64) (v := (3 : Int32)) dX11_one_1 c2 rfl ?_
    refine mr_lload_n (pc' := 65) dX11_one_64 rfl rfl ?_
    refine mr_lload_n (pc' := 66) dX11_one_65 rfl rfl ?_
    refine mr_lsub (pc' := 67) dX11_one_66 rfl ?_
    obtain rfl := Option.some.inj h
    exact mr_lreturn dX11_one_67 rfl
  rw [if_neg c2] at h
  by_cases c3 : v0 = (4 : Int32)
  · rw [if_pos c3] at h
    refine mr_sw_in (t := 68) (v := (4 : Int32)) dX11_one_1 c3 rfl ?_
    refine mr_lload_n (pc' := 69) dX11_one_68 rfl rfl ?_
    refine mr_lload_n (pc' := 70) dX11_one_69 rfl rfl ?_
    refine mr_lmul (pc' := 71) dX11_one_70 rfl ?_
    obtain rfl := Option.some.inj h
    exact mr_lreturn dX11_one_71 rfl
  rw [if_neg c3] at h
  by_cases c4 : v0 = (5 : Int32)
  · rw [if_pos c4] at h
    refine mr_sw_in (t := 72) (v := (5 : Int32)) dX11_one_1 c4 rfl ?_
    refine mr_lload_n (pc' := 73) dX11_one_72 rfl rfl ?_
    refine mr_lconst (pc' := 74) (v := (0 : Int64)) dX11_one_73 rfl (by decide) ?_
    by_cases c5 : v3 = (0 : Int64)
    · rw [if_pos c5] at h
      refine mr_lcmp_ne_f (t := 82) (pc' := 78) dX11_one_74 rfl dX11_one_75 (by decide) rfl (not_not_intro c5) ?_
      refine mr_lconst (pc' := 79) (v := (0 : Int64)) dX11_one_78 rfl (by decide) ?_
      refine mr_goto (t := 85) dX11_one_79 (by decide) ?_
      obtain rfl := Option.some.inj h
      exact mr_lreturn dX11_one_85 rfl
    · rw [if_neg c5] at h
      refine mr_lcmp_ne_t (t := 82) dX11_one_74 rfl dX11_one_75 (by decide) c5 ?_
      refine mr_lload_n (pc' := 83) dX11_one_82 rfl rfl ?_
      refine mr_lload_n (pc' := 84) dX11_one_83 rfl rfl ?_
      obtain ⟨a6, g7, h8⟩ := Option.bind_eq_some_iff.mp h
      refine mr_ldiv (pc' := 85) dX11_one_84 rfl g7 ?_
      obtain rfl := Option.some.inj h8
      exact mr_lreturn dX11_one_85 rfl
  rw [if_neg c4] at h
  by_cases c9 : v0 = (6 : Int32)
  · rw [if_pos c9] at h
    refine mr_sw_in (t := 86) (v := (6 : Int32)) dX11_one_1 c9 rfl ?_
    refine mr_lload_n (pc' := 87) dX11_one_86 rfl rfl ?_
    refine mr_lload_n (pc' := 88) dX11_one_87 rfl rfl ?_
    by_cases c10 : v3 ≤ v1
    · rw [if_pos c10] at h
      refine mr_lcmp_ge_t (t := 96) dX11_one_88 rfl dX11_one_89 (by decide) c10 ?_
      refine mr_lconst (pc' := 97) (v := (0 : Int64)) dX11_one_96 rfl (by decide) ?_
      obtain rfl := Option.some.inj h
      exact mr_lreturn dX11_one_97 rfl
    · rw [if_neg c10] at h
      refine mr_lcmp_ge_f (t := 96) (pc' := 92) dX11_one_88 rfl dX11_one_89 (by decide) rfl c10 ?_
      refine mr_lconst (pc' := 93) (v := (1 : Int64)) dX11_one_92 rfl (by decide) ?_
      refine mr_goto (t := 97) dX11_one_93 (by decide) ?_
      obtain rfl := Option.some.inj h
      exact mr_lreturn dX11_one_97 rfl
  rw [if_neg c9] at h
  by_cases c11 : v0 = (7 : Int32)
  · rw [if_pos c11] at h
    refine mr_sw_in (t := 98) (v := (7 : Int32)) dX11_one_1 c11 rfl ?_
    refine mr_lload_n (pc' := 99) dX11_one_98 rfl rfl ?_
    refine mr_lload_n (pc' := 100) dX11_one_99 rfl rfl ?_
    by_cases c12 : v3 < v1
    · rw [if_pos c12] at h
      refine mr_lcmp_gt_t (t := 108) dX11_one_100 rfl dX11_one_101 (by decide) c12 ?_
      refine mr_lconst (pc' := 109) (v := (0 : Int64)) dX11_one_108 rfl (by decide) ?_
      obtain rfl := Option.some.inj h
      exact mr_lreturn dX11_one_109 rfl
    · rw [if_neg c12] at h
      refine mr_lcmp_gt_f (t := 108) (pc' := 104) dX11_one_100 rfl dX11_one_101 (by decide) rfl c12 ?_
      refine mr_lconst (pc' := 105) (v := (1 : Int64)) dX11_one_104 rfl (by decide) ?_
      refine mr_goto (t := 109) dX11_one_105 (by decide) ?_
      obtain rfl := Option.some.inj h
      exact mr_lreturn dX11_one_109 rfl
  rw [if_neg c11] at h
  by_cases c13 : v0 = (8 : Int32)
  · rw [if_pos c13] at h
    refine mr_sw_in (t := 110) (v := (8 : Int32)) dX11_one_1 c13 rfl ?_
    refine mr_lload_n (pc' := 111) dX11_one_110 rfl rfl ?_
    refine mr_lload_n (pc' := 112) dX11_one_111 rfl rfl ?_
    by_cases c14 : v1 = v3
    · rw [if_pos c14] at h
      refine mr_lcmp_ne_f (t := 120) (pc' := 116) dX11_one_112 rfl dX11_one_113 (by decide) rfl (not_not_intro c14) ?_
      refine mr_lconst (pc' := 117) (v := (1 : Int64)) dX11_one_116 rfl (by decide) ?_
      refine mr_goto (t := 121) dX11_one_117 (by decide) ?_
      obtain rfl := Option.some.inj h
      exact mr_lreturn dX11_one_121 rfl
    · rw [if_neg c14] at h
      refine mr_lcmp_ne_t (t := 120) dX11_one_112 rfl dX11_one_113 (by decide) c14 ?_
      refine mr_lconst (pc' := 121) (v := (0 : Int64)) dX11_one_120 rfl (by decide) ?_
      obtain rfl := Option.some.inj h
      exact mr_lreturn dX11_one_121 rfl
  rw [if_neg c13] at h
  by_cases c15 : v0 = (9 : Int32)
  · rw [if_pos c15] at h
    refine mr_sw_in (t := 122) (v := (9 : Int32)) dX11_one_1 c15 rfl ?_
    refine mr_lload_n (pc' := 123) dX11_one_122 rfl rfl ?_
    refine mr_lload_n (pc' := 124) dX11_one_123 rfl rfl ?_
    by_cases c16 : v1 < v3
    · rw [if_pos c16] at h
      refine mr_lcmp_lt_t (t := 132) dX11_one_124 rfl dX11_one_125 (by decide) c16 ?_
      refine mr_lconst (pc' := 133) (v := (0 : Int64)) dX11_one_132 rfl (by decide) ?_
      obtain rfl := Option.some.inj h
      exact mr_lreturn dX11_one_133 rfl
    · rw [if_neg c16] at h
      refine mr_lcmp_lt_f (t := 132) (pc' := 128) dX11_one_124 rfl dX11_one_125 (by decide) rfl c16 ?_
      refine mr_lconst (pc' := 129) (v := (1 : Int64)) dX11_one_128 rfl (by decide) ?_
      refine mr_goto (t := 133) dX11_one_129 (by decide) ?_
      obtain rfl := Option.some.inj h
      exact mr_lreturn dX11_one_133 rfl
  rw [if_neg c15] at h
  by_cases c17 : v0 = (10 : Int32)
  · rw [if_pos c17] at h
    refine mr_sw_in (t := 134) (v := (10 : Int32)) dX11_one_1 c17 rfl ?_
    refine mr_lload_n (pc' := 135) dX11_one_134 rfl rfl ?_
    refine mr_lload_n (pc' := 136) dX11_one_135 rfl rfl ?_
    by_cases c18 : v1 ≤ v3
    · rw [if_pos c18] at h
      refine mr_lcmp_le_t (t := 144) dX11_one_136 rfl dX11_one_137 (by decide) c18 ?_
      refine mr_lconst (pc' := 145) (v := (0 : Int64)) dX11_one_144 rfl (by decide) ?_
      obtain rfl := Option.some.inj h
      exact mr_lreturn dX11_one_145 rfl
    · rw [if_neg c18] at h
      refine mr_lcmp_le_f (t := 144) (pc' := 140) dX11_one_136 rfl dX11_one_137 (by decide) rfl c18 ?_
      refine mr_lconst (pc' := 141) (v := (1 : Int64)) dX11_one_140 rfl (by decide) ?_
      refine mr_goto (t := 145) dX11_one_141 (by decide) ?_
      obtain rfl := Option.some.inj h
      exact mr_lreturn dX11_one_145 rfl
  rw [if_neg c17] at h
  by_cases c19 : v0 = (11 : Int32)
  · rw [if_pos c19] at h
    refine mr_sw_in (t := 150) (v := (11 : Int32)) dX11_one_1 c19 rfl ?_
    refine mr_lload_n (pc' := 151) dX11_one_150 rfl rfl ?_
    refine mr_lload_n (pc' := 152) dX11_one_151 rfl rfl ?_
    refine mr_lor (pc' := 153) dX11_one_152 rfl ?_
    obtain rfl := Option.some.inj h
    exact mr_lreturn dX11_one_153 rfl
  rw [if_neg c19] at h
  by_cases c20 : v0 = (12 : Int32)
  · rw [if_pos c20] at h
    refine mr_sw_in (t := 146) (v := (12 : Int32)) dX11_one_1 c20 rfl ?_
    refine mr_lload_n (pc' := 147) dX11_one_146 rfl rfl ?_
    refine mr_lload_n (pc' := 148) dX11_one_147 rfl rfl ?_
    refine mr_land (pc' := 149) dX11_one_148 rfl ?_
    obtain rfl := Option.some.inj h
    exact mr_lreturn dX11_one_149 rfl
  rw [if_neg c20] at h
  refine mr_sw_out (t := 150) dX11_one_1 (by have := i32ne c1 (k := 2) (by decide); have := i32ne c2 (k := 3) (by decide); have := i32ne c3 (k := 4) (by decide); have := i32ne c4 (k := 5) (by decide); have := i32ne c9 (k := 6) (by decide); have := i32ne c11 (k := 7) (by decide); have := i32ne c13 (k := 8) (by decide); have := i32ne c15 (k := 9) (by decide); have := i32ne c17 (k := 10) (by decide); have := i32ne c19 (k := 11) (by decide); have := i32ne c20 (k := 12) (by decide); omega) (by decide) ?_
  refine mr_lload_n (pc' := 151) dX11_one_150 rfl rfl ?_
  refine mr_lload_n (pc' := 152) dX11_one_151 rfl rfl ?_
  refine mr_lor (pc' := 153) dX11_one_152 rfl ?_
  obtain rfl := Option.some.inj h
  exact mr_lreturn dX11_one_153 rfl
def lp_X11_reckons_8 (p1 : Int32) (p3 : Int32) (K : fS → Option (Int64 × fS)) : Nat → Int32 → fS → Option (Int64 × fS)
  | 0, _, _ => none
  | n + 1, p4, S0 =>
    if p3 ≤ p4 then (K S0) else
    ((gI S0 147 2400 (((400 : Int32) * p1) + p4)).bind fun a5 =>
    (gI S0 147 2400 (((400 : Int32) * p1) + p4)).bind fun a8 =>
    if (a5 &&& (15 : Int32)) = (0 : Int32) then ((f_X11_push (Int32.toInt64 (a8 >>> ((4 : Int32) &&& 31))) S0).bind fun q38 =>
    lp_X11_reckons_8 p1 p3 K n (p4 + (1 : Int32)) q38) else
    (if (a5 &&& (15 : Int32)) = (1 : Int32) then ((gL S0 156 8 (a8 >>> ((4 : Int32) &&& 31))).bind fun a32 =>
    (f_X11_push a32 S0).bind fun q35 =>
    lp_X11_reckons_8 p1 p3 K n (p4 + (1 : Int32)) q35) else
    (if (a5 &&& (15 : Int32)) = (11 : Int32) then ((f_X11_pop  S0).bind fun q26 =>
    (f_X11_push ((1 : Int64) - q26.1) q26.2).bind fun q29 =>
    lp_X11_reckons_8 p1 p3 K n (p4 + (1 : Int32)) q29) else
    ((f_X11_pop  S0).bind fun q14 =>
    (f_X11_pop  q14.2).bind fun q17 =>
    (f_X11_one (a5 &&& (15 : Int32)) q17.1 q14.1 q17.2).bind fun q20 =>
    (f_X11_push q20 q17.2).bind fun q23 =>
    lp_X11_reckons_8 p1 p3 K n (p4 + (1 : Int32)) q23))))
set_option maxHeartbeats 4000000 in
set_option maxRecDepth 100000 in
theorem ok_lp_X11_reckons_8 {X : mm_C} {RR : Nat → Nat → Option Nat} (hR : RRok RR) {p1 : Int32} {p3 : Int32}  {K : fS → Option (Int64 × fS)} {r : Int64 × fS} (hK : ∀ (Sk : fS), K Sk = some r → mr X 1 mY_X11_reckons 135 [(0, .ref 145)] [] (MM RR Sk) (some (.long r.1), MM RR r.2)) : ∀ (n : Nat) (p4 : Int32) (S0 : fS), lp_X11_reckons_8 p1 p3 K n p4 S0 = some r → mr X 1 mY_X11_reckons 8 [(0, .ref 145), (1, .int p1), (3, .int p3), (4, .int p4)] [] (MM RR S0) (some (.long r.1), MM RR r.2) := by
  intro n
  induction n with
  | zero => intro p4 S0 h; exact mm_no h
  | succ n ih =>
    intro p4 S0 h
    unfold lp_X11_reckons_8 at h
    refine mr_iload (pc' := 10) dX11_reckons_8 rfl rfl ?_
    refine mr_iload_n (pc' := 11) dX11_reckons_10 rfl rfl ?_
    by_cases c4 : p3 ≤ p4
    · rw [if_pos c4] at h
      refine mr_icmp_ge_t (t := 135) dX11_reckons_11 (by decide) c4 ?_
      exact mr_sub [(0, .ref 145)] ⟨rfl, trivial⟩ rfl (hK _  h)
    · rw [if_neg c4] at h
      refine mr_icmp_ge_f (t := 135) (pc' := 14) dX11_reckons_11 (by decide) rfl c4 ?_
      refine mr_aload_n (pc' := 15) dX11_reckons_14 rfl rfl ?_
      refine mr_getR (pc' := 18) (ci := 11) (j := 3) (b := 147) hR dX11_reckons_15 rfl rfl rfl (by decide) (by decide) (by decide) rfl rfl ?_
      refine mr_sipush (pc' := 21) (v := (400 : Int32)) dX11_reckons_18 rfl (by decide) ?_
      refine mr_iload_n (pc' := 22) dX11_reckons_21 rfl rfl ?_
      refine mr_imul (pc' := 23) dX11_reckons_22 rfl ?_
      refine mr_iload (pc' := 25) dX11_reckons_23 rfl rfl ?_
      refine mr_iadd (pc' := 26) dX11_reckons_25 rfl ?_
      obtain ⟨a5, g6, h7⟩ := Option.bind_eq_some_iff.mp h
      refine mr_iald (pc' := 27) dX11_reckons_26 rfl rfl rfl g6 ?_
      refine mr_bipush (pc' := 29) (v := (15 : Int32)) dX11_reckons_27 rfl (by decide) ?_
      refine mr_iand (pc' := 30) dX11_reckons_29 rfl ?_
      refine mr_istore (pc' := 32) (lv' := [(5, .int (a5 &&& (15 : Int32))), (0, .ref 145), (1, .int p1), (3, .int p3), (4, .int p4)]) dX11_reckons_30 rfl (by decide) rfl ?_
      refine mr_aload_n (pc' := 33) dX11_reckons_32 rfl rfl ?_
      refine mr_getR (pc' := 36) (ci := 11) (j := 3) (b := 147) hR dX11_reckons_33 rfl rfl rfl (by decide) (by decide) (by decide) rfl rfl ?_
      refine mr_sipush (pc' := 39) (v := (400 : Int32)) dX11_reckons_36 rfl (by decide) ?_
      refine mr_iload_n (pc' := 40) dX11_reckons_39 rfl rfl ?_
      refine mr_imul (pc' := 41) dX11_reckons_40 rfl ?_
      refine mr_iload (pc' := 43) dX11_reckons_41 rfl rfl ?_
      refine mr_iadd (pc' := 44) dX11_reckons_43 rfl ?_
      obtain ⟨a8, g9, h10⟩ := Option.bind_eq_some_iff.mp h7
      refine mr_iald (pc' := 45) dX11_reckons_44 rfl rfl rfl g9 ?_
      refine mr_iconst (pc' := 46) (v := (4 : Int32)) dX11_reckons_45 rfl (by decide) ?_
      refine mr_ishr (pc' := 47) dX11_reckons_46 rfl ?_
      refine mr_istore (pc' := 49) (lv' := [(6, .int (a8 >>> ((4 : Int32) &&& 31))), (5, .int (a5 &&& (15 : Int32))), (0, .ref 145), (1, .int p1), (3, .int p3), (4, .int p4)]) dX11_reckons_47 rfl (by decide) rfl ?_
      refine mr_iload (pc' := 51) dX11_reckons_49 rfl rfl ?_
      by_cases c11 : (a5 &&& (15 : Int32)) = (0 : Int32)
      · rw [if_pos c11] at h10
        refine mr_if_ne_f (t := 64) (pc' := 54) dX11_reckons_51 (by decide) rfl (not_not_intro c11) ?_
        refine mr_aload_n (pc' := 55) dX11_reckons_54 rfl rfl ?_
        refine mr_iload (pc' := 57) dX11_reckons_55 rfl rfl ?_
        refine mr_i2l (pc' := 58) dX11_reckons_57 rfl ?_
        obtain ⟨q38, g39, h40⟩ := Option.bind_eq_some_iff.mp h10
        refine mr_cv (pc' := 61) (a := 145) (d1 := 0) dX11_reckons_58 rfl rfl rfl rfl rfl rfl (by decide) rfl (by decide) (ok_X11_push hR  g39) ?_
        show mr X _ _ 61 _ [] (MM RR q38) _
        refine mr_goto (t := 129) dX11_reckons_61 (by decide) ?_
        refine mr_iinc (pc' := 132) (x' := (p4 + (1 : Int32))) (lv' := [(4, .int (p4 + (1 : Int32))), (6, .int (a8 >>> ((4 : Int32) &&& 31))), (5, .int (a5 &&& (15 : Int32))), (0, .ref 145), (1, .int p1), (3, .int p3)]) dX11_reckons_129 rfl (by decide) rfl rfl rfl ?_
        refine mr_goto (t := 8) dX11_reckons_132 (by decide) ?_
        exact mr_sub [(0, .ref 145), (1, .int p1), (3, .int p3), (4, .int (p4 + (1 : Int32)))] ⟨rfl, rfl, rfl, rfl, trivial⟩ rfl (ih _ _  h40)
      · rw [if_neg c11] at h10
        refine mr_if_ne_t (t := 64) dX11_reckons_51 (by decide) c11 ?_
        refine mr_iload (pc' := 66) dX11_reckons_64 rfl rfl ?_
        refine mr_iconst (pc' := 67) (v := (1 : Int32)) dX11_reckons_66 rfl (by decide) ?_
        by_cases c12 : (a5 &&& (15 : Int32)) = (1 : Int32)
        · rw [if_pos c12] at h10
          refine mr_icmp_ne_f (t := 84) (pc' := 70) dX11_reckons_67 (by decide) rfl (not_not_intro c12) ?_
          refine mr_aload_n (pc' := 71) dX11_reckons_70 rfl rfl ?_
          refine mr_aload_n (pc' := 72) dX11_reckons_71 rfl rfl ?_
          refine mr_getR (pc' := 75) (ci := 11) (j := 24) (b := 156) hR dX11_reckons_72 rfl rfl rfl (by decide) (by decide) (by decide) rfl rfl ?_
          refine mr_iload (pc' := 77) dX11_reckons_75 rfl rfl ?_
          obtain ⟨a32, g33, h34⟩ := Option.bind_eq_some_iff.mp h10
          refine mr_lald (pc' := 78) dX11_reckons_77 rfl rfl rfl g33 ?_
          obtain ⟨q35, g36, h37⟩ := Option.bind_eq_some_iff.mp h34
          refine mr_cv (pc' := 81) (a := 145) (d1 := 0) dX11_reckons_78 rfl rfl rfl rfl rfl rfl (by decide) rfl (by decide) (ok_X11_push hR  g36) ?_
          show mr X _ _ 81 _ [] (MM RR q35) _
          refine mr_goto (t := 129) dX11_reckons_81 (by decide) ?_
          refine mr_iinc (pc' := 132) (x' := (p4 + (1 : Int32))) (lv' := [(4, .int (p4 + (1 : Int32))), (6, .int (a8 >>> ((4 : Int32) &&& 31))), (5, .int (a5 &&& (15 : Int32))), (0, .ref 145), (1, .int p1), (3, .int p3)]) dX11_reckons_129 rfl (by decide) rfl rfl rfl ?_
          refine mr_goto (t := 8) dX11_reckons_132 (by decide) ?_
          exact mr_sub [(0, .ref 145), (1, .int p1), (3, .int p3), (4, .int (p4 + (1 : Int32)))] ⟨rfl, rfl, rfl, rfl, trivial⟩ rfl (ih _ _  h37)
        · rw [if_neg c12] at h10
          refine mr_icmp_ne_t (t := 84) dX11_reckons_67 (by decide) c12 ?_
          refine mr_iload (pc' := 86) dX11_reckons_84 rfl rfl ?_
          refine mr_bipush (pc' := 88) (v := (11 : Int32)) dX11_reckons_86 rfl (by decide) ?_
          by_cases c13 : (a5 &&& (15 : Int32)) = (11 : Int32)
          · rw [if_pos c13] at h10
            refine mr_icmp_ne_f (t := 104) (pc' := 91) dX11_reckons_88 (by decide) rfl (not_not_intro c13) ?_
            refine mr_aload_n (pc' := 92) dX11_reckons_91 rfl rfl ?_
            refine mr_lconst (pc' := 93) (v := (1 : Int64)) dX11_reckons_92 rfl (by decide) ?_
            refine mr_aload_n (pc' := 94) dX11_reckons_93 rfl rfl ?_
            obtain ⟨q26, g27, h28⟩ := Option.bind_eq_some_iff.mp h10
            refine mr_cv (pc' := 97) (a := 145) (d1 := 0) dX11_reckons_94 rfl rfl rfl rfl rfl rfl (by decide) rfl (by decide) (ok_X11_pop hR  g27) ?_
            show mr X _ _ 97 _ [.long q26.1, .long (1 : Int64), .ref 145] (MM RR q26.2) _
            refine mr_lsub (pc' := 98) dX11_reckons_97 rfl ?_
            obtain ⟨q29, g30, h31⟩ := Option.bind_eq_some_iff.mp h28
            refine mr_cv (pc' := 101) (a := 145) (d1 := 0) dX11_reckons_98 rfl rfl rfl rfl rfl rfl (by decide) rfl (by decide) (ok_X11_push hR  g30) ?_
            show mr X _ _ 101 _ [] (MM RR q29) _
            refine mr_goto (t := 129) dX11_reckons_101 (by decide) ?_
            refine mr_iinc (pc' := 132) (x' := (p4 + (1 : Int32))) (lv' := [(4, .int (p4 + (1 : Int32))), (6, .int (a8 >>> ((4 : Int32) &&& 31))), (5, .int (a5 &&& (15 : Int32))), (0, .ref 145), (1, .int p1), (3, .int p3)]) dX11_reckons_129 rfl (by decide) rfl rfl rfl ?_
            refine mr_goto (t := 8) dX11_reckons_132 (by decide) ?_
            exact mr_sub [(0, .ref 145), (1, .int p1), (3, .int p3), (4, .int (p4 + (1 : Int32)))] ⟨rfl, rfl, rfl, rfl, trivial⟩ rfl (ih _ _  h31)
          · rw [if_neg c13] at h10
            refine mr_icmp_ne_t (t := 104) dX11_reckons_88 (by decide) c13 ?_
            refine mr_aload_n (pc' := 105) dX11_reckons_104 rfl rfl ?_
            obtain ⟨q14, g15, h16⟩ := Option.bind_eq_some_iff.mp h10
            refine mr_cv (pc' := 108) (a := 145) (d1 := 0) dX11_reckons_105 rfl rfl rfl rfl rfl rfl (by decide) rfl (by decide) (ok_X11_pop hR  g15) ?_
            show mr X _ _ 108 _ [.long q14.1] (MM RR q14.2) _
            refine mr_lstore (pc' := 110) (lv' := [(7, .long q14.1), (6, .int (a8 >>> ((4 : Int32) &&& 31))), (5, .int (a5 &&& (15 : Int32))), (0, .ref 145), (1, .int p1), (3, .int p3), (4, .int p4)]) dX11_reckons_108 rfl (by decide) rfl ?_
            refine mr_aload_n (pc' := 111) dX11_reckons_110 rfl rfl ?_
            obtain ⟨q17, g18, h19⟩ := Option.bind_eq_some_iff.mp h16
            refine mr_cv (pc' := 114) (a := 145) (d1 := 0) dX11_reckons_111 rfl rfl rfl rfl rfl rfl (by decide) rfl (by decide) (ok_X11_pop hR  g18) ?_
            show mr X _ _ 114 _ [.long q17.1] (MM RR q17.2) _
            refine mr_lstore (pc' := 116) (lv' := [(9, .long q17.1), (7, .long q14.1), (6, .int (a8 >>> ((4 : Int32) &&& 31))), (5, .int (a5 &&& (15 : Int32))), (0, .ref 145), (1, .int p1), (3, .int p3), (4, .int p4)]) dX11_reckons_114 rfl (by decide) rfl ?_
            refine mr_aload_n (pc' := 117) dX11_reckons_116 rfl rfl ?_
            refine mr_iload (pc' := 119) dX11_reckons_117 rfl rfl ?_
            refine mr_lload (pc' := 121) dX11_reckons_119 rfl rfl ?_
            refine mr_lload (pc' := 123) dX11_reckons_121 rfl rfl ?_
            obtain ⟨q20, g21, h22⟩ := Option.bind_eq_some_iff.mp h19
            refine mr_cs (pc' := 126) (d1 := 0) dX11_reckons_123 rfl rfl rfl rfl (by decide) (Nat.le_of_ble_eq_true rfl) rfl rfl rfl (by decide) (ok_X11_one hR  g21) ?_
            show mr X _ _ 126 _ [.long q20, .ref 145] (MM RR q17.2) _
            obtain ⟨q23, g24, h25⟩ := Option.bind_eq_some_iff.mp h22
            refine mr_cv (pc' := 129) (a := 145) (d1 := 0) dX11_reckons_126 rfl rfl rfl rfl rfl rfl (by decide) rfl (by decide) (ok_X11_push hR  g24) ?_
            show mr X _ _ 129 _ [] (MM RR q23) _
            refine mr_iinc (pc' := 132) (x' := (p4 + (1 : Int32))) (lv' := [(4, .int (p4 + (1 : Int32))), (9, .long q17.1), (7, .long q14.1), (6, .int (a8 >>> ((4 : Int32) &&& 31))), (5, .int (a5 &&& (15 : Int32))), (0, .ref 145), (1, .int p1), (3, .int p3)]) dX11_reckons_129 rfl (by decide) rfl rfl rfl ?_
            refine mr_goto (t := 8) dX11_reckons_132 (by decide) ?_
            exact mr_sub [(0, .ref 145), (1, .int p1), (3, .int p3), (4, .int (p4 + (1 : Int32)))] ⟨rfl, rfl, rfl, rfl, trivial⟩ rfl (ih _ _  h25)
def f_X11_reckons (v1 : Int32) (v2 : Int32) (v3 : Int32) (S : fS) : Option (Int64 × fS) :=
  (some (pI S 145 23 (0 : Int32))).bind fun S1 =>
  lp_X11_reckons_8 v1 v3 (fun S41 => (f_X11_pop  S41).bind fun q43 =>
  some (q43.1, q43.2)) FU v2 S1
set_option maxHeartbeats 4000000 in
set_option maxRecDepth 100000 in
theorem ok_X11_reckons {X : mm_C} {RR : Nat → Nat → Option Nat} (hR : RRok RR) {v1 : Int32} {v2 : Int32} {v3 : Int32}  {S : fS} {r : Int64 × fS} (h : f_X11_reckons v1 v2 v3 S = some r) : mr X 1 mY_X11_reckons 0 (lv_args 0 [.ref 145, .int v1, .int v2, .int v3]) [] (MM RR S) (some (.long r.1), MM RR r.2) := by
  unfold f_X11_reckons at h
  show mr X _ _ 0 [(0, .ref 145), (1, .int v1), (2, .int v2), (3, .int v3)] [] (MM RR S) _
  refine mr_aload_n (pc' := 1) dX11_reckons_0 rfl rfl ?_
  refine mr_iconst (pc' := 2) (v := (0 : Int32)) dX11_reckons_1 rfl (by decide) ?_
  obtain ⟨S1, g2, h3⟩ := Option.bind_eq_some_iff.mp h
  refine mr_putI (pc' := 5) (ci := 11) (j := 23) dX11_reckons_2 rfl rfl rfl (by decide) (by decide) rfl rfl ?_
  rw [Option.some.inj g2]
  refine mr_iload_n (pc' := 6) dX11_reckons_5 rfl rfl ?_
  refine mr_istore (pc' := 8) (lv' := [(4, .int v2), (0, .ref 145), (1, .int v1), (2, .int v2), (3, .int v3)]) dX11_reckons_6 rfl (by decide) rfl ?_
  refine mr_sub [(0, .ref 145), (1, .int v1), (3, .int v3), (4, .int v2)] ⟨rfl, rfl, rfl, rfl, trivial⟩ rfl ?_
  refine ok_lp_X11_reckons_8 hR  (fun S41 h42 => ?_) FU _ _  h3
  refine mr_aload_n (pc' := 136) dX11_reckons_135 rfl rfl ?_
  obtain ⟨q43, g44, h45⟩ := Option.bind_eq_some_iff.mp h42
  refine mr_cv (pc' := 139) (a := 145) (d1 := 0) dX11_reckons_136 rfl rfl rfl rfl rfl rfl (by decide) rfl (by decide) (ok_X11_pop hR  g44) ?_
  show mr X _ _ 139 _ [.long q43.1] (MM RR q43.2) _
  obtain rfl := Option.some.inj h45
  exact mr_lreturn dX11_reckons_139 rfl
