def f_X10_stair (v1 : Int32) (v2 : Int32) (S : fS) : Option (Int32) :=
  (f_X10_isFrom v1 (0 : Int32) ((S.1 4 7) - (1 : Int32)) S).bind fun q1 =>
  if q1 = (0 : Int32) then (some (-1 : Int32)) else
  ((f_X10_isFrom v2 (0 : Int32) (4 : Int32) S).bind fun q5 =>
  if q5 = (0 : Int32) then (some (-1 : Int32)) else
  (if v2 = (0 : Int32) then ((gI S 6 12 v1).bind fun a10 =>
  some a10) else
  if v2 = (1 : Int32) then ((gI S 7 12 v1).bind fun a14 =>
  some a14) else
  if v2 = (2 : Int32) then ((gI S 8 12 v1).bind fun a18 =>
  some a18) else
  ((gL S 9 12 v1).bind fun a21 =>
  (f_X10_lowest a21 (232792560 : Int64) (v2 - (3 : Int32)) S).bind fun q24 =>
  some (Int64.toInt32 q24))))
set_option maxHeartbeats 4000000 in
set_option maxRecDepth 100000 in
theorem ok_X10_stair {X : mm_C} {RR : Nat → Nat → Option Nat} (hR : RRok RR) {v1 : Int32} {v2 : Int32}  {S : fS} {r : Int32} (h : f_X10_stair v1 v2 S = some r) : mr X 3 mY_X10_stair 0 (lv_args 0 [.ref 0, .int v1, .int v2]) [] (MM RR S) (some (.int r), MM RR S) := by
  unfold f_X10_stair at h
  show mr X _ _ 0 [(0, .ref 0), (1, .int v1), (2, .int v2)] [] (MM RR S) _
  refine mr_aload_n (pc' := 1) dX10_stair_0 rfl rfl ?_
  refine mr_getR (pc' := 4) (ci := 10) (j := 1) (b := 3) hR dX10_stair_1 rfl rfl rfl (by decide) (by decide) (by decide) rfl rfl ?_
  refine mr_getR (pc' := 7) (ci := 6) (j := 0) (b := 4) hR dX10_stair_4 rfl rfl rfl (by decide) (by decide) (by decide) rfl rfl ?_
  refine mr_astore_n (pc' := 8) (lv' := [(3, .ref 4), (0, .ref 0), (1, .int v1), (2, .int v2)]) dX10_stair_7 rfl (by decide) rfl ?_
  refine mr_iload_n (pc' := 9) dX10_stair_8 rfl rfl ?_
  refine mr_iconst (pc' := 10) (v := (0 : Int32)) dX10_stair_9 rfl (by decide) ?_
  refine mr_aload_n (pc' := 11) dX10_stair_10 rfl rfl ?_
  refine mr_getI (pc' := 14) (ci := 8) (j := 7) dX10_stair_11 rfl rfl rfl (by decide) (by decide) rfl ?_
  refine mr_iconst (pc' := 15) (v := (1 : Int32)) dX10_stair_14 rfl (by decide) ?_
  refine mr_isub (pc' := 16) dX10_stair_15 rfl ?_
  obtain ⟨q1, g2, h3⟩ := Option.bind_eq_some_iff.mp h
  refine mr_cs (pc' := 19) (d1 := 0) dX10_stair_16 rfl rfl rfl rfl (by decide) (Nat.le_of_ble_eq_true rfl) rfl rfl rfl (by decide) (ok_X10_isFrom hR  g2) ?_
  show mr X _ _ 19 _ [.int q1] (MM RR S) _
  by_cases c4 : q1 = (0 : Int32)
  · rw [if_pos c4] at h3
    refine mr_if_eq_t (t := 31) dX10_stair_19 (by decide) c4 ?_
    refine mr_iconst (pc' := 32) (v := (-1 : Int32)) dX10_stair_31 rfl (by decide) ?_
    obtain rfl := Option.some.inj h3
    exact mr_ireturn dX10_stair_32 rfl
  · rw [if_neg c4] at h3
    refine mr_if_eq_f (t := 31) (pc' := 22) dX10_stair_19 (by decide) rfl c4 ?_
    refine mr_iload_n (pc' := 23) dX10_stair_22 rfl rfl ?_
    refine mr_iconst (pc' := 24) (v := (0 : Int32)) dX10_stair_23 rfl (by decide) ?_
    refine mr_iconst (pc' := 25) (v := (4 : Int32)) dX10_stair_24 rfl (by decide) ?_
    obtain ⟨q5, g6, h7⟩ := Option.bind_eq_some_iff.mp h3
    refine mr_cs (pc' := 28) (d1 := 0) dX10_stair_25 rfl rfl rfl rfl (by decide) (Nat.le_of_ble_eq_true rfl) rfl rfl rfl (by decide) (ok_X10_isFrom hR  g6) ?_
    show mr X _ _ 28 _ [.int q5] (MM RR S) _
    by_cases c8 : q5 = (0 : Int32)
    · rw [if_pos c8] at h7
      refine mr_if_ne_f (t := 33) (pc' := 31) dX10_stair_28 (by decide) rfl (not_not_intro c8) ?_
      refine mr_iconst (pc' := 32) (v := (-1 : Int32)) dX10_stair_31 rfl (by decide) ?_
      obtain rfl := Option.some.inj h7
      exact mr_ireturn dX10_stair_32 rfl
    · rw [if_neg c8] at h7
      refine mr_if_ne_t (t := 33) dX10_stair_28 (by decide) c8 ?_
      refine mr_iload_n (pc' := 34) dX10_stair_33 rfl rfl ?_
      by_cases c9 : v2 = (0 : Int32)
      · rw [if_pos c9] at h7
        refine mr_sw_in (t := 60) (v := (0 : Int32)) dX10_stair_34 c9 rfl ?_
        refine mr_aload_n (pc' := 61) dX10_stair_60 rfl rfl ?_
        refine mr_getR (pc' := 64) (ci := 8) (j := 1) (b := 6) hR dX10_stair_61 rfl rfl rfl (by decide) (by decide) (by decide) rfl rfl ?_
        refine mr_iload_n (pc' := 65) dX10_stair_64 rfl rfl ?_
        obtain ⟨a10, g11, h12⟩ := Option.bind_eq_some_iff.mp h7
        refine mr_iald (pc' := 66) dX10_stair_65 rfl rfl rfl g11 ?_
        obtain rfl := Option.some.inj h12
        exact mr_ireturn dX10_stair_66 rfl
      rw [if_neg c9] at h7
      by_cases c13 : v2 = (1 : Int32)
      · rw [if_pos c13] at h7
        refine mr_sw_in (t := 67) (v := (1 : Int32)) dX10_stair_34 c13 rfl ?_
        refine mr_aload_n (pc' := 68) dX10_stair_67 rfl rfl ?_
        refine mr_getR (pc' := 71) (ci := 8) (j := 2) (b := 7) hR dX10_stair_68 rfl rfl rfl (by decide) (by decide) (by decide) rfl rfl ?_
        refine mr_iload_n (pc' := 72) dX10_stair_71 rfl rfl ?_
        obtain ⟨a14, g15, h16⟩ := Option.bind_eq_some_iff.mp h7
        refine mr_iald (pc' := 73) dX10_stair_72 rfl rfl rfl g15 ?_
        obtain rfl := Option.some.inj h16
        exact mr_ireturn dX10_stair_73 rfl
      rw [if_neg c13] at h7
      by_cases c17 : v2 = (2 : Int32)
      · rw [if_pos c17] at h7
        refine mr_sw_in (t := 74) (v := (2 : Int32)) dX10_stair_34 c17 rfl ?_
        refine mr_aload_n (pc' := 75) dX10_stair_74 rfl rfl ?_
        refine mr_getR (pc' := 78) (ci := 8) (j := 3) (b := 8) hR dX10_stair_75 rfl rfl rfl (by decide) (by decide) (by decide) rfl rfl ?_
        refine mr_iload_n (pc' := 79) dX10_stair_78 rfl rfl ?_
        obtain ⟨a18, g19, h20⟩ := Option.bind_eq_some_iff.mp h7
        refine mr_iald (pc' := 80) dX10_stair_79 rfl rfl rfl g19 ?_
        obtain rfl := Option.some.inj h20
        exact mr_ireturn dX10_stair_80 rfl
      rw [if_neg c17] at h7
      refine mr_sw_out (t := 81) dX10_stair_34 (by have := i32ne c9 (k := 0) (by decide); have := i32ne c13 (k := 1) (by decide); have := i32ne c17 (k := 2) (by decide); omega) (by decide) ?_
      refine mr_aload_n (pc' := 82) dX10_stair_81 rfl rfl ?_
      refine mr_getR (pc' := 85) (ci := 8) (j := 4) (b := 9) hR dX10_stair_82 rfl rfl rfl (by decide) (by decide) (by decide) rfl rfl ?_
      refine mr_iload_n (pc' := 86) dX10_stair_85 rfl rfl ?_
      obtain ⟨a21, g22, h23⟩ := Option.bind_eq_some_iff.mp h7
      refine mr_lald (pc' := 87) dX10_stair_86 rfl rfl rfl g22 ?_
      refine mr_ldc2 (pc' := 90) (v := (232792560 : Int64)) dX10_stair_87 rfl rfl ?_
      refine mr_iload_n (pc' := 91) dX10_stair_90 rfl rfl ?_
      refine mr_iconst (pc' := 92) (v := (3 : Int32)) dX10_stair_91 rfl (by decide) ?_
      refine mr_isub (pc' := 93) dX10_stair_92 rfl ?_
      obtain ⟨q24, g25, h26⟩ := Option.bind_eq_some_iff.mp h23
      refine mr_cs (pc' := 96) (d1 := 2) dX10_stair_93 rfl rfl rfl rfl (by decide) (Nat.le_of_ble_eq_true rfl) rfl rfl rfl (by decide) (ok_X10_lowest hR  g25) ?_
      show mr X _ _ 96 _ [.long q24] (MM RR S) _
      refine mr_l2i (pc' := 97) dX10_stair_96 rfl ?_
      obtain rfl := Option.some.inj h26
      exact mr_ireturn dX10_stair_97 rfl
def f_X10_isThing (v1 : Int32) (S : fS) : Option (Int32) :=
  (f_X10_isFrom v1 (0 : Int32) ((S.1 11 5) - (1 : Int32)) S).bind fun q1 =>
  (bZ q1).bind fun z4 => some z4
set_option maxHeartbeats 4000000 in
set_option maxRecDepth 100000 in
theorem ok_X10_isThing {X : mm_C} {RR : Nat → Nat → Option Nat} (hR : RRok RR) {v1 : Int32}  {S : fS} {r : Int32} (h : f_X10_isThing v1 S = some r) : mr X 1 mY_X10_isThing 0 (lv_args 0 [.ref 0, .int v1]) [] (MM RR S) (some (.int r), MM RR S) := by
  unfold f_X10_isThing at h
  show mr X _ _ 0 [(0, .ref 0), (1, .int v1)] [] (MM RR S) _
  refine mr_iload_n (pc' := 1) dX10_isThing_0 rfl rfl ?_
  refine mr_iconst (pc' := 2) (v := (0 : Int32)) dX10_isThing_1 rfl (by decide) ?_
  refine mr_aload_n (pc' := 3) dX10_isThing_2 rfl rfl ?_
  refine mr_getR (pc' := 6) (ci := 10) (j := 1) (b := 3) hR dX10_isThing_3 rfl rfl rfl (by decide) (by decide) (by decide) rfl rfl ?_
  refine mr_getR (pc' := 9) (ci := 6) (j := 1) (b := 11) hR dX10_isThing_6 rfl rfl rfl (by decide) (by decide) (by decide) rfl rfl ?_
  refine mr_getI (pc' := 12) (ci := 0) (j := 5) dX10_isThing_9 rfl rfl rfl (by decide) (by decide) rfl ?_
  refine mr_iconst (pc' := 13) (v := (1 : Int32)) dX10_isThing_12 rfl (by decide) ?_
  refine mr_isub (pc' := 14) dX10_isThing_13 rfl ?_
  obtain ⟨q1, g2, h3⟩ := Option.bind_eq_some_iff.mp h
  refine mr_cs (pc' := 17) (d1 := 0) dX10_isThing_14 rfl rfl rfl rfl (by decide) (Nat.le_of_ble_eq_true rfl) rfl rfl rfl (by decide) (ok_X10_isFrom hR  g2) ?_
  show mr X _ _ 17 _ [.int q1] (MM RR S) _
  obtain ⟨z4, g5, h6⟩ := Option.bind_eq_some_iff.mp h3
  obtain ⟨g7, e8⟩ := mm_ifs g5
  cases e8
  cases h6
  exact mr_zreturn dX10_isThing_17 rfl g7
def f_X10_thing (v1 : Int32) (v2 : Int32) (S : fS) : Option (Int32) :=
  (f_X10_isThing v1 S).bind fun q1 =>
  if q1 = (0 : Int32) then (some (-2 : Int32)) else
  ((f_X10_isFrom v2 (0 : Int32) (3 : Int32) S).bind fun q5 =>
  if q5 = (0 : Int32) then (some (-2 : Int32)) else
  (if v2 = (0 : Int32) then ((gI S 12 8 v1).bind fun a10 =>
  some a10) else
  if v2 = (1 : Int32) then ((gI S 13 8 v1).bind fun a14 =>
  some a14) else
  if v2 = (2 : Int32) then ((gI S 14 8 v1).bind fun a18 =>
  some a18) else
  ((gI S 15 8 v1).bind fun a21 =>
  some a21)))
set_option maxHeartbeats 4000000 in
set_option maxRecDepth 100000 in
theorem ok_X10_thing {X : mm_C} {RR : Nat → Nat → Option Nat} (hR : RRok RR) {v1 : Int32} {v2 : Int32}  {S : fS} {r : Int32} (h : f_X10_thing v1 v2 S = some r) : mr X 2 mY_X10_thing 0 (lv_args 0 [.ref 0, .int v1, .int v2]) [] (MM RR S) (some (.int r), MM RR S) := by
  unfold f_X10_thing at h
  show mr X _ _ 0 [(0, .ref 0), (1, .int v1), (2, .int v2)] [] (MM RR S) _
  refine mr_aload_n (pc' := 1) dX10_thing_0 rfl rfl ?_
  refine mr_iload_n (pc' := 2) dX10_thing_1 rfl rfl ?_
  obtain ⟨q1, g2, h3⟩ := Option.bind_eq_some_iff.mp h
  refine mr_cv (pc' := 5) (a := 0) (d1 := 1) dX10_thing_2 rfl rfl rfl rfl rfl rfl (by decide) rfl (by decide) (ok_X10_isThing hR  g2) ?_
  show mr X _ _ 5 _ [.int q1] (MM RR S) _
  by_cases c4 : q1 = (0 : Int32)
  · rw [if_pos c4] at h3
    refine mr_if_eq_t (t := 17) dX10_thing_5 (by decide) c4 ?_
    refine mr_bipush (pc' := 19) (v := (-2 : Int32)) dX10_thing_17 rfl (by decide) ?_
    obtain rfl := Option.some.inj h3
    exact mr_ireturn dX10_thing_19 rfl
  · rw [if_neg c4] at h3
    refine mr_if_eq_f (t := 17) (pc' := 8) dX10_thing_5 (by decide) rfl c4 ?_
    refine mr_iload_n (pc' := 9) dX10_thing_8 rfl rfl ?_
    refine mr_iconst (pc' := 10) (v := (0 : Int32)) dX10_thing_9 rfl (by decide) ?_
    refine mr_iconst (pc' := 11) (v := (3 : Int32)) dX10_thing_10 rfl (by decide) ?_
    obtain ⟨q5, g6, h7⟩ := Option.bind_eq_some_iff.mp h3
    refine mr_cs (pc' := 14) (d1 := 0) dX10_thing_11 rfl rfl rfl rfl (by decide) (Nat.le_of_ble_eq_true rfl) rfl rfl rfl (by decide) (ok_X10_isFrom hR  g6) ?_
    show mr X _ _ 14 _ [.int q5] (MM RR S) _
    by_cases c8 : q5 = (0 : Int32)
    · rw [if_pos c8] at h7
      refine mr_if_ne_f (t := 20) (pc' := 17) dX10_thing_14 (by decide) rfl (not_not_intro c8) ?_
      refine mr_bipush (pc' := 19) (v := (-2 : Int32)) dX10_thing_17 rfl (by decide) ?_
      obtain rfl := Option.some.inj h7
      exact mr_ireturn dX10_thing_19 rfl
    · rw [if_neg c8] at h7
      refine mr_if_ne_t (t := 20) dX10_thing_14 (by decide) c8 ?_
      refine mr_aload_n (pc' := 21) dX10_thing_20 rfl rfl ?_
      refine mr_getR (pc' := 24) (ci := 10) (j := 1) (b := 3) hR dX10_thing_21 rfl rfl rfl (by decide) (by decide) (by decide) rfl rfl ?_
      refine mr_getR (pc' := 27) (ci := 6) (j := 1) (b := 11) hR dX10_thing_24 rfl rfl rfl (by decide) (by decide) (by decide) rfl rfl ?_
      refine mr_astore_n (pc' := 28) (lv' := [(3, .ref 11), (0, .ref 0), (1, .int v1), (2, .int v2)]) dX10_thing_27 rfl (by decide) rfl ?_
      refine mr_iload_n (pc' := 29) dX10_thing_28 rfl rfl ?_
      by_cases c9 : v2 = (0 : Int32)
      · rw [if_pos c9] at h7
        refine mr_sw_in (t := 56) (v := (0 : Int32)) dX10_thing_29 c9 rfl ?_
        refine mr_aload_n (pc' := 57) dX10_thing_56 rfl rfl ?_
        refine mr_getR (pc' := 60) (ci := 0) (j := 0) (b := 12) hR dX10_thing_57 rfl rfl rfl (by decide) (by decide) (by decide) rfl rfl ?_
        refine mr_iload_n (pc' := 61) dX10_thing_60 rfl rfl ?_
        obtain ⟨a10, g11, h12⟩ := Option.bind_eq_some_iff.mp h7
        refine mr_iald (pc' := 62) dX10_thing_61 rfl rfl rfl g11 ?_
        obtain rfl := Option.some.inj h12
        exact mr_ireturn dX10_thing_62 rfl
      rw [if_neg c9] at h7
      by_cases c13 : v2 = (1 : Int32)
      · rw [if_pos c13] at h7
        refine mr_sw_in (t := 63) (v := (1 : Int32)) dX10_thing_29 c13 rfl ?_
        refine mr_aload_n (pc' := 64) dX10_thing_63 rfl rfl ?_
        refine mr_getR (pc' := 67) (ci := 0) (j := 1) (b := 13) hR dX10_thing_64 rfl rfl rfl (by decide) (by decide) (by decide) rfl rfl ?_
        refine mr_iload_n (pc' := 68) dX10_thing_67 rfl rfl ?_
        obtain ⟨a14, g15, h16⟩ := Option.bind_eq_some_iff.mp h7
        refine mr_iald (pc' := 69) dX10_thing_68 rfl rfl rfl g15 ?_
        obtain rfl := Option.some.inj h16
        exact mr_ireturn dX10_thing_69 rfl
      rw [if_neg c13] at h7
      by_cases c17 : v2 = (2 : Int32)
      · rw [if_pos c17] at h7
        refine mr_sw_in (t := 70) (v := (2 : Int32)) dX10_thing_29 c17 rfl ?_
        refine mr_aload_n (pc' := 71) dX10_thing_70 rfl rfl ?_
        refine mr_getR (pc' := 74) (ci := 0) (j := 2) (b := 14) hR dX10_thing_71 rfl rfl rfl (by decide) (by decide) (by decide) rfl rfl ?_
        refine mr_iload_n (pc' := 75) dX10_thing_74 rfl rfl ?_
        obtain ⟨a18, g19, h20⟩ := Option.bind_eq_some_iff.mp h7
        refine mr_iald (pc' := 76) dX10_thing_75 rfl rfl rfl g19 ?_
        obtain rfl := Option.some.inj h20
        exact mr_ireturn dX10_thing_76 rfl
      rw [if_neg c17] at h7
      refine mr_sw_out (t := 77) dX10_thing_29 (by have := i32ne c9 (k := 0) (by decide); have := i32ne c13 (k := 1) (by decide); have := i32ne c17 (k := 2) (by decide); omega) (by decide) ?_
      refine mr_aload_n (pc' := 78) dX10_thing_77 rfl rfl ?_
      refine mr_getR (pc' := 81) (ci := 0) (j := 3) (b := 15) hR dX10_thing_78 rfl rfl rfl (by decide) (by decide) (by decide) rfl rfl ?_
      refine mr_iload_n (pc' := 82) dX10_thing_81 rfl rfl ?_
      obtain ⟨a21, g22, h23⟩ := Option.bind_eq_some_iff.mp h7
      refine mr_iald (pc' := 83) dX10_thing_82 rfl rfl rfl g22 ?_
      obtain rfl := Option.some.inj h23
      exact mr_ireturn dX10_thing_83 rfl
def f_X10_isPart (v0 : Int32) (S : fS) : Option (Int32) :=
  (f_X10_isFrom v0 (0 : Int32) (1 : Int32) S).bind fun q1 =>
  (bZ q1).bind fun z4 => some z4
set_option maxHeartbeats 4000000 in
set_option maxRecDepth 100000 in
theorem ok_X10_isPart {X : mm_C} {RR : Nat → Nat → Option Nat} (hR : RRok RR) {v0 : Int32}  {S : fS} {r : Int32} (h : f_X10_isPart v0 S = some r) : mr X 1 mY_X10_isPart 0 (lv_args 0 [.int v0]) [] (MM RR S) (some (.int r), MM RR S) := by
  unfold f_X10_isPart at h
  show mr X _ _ 0 [(0, .int v0)] [] (MM RR S) _
  refine mr_iload_n (pc' := 1) dX10_isPart_0 rfl rfl ?_
  refine mr_iconst (pc' := 2) (v := (0 : Int32)) dX10_isPart_1 rfl (by decide) ?_
  refine mr_iconst (pc' := 3) (v := (1 : Int32)) dX10_isPart_2 rfl (by decide) ?_
  obtain ⟨q1, g2, h3⟩ := Option.bind_eq_some_iff.mp h
  refine mr_cs (pc' := 6) (d1 := 0) dX10_isPart_3 rfl rfl rfl rfl (by decide) (Nat.le_of_ble_eq_true rfl) rfl rfl rfl (by decide) (ok_X10_isFrom hR  g2) ?_
  show mr X _ _ 6 _ [.int q1] (MM RR S) _
  obtain ⟨z4, g5, h6⟩ := Option.bind_eq_some_iff.mp h3
  obtain ⟨g7, e8⟩ := mm_ifs g5
  cases e8
  cases h6
  exact mr_zreturn dX10_isPart_6 rfl g7
def f_X10_age (v1 : Int32) (v2 : Int32) (S : fS) : Option (Int64) :=
  (f_X10_isThing v1 S).bind fun q1 =>
  if q1 = (0 : Int32) then (some (-1 : Int64)) else
  ((f_X10_isPart v2 S).bind fun q5 =>
  if q5 = (0 : Int32) then (some (-1 : Int64)) else
  ((gL S 16 8 v1).bind fun a9 =>
  (f_X10_lowest a9 (232792560 : Int64) v2 S).bind fun q12 =>
  some q12))
set_option maxHeartbeats 4000000 in
set_option maxRecDepth 100000 in
theorem ok_X10_age {X : mm_C} {RR : Nat → Nat → Option Nat} (hR : RRok RR) {v1 : Int32} {v2 : Int32}  {S : fS} {r : Int64} (h : f_X10_age v1 v2 S = some r) : mr X 3 mY_X10_age 0 (lv_args 0 [.ref 0, .int v1, .int v2]) [] (MM RR S) (some (.long r), MM RR S) := by
  unfold f_X10_age at h
  show mr X _ _ 0 [(0, .ref 0), (1, .int v1), (2, .int v2)] [] (MM RR S) _
  refine mr_aload_n (pc' := 1) dX10_age_0 rfl rfl ?_
  refine mr_iload_n (pc' := 2) dX10_age_1 rfl rfl ?_
  obtain ⟨q1, g2, h3⟩ := Option.bind_eq_some_iff.mp h
  refine mr_cv (pc' := 5) (a := 0) (d1 := 1) dX10_age_2 rfl rfl rfl rfl rfl rfl (by decide) rfl (by decide) (ok_X10_isThing hR  g2) ?_
  show mr X _ _ 5 _ [.int q1] (MM RR S) _
  by_cases c4 : q1 = (0 : Int32)
  · rw [if_pos c4] at h3
    refine mr_if_eq_t (t := 15) dX10_age_5 (by decide) c4 ?_
    refine mr_ldc2 (pc' := 18) (v := (-1 : Int64)) dX10_age_15 rfl rfl ?_
    obtain rfl := Option.some.inj h3
    exact mr_lreturn dX10_age_18 rfl
  · rw [if_neg c4] at h3
    refine mr_if_eq_f (t := 15) (pc' := 8) dX10_age_5 (by decide) rfl c4 ?_
    refine mr_iload_n (pc' := 9) dX10_age_8 rfl rfl ?_
    obtain ⟨q5, g6, h7⟩ := Option.bind_eq_some_iff.mp h3
    refine mr_cs (pc' := 12) (d1 := 1) dX10_age_9 rfl rfl rfl rfl (by decide) (Nat.le_of_ble_eq_true rfl) rfl rfl rfl (by decide) (ok_X10_isPart hR  g6) ?_
    show mr X _ _ 12 _ [.int q5] (MM RR S) _
    by_cases c8 : q5 = (0 : Int32)
    · rw [if_pos c8] at h7
      refine mr_if_ne_f (t := 19) (pc' := 15) dX10_age_12 (by decide) rfl (not_not_intro c8) ?_
      refine mr_ldc2 (pc' := 18) (v := (-1 : Int64)) dX10_age_15 rfl rfl ?_
      obtain rfl := Option.some.inj h7
      exact mr_lreturn dX10_age_18 rfl
    · rw [if_neg c8] at h7
      refine mr_if_ne_t (t := 19) dX10_age_12 (by decide) c8 ?_
      refine mr_aload_n (pc' := 20) dX10_age_19 rfl rfl ?_
      refine mr_getR (pc' := 23) (ci := 10) (j := 1) (b := 3) hR dX10_age_20 rfl rfl rfl (by decide) (by decide) (by decide) rfl rfl ?_
      refine mr_getR (pc' := 26) (ci := 6) (j := 1) (b := 11) hR dX10_age_23 rfl rfl rfl (by decide) (by decide) (by decide) rfl rfl ?_
      refine mr_getR (pc' := 29) (ci := 0) (j := 4) (b := 16) hR dX10_age_26 rfl rfl rfl (by decide) (by decide) (by decide) rfl rfl ?_
      refine mr_iload_n (pc' := 30) dX10_age_29 rfl rfl ?_
      obtain ⟨a9, g10, h11⟩ := Option.bind_eq_some_iff.mp h7
      refine mr_lald (pc' := 31) dX10_age_30 rfl rfl rfl g10 ?_
      refine mr_ldc2 (pc' := 34) (v := (232792560 : Int64)) dX10_age_31 rfl rfl ?_
      refine mr_iload_n (pc' := 35) dX10_age_34 rfl rfl ?_
      obtain ⟨q12, g13, h14⟩ := Option.bind_eq_some_iff.mp h11
      refine mr_cs (pc' := 38) (d1 := 2) dX10_age_35 rfl rfl rfl rfl (by decide) (Nat.le_of_ble_eq_true rfl) rfl rfl rfl (by decide) (ok_X10_lowest hR  g13) ?_
      show mr X _ _ 38 _ [.long q12] (MM RR S) _
      obtain rfl := Option.some.inj h14
      exact mr_lreturn dX10_age_38 rfl
def f_X10_older (v1 : Int32) (v2 : Int32) (S : fS) : Option (Int32) :=
  (f_X10_isThing v1 S).bind fun q1 =>
  if q1 = (0 : Int32) then (some (-2 : Int32)) else
  ((f_X10_isThing v2 S).bind fun q5 =>
  if q5 = (0 : Int32) then (some (-2 : Int32)) else
  ((gL S 16 8 v1).bind fun a9 =>
  (gL S 16 8 v2).bind fun a12 =>
  if (a9 - a12) = (0 : Int64) then (some (0 : Int32)) else
  (if (a9 - a12) ≤ (0 : Int64) then (some (-1 : Int32)) else
  (some (1 : Int32)))))
set_option maxHeartbeats 4000000 in
set_option maxRecDepth 100000 in
theorem ok_X10_older {X : mm_C} {RR : Nat → Nat → Option Nat} (hR : RRok RR) {v1 : Int32} {v2 : Int32}  {S : fS} {r : Int32} (h : f_X10_older v1 v2 S = some r) : mr X 2 mY_X10_older 0 (lv_args 0 [.ref 0, .int v1, .int v2]) [] (MM RR S) (some (.int r), MM RR S) := by
  unfold f_X10_older at h
  show mr X _ _ 0 [(0, .ref 0), (1, .int v1), (2, .int v2)] [] (MM RR S) _
  refine mr_aload_n (pc' := 1) dX10_older_0 rfl rfl ?_
  refine mr_iload_n (pc' := 2) dX10_older_1 rfl rfl ?_
  obtain ⟨q1, g2, h3⟩ := Option.bind_eq_some_iff.mp h
  refine mr_cv (pc' := 5) (a := 0) (d1 := 1) dX10_older_2 rfl rfl rfl rfl rfl rfl (by decide) rfl (by decide) (ok_X10_isThing hR  g2) ?_
  show mr X _ _ 5 _ [.int q1] (MM RR S) _
  by_cases c4 : q1 = (0 : Int32)
  · rw [if_pos c4] at h3
    refine mr_if_eq_t (t := 16) dX10_older_5 (by decide) c4 ?_
    refine mr_bipush (pc' := 18) (v := (-2 : Int32)) dX10_older_16 rfl (by decide) ?_
    obtain rfl := Option.some.inj h3
    exact mr_ireturn dX10_older_18 rfl
  · rw [if_neg c4] at h3
    refine mr_if_eq_f (t := 16) (pc' := 8) dX10_older_5 (by decide) rfl c4 ?_
    refine mr_aload_n (pc' := 9) dX10_older_8 rfl rfl ?_
    refine mr_iload_n (pc' := 10) dX10_older_9 rfl rfl ?_
    obtain ⟨q5, g6, h7⟩ := Option.bind_eq_some_iff.mp h3
    refine mr_cv (pc' := 13) (a := 0) (d1 := 1) dX10_older_10 rfl rfl rfl rfl rfl rfl (by decide) rfl (by decide) (ok_X10_isThing hR  g6) ?_
    show mr X _ _ 13 _ [.int q5] (MM RR S) _
    by_cases c8 : q5 = (0 : Int32)
    · rw [if_pos c8] at h7
      refine mr_if_ne_f (t := 19) (pc' := 16) dX10_older_13 (by decide) rfl (not_not_intro c8) ?_
      refine mr_bipush (pc' := 18) (v := (-2 : Int32)) dX10_older_16 rfl (by decide) ?_
      obtain rfl := Option.some.inj h7
      exact mr_ireturn dX10_older_18 rfl
    · rw [if_neg c8] at h7
      refine mr_if_ne_t (t := 19) dX10_older_13 (by decide) c8 ?_
      refine mr_aload_n (pc' := 20) dX10_older_19 rfl rfl ?_
      refine mr_getR (pc' := 23) (ci := 10) (j := 1) (b := 3) hR dX10_older_20 rfl rfl rfl (by decide) (by decide) (by decide) rfl rfl ?_
      refine mr_getR (pc' := 26) (ci := 6) (j := 1) (b := 11) hR dX10_older_23 rfl rfl rfl (by decide) (by decide) (by decide) rfl rfl ?_
      refine mr_getR (pc' := 29) (ci := 0) (j := 4) (b := 16) hR dX10_older_26 rfl rfl rfl (by decide) (by decide) (by decide) rfl rfl ?_
      refine mr_iload_n (pc' := 30) dX10_older_29 rfl rfl ?_
      obtain ⟨a9, g10, h11⟩ := Option.bind_eq_some_iff.mp h7
      refine mr_lald (pc' := 31) dX10_older_30 rfl rfl rfl g10 ?_
      refine mr_aload_n (pc' := 32) dX10_older_31 rfl rfl ?_
      refine mr_getR (pc' := 35) (ci := 10) (j := 1) (b := 3) hR dX10_older_32 rfl rfl rfl (by decide) (by decide) (by decide) rfl rfl ?_
      refine mr_getR (pc' := 38) (ci := 6) (j := 1) (b := 11) hR dX10_older_35 rfl rfl rfl (by decide) (by decide) (by decide) rfl rfl ?_
      refine mr_getR (pc' := 41) (ci := 0) (j := 4) (b := 16) hR dX10_older_38 rfl rfl rfl (by decide) (by decide) (by decide) rfl rfl ?_
      refine mr_iload_n (pc' := 42) dX10_older_41 rfl rfl ?_
      obtain ⟨a12, g13, h14⟩ := Option.bind_eq_some_iff.mp h11
      refine mr_lald (pc' := 43) dX10_older_42 rfl rfl rfl g13 ?_
      refine mr_lsub (pc' := 44) dX10_older_43 rfl ?_
      refine mr_lstore_n (pc' := 45) (lv' := [(3, .long (a9 - a12)), (0, .ref 0), (1, .int v1), (2, .int v2)]) dX10_older_44 rfl (by decide) rfl ?_
      refine mr_lload_n (pc' := 46) dX10_older_45 rfl rfl ?_
      refine mr_lconst (pc' := 47) (v := (0 : Int64)) dX10_older_46 rfl (by decide) ?_
      by_cases c15 : (a9 - a12) = (0 : Int64)
      · rw [if_pos c15] at h14
        refine mr_lcmp_ne_f (t := 53) (pc' := 51) dX10_older_47 rfl dX10_older_48 (by decide) rfl (not_not_intro c15) ?_
        refine mr_iconst (pc' := 52) (v := (0 : Int32)) dX10_older_51 rfl (by decide) ?_
        obtain rfl := Option.some.inj h14
        exact mr_ireturn dX10_older_52 rfl
      · rw [if_neg c15] at h14
        refine mr_lcmp_ne_t (t := 53) dX10_older_47 rfl dX10_older_48 (by decide) c15 ?_
        refine mr_lload_n (pc' := 54) dX10_older_53 rfl rfl ?_
        refine mr_lconst (pc' := 55) (v := (0 : Int64)) dX10_older_54 rfl (by decide) ?_
        by_cases c16 : (a9 - a12) ≤ (0 : Int64)
        · rw [if_pos c16] at h14
          refine mr_lcmp_le_t (t := 63) dX10_older_55 rfl dX10_older_56 (by decide) c16 ?_
          refine mr_iconst (pc' := 64) (v := (-1 : Int32)) dX10_older_63 rfl (by decide) ?_
          obtain rfl := Option.some.inj h14
          exact mr_ireturn dX10_older_64 rfl
        · rw [if_neg c16] at h14
          refine mr_lcmp_le_f (t := 63) (pc' := 59) dX10_older_55 rfl dX10_older_56 (by decide) rfl c16 ?_
          refine mr_iconst (pc' := 60) (v := (1 : Int32)) dX10_older_59 rfl (by decide) ?_
          refine mr_goto (t := 64) dX10_older_60 (by decide) ?_
          obtain rfl := Option.some.inj h14
          exact mr_ireturn dX10_older_64 rfl
def f_X0_isStanding (v0 : Nat) (v1 : Int32) (S : fS) : Option (Int32) :=
  (gI S (v0 + 1) 8 v1).bind fun a1 =>
  if a1 < (0 : Int32) then (some (0 : Int32)) else
  (some (1 : Int32))
set_option maxHeartbeats 4000000 in
set_option maxRecDepth 100000 in
theorem ok_X0_isStanding {X : mm_C} {RR : Nat → Nat → Option Nat} (hR : RRok RR) {v0 : Nat} {v1 : Int32} (t0 : tg v0 = 0) {S : fS} {r : Int32} (h : f_X0_isStanding v0 v1 S = some r) : mr X 0 mY_X0_isStanding 0 (lv_args 0 [.ref v0, .int v1]) [] (MM RR S) (some (.int r), MM RR S) := by
  unfold f_X0_isStanding at h
  show mr X _ _ 0 [(0, .ref v0), (1, .int v1)] [] (MM RR S) _
  refine mr_aload_n (pc' := 1) dX0_isStanding_0 rfl rfl ?_
  refine mr_getR (pc' := 4) (ci := 0) (j := 0) (b := (v0 + 1)) hR dX0_isStanding_1 rfl rfl t0 (by decide) (by decide) (by decide) rfl (ly0_0 t0).1 ?_
  refine mr_iload_n (pc' := 5) dX0_isStanding_4 rfl rfl ?_
  obtain ⟨a1, g2, h3⟩ := Option.bind_eq_some_iff.mp h
  refine mr_iald (pc' := 6) dX0_isStanding_5 rfl (ly0_0 t0).2.1 (ly0_0 t0).2.2 g2 ?_
  by_cases c4 : a1 < (0 : Int32)
  · rw [if_pos c4] at h3
    refine mr_if_lt_t (t := 13) dX0_isStanding_6 (by decide) c4 ?_
    refine mr_iconst (pc' := 14) (v := (0 : Int32)) dX0_isStanding_13 rfl (by decide) ?_
    obtain rfl := Option.some.inj h3
    exact mr_zreturn dX0_isStanding_14 rfl (by decide)
  · rw [if_neg c4] at h3
    refine mr_if_lt_f (t := 13) (pc' := 9) dX0_isStanding_6 (by decide) rfl c4 ?_
    refine mr_iconst (pc' := 10) (v := (1 : Int32)) dX0_isStanding_9 rfl (by decide) ?_
    refine mr_goto (t := 14) dX0_isStanding_10 (by decide) ?_
    obtain rfl := Option.some.inj h3
    exact mr_zreturn dX0_isStanding_14 rfl (by decide)
def f_X10_isStanding (v1 : Int32) (S : fS) : Option (Int32) :=
  (f_X10_isThing v1 S).bind fun q1 =>
  if q1 = (0 : Int32) then (some (0 : Int32)) else
  ((f_X0_isStanding 11 v1 S).bind fun q5 =>
  if q5 = (0 : Int32) then (some (0 : Int32)) else
  (some (1 : Int32)))
set_option maxHeartbeats 4000000 in
set_option maxRecDepth 100000 in
theorem ok_X10_isStanding {X : mm_C} {RR : Nat → Nat → Option Nat} (hR : RRok RR) {v1 : Int32}  {S : fS} {r : Int32} (h : f_X10_isStanding v1 S = some r) : mr X 2 mY_X10_isStanding 0 (lv_args 0 [.ref 0, .int v1]) [] (MM RR S) (some (.int r), MM RR S) := by
  unfold f_X10_isStanding at h
  show mr X _ _ 0 [(0, .ref 0), (1, .int v1)] [] (MM RR S) _
  refine mr_aload_n (pc' := 1) dX10_isStanding_0 rfl rfl ?_
  refine mr_iload_n (pc' := 2) dX10_isStanding_1 rfl rfl ?_
  obtain ⟨q1, g2, h3⟩ := Option.bind_eq_some_iff.mp h
  refine mr_cv (pc' := 5) (a := 0) (d1 := 1) dX10_isStanding_2 rfl rfl rfl rfl rfl rfl (by decide) rfl (by decide) (ok_X10_isThing hR  g2) ?_
  show mr X _ _ 5 _ [.int q1] (MM RR S) _
  by_cases c4 : q1 = (0 : Int32)
  · rw [if_pos c4] at h3
    refine mr_if_eq_t (t := 26) dX10_isStanding_5 (by decide) c4 ?_
    refine mr_iconst (pc' := 27) (v := (0 : Int32)) dX10_isStanding_26 rfl (by decide) ?_
    obtain rfl := Option.some.inj h3
    exact mr_zreturn dX10_isStanding_27 rfl (by decide)
  · rw [if_neg c4] at h3
    refine mr_if_eq_f (t := 26) (pc' := 8) dX10_isStanding_5 (by decide) rfl c4 ?_
    refine mr_aload_n (pc' := 9) dX10_isStanding_8 rfl rfl ?_
    refine mr_getR (pc' := 12) (ci := 10) (j := 1) (b := 3) hR dX10_isStanding_9 rfl rfl rfl (by decide) (by decide) (by decide) rfl rfl ?_
    refine mr_getR (pc' := 15) (ci := 6) (j := 1) (b := 11) hR dX10_isStanding_12 rfl rfl rfl (by decide) (by decide) (by decide) rfl rfl ?_
    refine mr_iload_n (pc' := 16) dX10_isStanding_15 rfl rfl ?_
    obtain ⟨q5, g6, h7⟩ := Option.bind_eq_some_iff.mp h3
    refine mr_cv (pc' := 19) (a := 11) (d1 := 0) dX10_isStanding_16 rfl rfl rfl rfl rfl rfl (by decide) rfl (by decide) (ok_X0_isStanding hR rfl g6) ?_
    show mr X _ _ 19 _ [.int q5] (MM RR S) _
    by_cases c8 : q5 = (0 : Int32)
    · rw [if_pos c8] at h7
      refine mr_if_eq_t (t := 26) dX10_isStanding_19 (by decide) c8 ?_
      refine mr_iconst (pc' := 27) (v := (0 : Int32)) dX10_isStanding_26 rfl (by decide) ?_
      obtain rfl := Option.some.inj h7
      exact mr_zreturn dX10_isStanding_27 rfl (by decide)
    · rw [if_neg c8] at h7
      refine mr_if_eq_f (t := 26) (pc' := 22) dX10_isStanding_19 (by decide) rfl c8 ?_
      refine mr_iconst (pc' := 23) (v := (1 : Int32)) dX10_isStanding_22 rfl (by decide) ?_
      refine mr_goto (t := 27) dX10_isStanding_23 (by decide) ?_
      obtain rfl := Option.some.inj h7
      exact mr_zreturn dX10_isStanding_27 rfl (by decide)
def f_X8_otherEnd (v0 : Nat) (v1 : Int32) (v2 : Int32) (S : fS) : Option (Int32) :=
  (gI S (v0 + 2) 12 v1).bind fun a1 =>
  if a1 = v2 then ((gI S (v0 + 3) 12 v1).bind fun a12 =>
  some a12) else
  ((gI S (v0 + 3) 12 v1).bind fun a5 =>
  if a5 = v2 then ((gI S (v0 + 2) 12 v1).bind fun a9 =>
  some a9) else
  (some (-1 : Int32)))
set_option maxHeartbeats 4000000 in
set_option maxRecDepth 100000 in
theorem ok_X8_otherEnd {X : mm_C} {RR : Nat → Nat → Option Nat} (hR : RRok RR) {v0 : Nat} {v1 : Int32} {v2 : Int32} (t0 : tg v0 = 8) {S : fS} {r : Int32} (h : f_X8_otherEnd v0 v1 v2 S = some r) : mr X 0 mY_X8_otherEnd 0 (lv_args 0 [.ref v0, .int v1, .int v2]) [] (MM RR S) (some (.int r), MM RR S) := by
  unfold f_X8_otherEnd at h
  show mr X _ _ 0 [(0, .ref v0), (1, .int v1), (2, .int v2)] [] (MM RR S) _
  refine mr_aload_n (pc' := 1) dX8_otherEnd_0 rfl rfl ?_
  refine mr_getR (pc' := 4) (ci := 8) (j := 1) (b := (v0 + 2)) hR dX8_otherEnd_1 rfl rfl t0 (by decide) (by decide) (by decide) rfl (ly8_1 t0).1 ?_
  refine mr_iload_n (pc' := 5) dX8_otherEnd_4 rfl rfl ?_
  obtain ⟨a1, g2, h3⟩ := Option.bind_eq_some_iff.mp h
  refine mr_iald (pc' := 6) dX8_otherEnd_5 rfl (ly8_1 t0).2.1 (ly8_1 t0).2.2 g2 ?_
  refine mr_iload_n (pc' := 7) dX8_otherEnd_6 rfl rfl ?_
  by_cases c4 : a1 = v2
  · rw [if_pos c4] at h3
    refine mr_icmp_ne_f (t := 17) (pc' := 10) dX8_otherEnd_7 (by decide) rfl (not_not_intro c4) ?_
    refine mr_aload_n (pc' := 11) dX8_otherEnd_10 rfl rfl ?_
    refine mr_getR (pc' := 14) (ci := 8) (j := 2) (b := (v0 + 3)) hR dX8_otherEnd_11 rfl rfl t0 (by decide) (by decide) (by decide) rfl (ly8_2 t0).1 ?_
    refine mr_iload_n (pc' := 15) dX8_otherEnd_14 rfl rfl ?_
    obtain ⟨a12, g13, h14⟩ := Option.bind_eq_some_iff.mp h3
    refine mr_iald (pc' := 16) dX8_otherEnd_15 rfl (ly8_2 t0).2.1 (ly8_2 t0).2.2 g13 ?_
    obtain rfl := Option.some.inj h14
    exact mr_ireturn dX8_otherEnd_16 rfl
  · rw [if_neg c4] at h3
    refine mr_icmp_ne_t (t := 17) dX8_otherEnd_7 (by decide) c4 ?_
    refine mr_aload_n (pc' := 18) dX8_otherEnd_17 rfl rfl ?_
    refine mr_getR (pc' := 21) (ci := 8) (j := 2) (b := (v0 + 3)) hR dX8_otherEnd_18 rfl rfl t0 (by decide) (by decide) (by decide) rfl (ly8_2 t0).1 ?_
    refine mr_iload_n (pc' := 22) dX8_otherEnd_21 rfl rfl ?_
    obtain ⟨a5, g6, h7⟩ := Option.bind_eq_some_iff.mp h3
    refine mr_iald (pc' := 23) dX8_otherEnd_22 rfl (ly8_2 t0).2.1 (ly8_2 t0).2.2 g6 ?_
    refine mr_iload_n (pc' := 24) dX8_otherEnd_23 rfl rfl ?_
    by_cases c8 : a5 = v2
    · rw [if_pos c8] at h7
      refine mr_icmp_ne_f (t := 36) (pc' := 27) dX8_otherEnd_24 (by decide) rfl (not_not_intro c8) ?_
      refine mr_aload_n (pc' := 28) dX8_otherEnd_27 rfl rfl ?_
      refine mr_getR (pc' := 31) (ci := 8) (j := 1) (b := (v0 + 2)) hR dX8_otherEnd_28 rfl rfl t0 (by decide) (by decide) (by decide) rfl (ly8_1 t0).1 ?_
      refine mr_iload_n (pc' := 32) dX8_otherEnd_31 rfl rfl ?_
      obtain ⟨a9, g10, h11⟩ := Option.bind_eq_some_iff.mp h7
      refine mr_iald (pc' := 33) dX8_otherEnd_32 rfl (ly8_1 t0).2.1 (ly8_1 t0).2.2 g10 ?_
      refine mr_goto (t := 37) dX8_otherEnd_33 (by decide) ?_
      obtain rfl := Option.some.inj h11
      exact mr_ireturn dX8_otherEnd_37 rfl
    · rw [if_neg c8] at h7
      refine mr_icmp_ne_t (t := 36) dX8_otherEnd_24 (by decide) c8 ?_
      refine mr_iconst (pc' := 37) (v := (-1 : Int32)) dX8_otherEnd_36 rfl (by decide) ?_
      obtain rfl := Option.some.inj h7
      exact mr_ireturn dX8_otherEnd_37 rfl
def f_X0_setOff (v0 : Nat) (v1 : Nat) (v2 : Int32) (v3 : Int32) (S : fS) : Option (Int32 × fS) :=
  if (0 : Int32) ≤ v3 then ((gI S (v0 + 1) 8 v2).bind fun a2 =>
  (f_X8_otherEnd v1 v3 a2 S).bind fun q5 =>
  if (0 : Int32) ≤ q5 then ((sI S (v0 + 1) 8 v2 (-1 : Int32)).bind fun S9 =>
  (sI S9 (v0 + 2) 8 v2 v3).bind fun S12 =>
  (sI S12 (v0 + 3) 8 v2 (0 : Int32)).bind fun S15 =>
  (sI S15 (v0 + 4) 8 v2 q5).bind fun S18 =>
  some ((1 : Int32), S18)) else
  (some ((0 : Int32), S))) else
  (if (0 : Int32) ≤ (-1 : Int32) then ((sI S (v0 + 1) 8 v2 (-1 : Int32)).bind fun S22 =>
  (sI S22 (v0 + 2) 8 v2 v3).bind fun S25 =>
  (sI S25 (v0 + 3) 8 v2 (0 : Int32)).bind fun S28 =>
  (sI S28 (v0 + 4) 8 v2 (-1 : Int32)).bind fun S31 =>
  some ((1 : Int32), S31)) else
  (some ((0 : Int32), S)))
set_option maxHeartbeats 4000000 in
set_option maxRecDepth 100000 in
theorem ok_X0_setOff {X : mm_C} {RR : Nat → Nat → Option Nat} (hR : RRok RR) {v0 : Nat} {v1 : Nat} {v2 : Int32} {v3 : Int32} (t0 : tg v0 = 0) (t1 : tg v1 = 8) {S : fS} {r : Int32 × fS} (h : f_X0_setOff v0 v1 v2 v3 S = some r) : mr X 1 mY_X0_setOff 0 (lv_args 0 [.ref v0, .ref v1, .int v2, .int v3]) [] (MM RR S) (some (.int r.1), MM RR r.2) := by
  unfold f_X0_setOff at h
  show mr X _ _ 0 [(0, .ref v0), (1, .ref v1), (2, .int v2), (3, .int v3)] [] (MM RR S) _
  refine mr_iload_n (pc' := 1) dX0_setOff_0 rfl rfl ?_
  by_cases c1 : (0 : Int32) ≤ v3
  · rw [if_pos c1] at h
    refine mr_if_ge_t (t := 8) dX0_setOff_1 (by decide) c1 ?_
    refine mr_aload_n (pc' := 9) dX0_setOff_8 rfl rfl ?_
    refine mr_iload_n (pc' := 10) dX0_setOff_9 rfl rfl ?_
    refine mr_aload_n (pc' := 11) dX0_setOff_10 rfl rfl ?_
    refine mr_getR (pc' := 14) (ci := 0) (j := 0) (b := (v0 + 1)) hR dX0_setOff_11 rfl rfl t0 (by decide) (by decide) (by decide) rfl (ly0_0 t0).1 ?_
    refine mr_iload_n (pc' := 15) dX0_setOff_14 rfl rfl ?_
    obtain ⟨a2, g3, h4⟩ := Option.bind_eq_some_iff.mp h
    refine mr_iald (pc' := 16) dX0_setOff_15 rfl (ly0_0 t0).2.1 (ly0_0 t0).2.2 g3 ?_
    obtain ⟨q5, g6, h7⟩ := Option.bind_eq_some_iff.mp h4
    refine mr_cv (pc' := 19) (a := v1) (d1 := 0) dX0_setOff_16 rfl rfl rfl rfl rfl t1 (by decide) rfl (by decide) (ok_X8_otherEnd hR t1 g6) ?_
    show mr X _ _ 19 _ [.int q5] (MM RR S) _
    refine mr_istore (pc' := 21) (lv' := [(4, .int q5), (0, .ref v0), (1, .ref v1), (2, .int v2), (3, .int v3)]) dX0_setOff_19 rfl (by decide) rfl ?_
    refine mr_iload (pc' := 23) dX0_setOff_21 rfl rfl ?_
    by_cases c8 : (0 : Int32) ≤ q5
    · rw [if_pos c8] at h7
      refine mr_if_ge_t (t := 28) dX0_setOff_23 (by decide) c8 ?_
      refine mr_aload_n (pc' := 29) dX0_setOff_28 rfl rfl ?_
      refine mr_getR (pc' := 32) (ci := 0) (j := 0) (b := (v0 + 1)) hR dX0_setOff_29 rfl rfl t0 (by decide) (by decide) (by decide) rfl (ly0_0 t0).1 ?_
      refine mr_iload_n (pc' := 33) dX0_setOff_32 rfl rfl ?_
      refine mr_iconst (pc' := 34) (v := (-1 : Int32)) dX0_setOff_33 rfl (by decide) ?_
      obtain ⟨S9, g10, h11⟩ := Option.bind_eq_some_iff.mp h7
      refine mr_iast (pc' := 35) dX0_setOff_34 rfl (ly0_0 t0).2.1 (ly0_0 t0).2.2 g10 ?_
      refine mr_aload_n (pc' := 36) dX0_setOff_35 rfl rfl ?_
      refine mr_getR (pc' := 39) (ci := 0) (j := 1) (b := (v0 + 2)) hR dX0_setOff_36 rfl rfl t0 (by decide) (by decide) (by decide) rfl (ly0_1 t0).1 ?_
      refine mr_iload_n (pc' := 40) dX0_setOff_39 rfl rfl ?_
      refine mr_iload_n (pc' := 41) dX0_setOff_40 rfl rfl ?_
      obtain ⟨S12, g13, h14⟩ := Option.bind_eq_some_iff.mp h11
      refine mr_iast (pc' := 42) dX0_setOff_41 rfl (ly0_1 t0).2.1 (ly0_1 t0).2.2 g13 ?_
      refine mr_aload_n (pc' := 43) dX0_setOff_42 rfl rfl ?_
      refine mr_getR (pc' := 46) (ci := 0) (j := 2) (b := (v0 + 3)) hR dX0_setOff_43 rfl rfl t0 (by decide) (by decide) (by decide) rfl (ly0_2 t0).1 ?_
      refine mr_iload_n (pc' := 47) dX0_setOff_46 rfl rfl ?_
      refine mr_iconst (pc' := 48) (v := (0 : Int32)) dX0_setOff_47 rfl (by decide) ?_
      obtain ⟨S15, g16, h17⟩ := Option.bind_eq_some_iff.mp h14
      refine mr_iast (pc' := 49) dX0_setOff_48 rfl (ly0_2 t0).2.1 (ly0_2 t0).2.2 g16 ?_
      refine mr_aload_n (pc' := 50) dX0_setOff_49 rfl rfl ?_
      refine mr_getR (pc' := 53) (ci := 0) (j := 3) (b := (v0 + 4)) hR dX0_setOff_50 rfl rfl t0 (by decide) (by decide) (by decide) rfl (ly0_3 t0).1 ?_
      refine mr_iload_n (pc' := 54) dX0_setOff_53 rfl rfl ?_
      refine mr_iload (pc' := 56) dX0_setOff_54 rfl rfl ?_
      obtain ⟨S18, g19, h20⟩ := Option.bind_eq_some_iff.mp h17
      refine mr_iast (pc' := 57) dX0_setOff_56 rfl (ly0_3 t0).2.1 (ly0_3 t0).2.2 g19 ?_
      refine mr_iconst (pc' := 58) (v := (1 : Int32)) dX0_setOff_57 rfl (by decide) ?_
      obtain rfl := Option.some.inj h20
      exact mr_zreturn dX0_setOff_58 rfl (by decide)
    · rw [if_neg c8] at h7
      refine mr_if_ge_f (t := 28) (pc' := 26) dX0_setOff_23 (by decide) rfl c8 ?_
      refine mr_iconst (pc' := 27) (v := (0 : Int32)) dX0_setOff_26 rfl (by decide) ?_
      obtain rfl := Option.some.inj h7
      exact mr_zreturn dX0_setOff_27 rfl (by decide)
  · rw [if_neg c1] at h
    refine mr_if_ge_f (t := 8) (pc' := 4) dX0_setOff_1 (by decide) rfl c1 ?_
    refine mr_iconst (pc' := 5) (v := (-1 : Int32)) dX0_setOff_4 rfl (by decide) ?_
    refine mr_goto (t := 19) dX0_setOff_5 (by decide) ?_
    refine mr_istore (pc' := 21) (lv' := [(4, .int (-1 : Int32)), (0, .ref v0), (1, .ref v1), (2, .int v2), (3, .int v3)]) dX0_setOff_19 rfl (by decide) rfl ?_
    refine mr_iload (pc' := 23) dX0_setOff_21 rfl rfl ?_
    by_cases c21 : (0 : Int32) ≤ (-1 : Int32)
    · rw [if_pos c21] at h
      refine mr_if_ge_t (t := 28) dX0_setOff_23 (by decide) c21 ?_
      refine mr_aload_n (pc' := 29) dX0_setOff_28 rfl rfl ?_
      refine mr_getR (pc' := 32) (ci := 0) (j := 0) (b := (v0 + 1)) hR dX0_setOff_29 rfl rfl t0 (by decide) (by decide) (by decide) rfl (ly0_0 t0).1 ?_
      refine mr_iload_n (pc' := 33) dX0_setOff_32 rfl rfl ?_
      refine mr_iconst (pc' := 34) (v := (-1 : Int32)) dX0_setOff_33 rfl (by decide) ?_
      obtain ⟨S22, g23, h24⟩ := Option.bind_eq_some_iff.mp h
      refine mr_iast (pc' := 35) dX0_setOff_34 rfl (ly0_0 t0).2.1 (ly0_0 t0).2.2 g23 ?_
      refine mr_aload_n (pc' := 36) dX0_setOff_35 rfl rfl ?_
      refine mr_getR (pc' := 39) (ci := 0) (j := 1) (b := (v0 + 2)) hR dX0_setOff_36 rfl rfl t0 (by decide) (by decide) (by decide) rfl (ly0_1 t0).1 ?_
      refine mr_iload_n (pc' := 40) dX0_setOff_39 rfl rfl ?_
      refine mr_iload_n (pc' := 41) dX0_setOff_40 rfl rfl ?_
      obtain ⟨S25, g26, h27⟩ := Option.bind_eq_some_iff.mp h24
      refine mr_iast (pc' := 42) dX0_setOff_41 rfl (ly0_1 t0).2.1 (ly0_1 t0).2.2 g26 ?_
      refine mr_aload_n (pc' := 43) dX0_setOff_42 rfl rfl ?_
      refine mr_getR (pc' := 46) (ci := 0) (j := 2) (b := (v0 + 3)) hR dX0_setOff_43 rfl rfl t0 (by decide) (by decide) (by decide) rfl (ly0_2 t0).1 ?_
      refine mr_iload_n (pc' := 47) dX0_setOff_46 rfl rfl ?_
      refine mr_iconst (pc' := 48) (v := (0 : Int32)) dX0_setOff_47 rfl (by decide) ?_
      obtain ⟨S28, g29, h30⟩ := Option.bind_eq_some_iff.mp h27
      refine mr_iast (pc' := 49) dX0_setOff_48 rfl (ly0_2 t0).2.1 (ly0_2 t0).2.2 g29 ?_
      refine mr_aload_n (pc' := 50) dX0_setOff_49 rfl rfl ?_
      refine mr_getR (pc' := 53) (ci := 0) (j := 3) (b := (v0 + 4)) hR dX0_setOff_50 rfl rfl t0 (by decide) (by decide) (by decide) rfl (ly0_3 t0).1 ?_
      refine mr_iload_n (pc' := 54) dX0_setOff_53 rfl rfl ?_
      refine mr_iload (pc' := 56) dX0_setOff_54 rfl rfl ?_
      obtain ⟨S31, g32, h33⟩ := Option.bind_eq_some_iff.mp h30
      refine mr_iast (pc' := 57) dX0_setOff_56 rfl (ly0_3 t0).2.1 (ly0_3 t0).2.2 g32 ?_
      refine mr_iconst (pc' := 58) (v := (1 : Int32)) dX0_setOff_57 rfl (by decide) ?_
      obtain rfl := Option.some.inj h33
      exact mr_zreturn dX0_setOff_58 rfl (by decide)
    · rw [if_neg c21] at h
      refine mr_if_ge_f (t := 28) (pc' := 26) dX0_setOff_23 (by decide) rfl c21 ?_
      refine mr_iconst (pc' := 27) (v := (0 : Int32)) dX0_setOff_26 rfl (by decide) ?_
      obtain rfl := Option.some.inj h
      exact mr_zreturn dX0_setOff_27 rfl (by decide)
def f_X10_go (v1 : Int32) (v2 : Int32) (S : fS) : Option (Int32 × fS) :=
  (f_X10_isStanding v1 S).bind fun q1 =>
  if q1 = (0 : Int32) then (some ((0 : Int32), S)) else
  ((f_X10_isFrom v2 (0 : Int32) ((S.1 4 7) - (1 : Int32)) S).bind fun q5 =>
  if q5 = (0 : Int32) then (some ((0 : Int32), S)) else
  ((f_X0_setOff 11 4 v1 v2 S).bind fun q9 =>
  (bZ q9.1).bind fun z12 => some (z12, q9.2)))
set_option maxHeartbeats 4000000 in
set_option maxRecDepth 100000 in
theorem ok_X10_go {X : mm_C} {RR : Nat → Nat → Option Nat} (hR : RRok RR) {v1 : Int32} {v2 : Int32}  {S : fS} {r : Int32 × fS} (h : f_X10_go v1 v2 S = some r) : mr X 3 mY_X10_go 0 (lv_args 0 [.ref 0, .int v1, .int v2]) [] (MM RR S) (some (.int r.1), MM RR r.2) := by
  unfold f_X10_go at h
  show mr X _ _ 0 [(0, .ref 0), (1, .int v1), (2, .int v2)] [] (MM RR S) _
  refine mr_aload_n (pc' := 1) dX10_go_0 rfl rfl ?_
  refine mr_iload_n (pc' := 2) dX10_go_1 rfl rfl ?_
  obtain ⟨q1, g2, h3⟩ := Option.bind_eq_some_iff.mp h
  refine mr_cv (pc' := 5) (a := 0) (d1 := 2) dX10_go_2 rfl rfl rfl rfl rfl rfl (by decide) rfl (by decide) (ok_X10_isStanding hR  g2) ?_
  show mr X _ _ 5 _ [.int q1] (MM RR S) _
  by_cases c4 : q1 = (0 : Int32)
  · rw [if_pos c4] at h3
    refine mr_if_eq_t (t := 28) dX10_go_5 (by decide) c4 ?_
    refine mr_iconst (pc' := 29) (v := (0 : Int32)) dX10_go_28 rfl (by decide) ?_
    obtain rfl := Option.some.inj h3
    exact mr_zreturn dX10_go_29 rfl (by decide)
  · rw [if_neg c4] at h3
    refine mr_if_eq_f (t := 28) (pc' := 8) dX10_go_5 (by decide) rfl c4 ?_
    refine mr_iload_n (pc' := 9) dX10_go_8 rfl rfl ?_
    refine mr_iconst (pc' := 10) (v := (0 : Int32)) dX10_go_9 rfl (by decide) ?_
    refine mr_aload_n (pc' := 11) dX10_go_10 rfl rfl ?_
    refine mr_getR (pc' := 14) (ci := 10) (j := 1) (b := 3) hR dX10_go_11 rfl rfl rfl (by decide) (by decide) (by decide) rfl rfl ?_
    refine mr_getR (pc' := 17) (ci := 6) (j := 0) (b := 4) hR dX10_go_14 rfl rfl rfl (by decide) (by decide) (by decide) rfl rfl ?_
    refine mr_getI (pc' := 20) (ci := 8) (j := 7) dX10_go_17 rfl rfl rfl (by decide) (by decide) rfl ?_
    refine mr_iconst (pc' := 21) (v := (1 : Int32)) dX10_go_20 rfl (by decide) ?_
    refine mr_isub (pc' := 22) dX10_go_21 rfl ?_
    obtain ⟨q5, g6, h7⟩ := Option.bind_eq_some_iff.mp h3
    refine mr_cs (pc' := 25) (d1 := 0) dX10_go_22 rfl rfl rfl rfl (by decide) (Nat.le_of_ble_eq_true rfl) rfl rfl rfl (by decide) (ok_X10_isFrom hR  g6) ?_
    show mr X _ _ 25 _ [.int q5] (MM RR S) _
    by_cases c8 : q5 = (0 : Int32)
    · rw [if_pos c8] at h7
      refine mr_if_ne_f (t := 30) (pc' := 28) dX10_go_25 (by decide) rfl (not_not_intro c8) ?_
      refine mr_iconst (pc' := 29) (v := (0 : Int32)) dX10_go_28 rfl (by decide) ?_
      obtain rfl := Option.some.inj h7
      exact mr_zreturn dX10_go_29 rfl (by decide)
    · rw [if_neg c8] at h7
      refine mr_if_ne_t (t := 30) dX10_go_25 (by decide) c8 ?_
      refine mr_aload_n (pc' := 31) dX10_go_30 rfl rfl ?_
      refine mr_getR (pc' := 34) (ci := 10) (j := 1) (b := 3) hR dX10_go_31 rfl rfl rfl (by decide) (by decide) (by decide) rfl rfl ?_
      refine mr_getR (pc' := 37) (ci := 6) (j := 1) (b := 11) hR dX10_go_34 rfl rfl rfl (by decide) (by decide) (by decide) rfl rfl ?_
      refine mr_aload_n (pc' := 38) dX10_go_37 rfl rfl ?_
      refine mr_getR (pc' := 41) (ci := 10) (j := 1) (b := 3) hR dX10_go_38 rfl rfl rfl (by decide) (by decide) (by decide) rfl rfl ?_
      refine mr_getR (pc' := 44) (ci := 6) (j := 0) (b := 4) hR dX10_go_41 rfl rfl rfl (by decide) (by decide) (by decide) rfl rfl ?_
      refine mr_iload_n (pc' := 45) dX10_go_44 rfl rfl ?_
      refine mr_iload_n (pc' := 46) dX10_go_45 rfl rfl ?_
      obtain ⟨q9, g10, h11⟩ := Option.bind_eq_some_iff.mp h7
      refine mr_cv (pc' := 49) (a := 11) (d1 := 1) dX10_go_46 rfl rfl rfl rfl rfl rfl (by decide) rfl (by decide) (ok_X0_setOff hR rfl rfl g10) ?_
      show mr X _ _ 49 _ [.int q9.1] (MM RR q9.2) _
      obtain ⟨z12, g13, h14⟩ := Option.bind_eq_some_iff.mp h11
      obtain ⟨g15, e16⟩ := mm_ifs g13
      cases e16
      cases h14
      exact mr_zreturn dX10_go_49 rfl g15
def f_X10_isRuleOrNone (v1 : Int32) (S : fS) : Option (Int32) :=
  (f_X10_isFrom v1 (-1 : Int32) ((S.1 0 10) - (1 : Int32)) S).bind fun q1 =>
  (bZ q1).bind fun z4 => some z4
set_option maxHeartbeats 4000000 in
set_option maxRecDepth 100000 in
theorem ok_X10_isRuleOrNone {X : mm_C} {RR : Nat → Nat → Option Nat} (hR : RRok RR) {v1 : Int32}  {S : fS} {r : Int32} (h : f_X10_isRuleOrNone v1 S = some r) : mr X 1 mY_X10_isRuleOrNone 0 (lv_args 0 [.ref 0, .int v1]) [] (MM RR S) (some (.int r), MM RR S) := by
  unfold f_X10_isRuleOrNone at h
  show mr X _ _ 0 [(0, .ref 0), (1, .int v1)] [] (MM RR S) _
  refine mr_iload_n (pc' := 1) dX10_isRuleOrNone_0 rfl rfl ?_
  refine mr_iconst (pc' := 2) (v := (-1 : Int32)) dX10_isRuleOrNone_1 rfl (by decide) ?_
  refine mr_aload_n (pc' := 3) dX10_isRuleOrNone_2 rfl rfl ?_
  refine mr_getI (pc' := 6) (ci := 10) (j := 10) dX10_isRuleOrNone_3 rfl rfl rfl (by decide) (by decide) rfl ?_
  refine mr_iconst (pc' := 7) (v := (1 : Int32)) dX10_isRuleOrNone_6 rfl (by decide) ?_
  refine mr_isub (pc' := 8) dX10_isRuleOrNone_7 rfl ?_
  obtain ⟨q1, g2, h3⟩ := Option.bind_eq_some_iff.mp h
  refine mr_cs (pc' := 11) (d1 := 0) dX10_isRuleOrNone_8 rfl rfl rfl rfl (by decide) (Nat.le_of_ble_eq_true rfl) rfl rfl rfl (by decide) (ok_X10_isFrom hR  g2) ?_
  show mr X _ _ 11 _ [.int q1] (MM RR S) _
  obtain ⟨z4, g5, h6⟩ := Option.bind_eq_some_iff.mp h3
  obtain ⟨g7, e8⟩ := mm_ifs g5
  cases e8
  cases h6
  exact mr_zreturn dX10_isRuleOrNone_11 rfl g7
def f_X10_ruleOrNull (v1 : Int32) (S : fS) : Option (Option Nat) :=
  (f_X10_isFrom v1 (0 : Int32) ((S.1 0 10) - (1 : Int32)) S).bind fun q1 =>
  if q1 = (0 : Int32) then (some none) else
  ((gA23 v1).bind fun a5 =>
  some (some a5))
set_option maxHeartbeats 4000000 in
set_option maxRecDepth 100000 in
theorem ok_X10_ruleOrNull {X : mm_C} {RR : Nat → Nat → Option Nat} (hR : RRok RR) {v1 : Int32}  {S : fS} {r : Option Nat} (h : f_X10_ruleOrNull v1 S = some r) : mr X 1 mY_X10_ruleOrNull 0 (lv_args 0 [.ref 0, .int v1]) [] (MM RR S) (some (mm_rv r), MM RR S) := by
  unfold f_X10_ruleOrNull at h
  show mr X _ _ 0 [(0, .ref 0), (1, .int v1)] [] (MM RR S) _
  refine mr_iload_n (pc' := 1) dX10_ruleOrNull_0 rfl rfl ?_
  refine mr_iconst (pc' := 2) (v := (0 : Int32)) dX10_ruleOrNull_1 rfl (by decide) ?_
  refine mr_aload_n (pc' := 3) dX10_ruleOrNull_2 rfl rfl ?_
  refine mr_getI (pc' := 6) (ci := 10) (j := 10) dX10_ruleOrNull_3 rfl rfl rfl (by decide) (by decide) rfl ?_
  refine mr_iconst (pc' := 7) (v := (1 : Int32)) dX10_ruleOrNull_6 rfl (by decide) ?_
  refine mr_isub (pc' := 8) dX10_ruleOrNull_7 rfl ?_
  obtain ⟨q1, g2, h3⟩ := Option.bind_eq_some_iff.mp h
  refine mr_cs (pc' := 11) (d1 := 0) dX10_ruleOrNull_8 rfl rfl rfl rfl (by decide) (Nat.le_of_ble_eq_true rfl) rfl rfl rfl (by decide) (ok_X10_isFrom hR  g2) ?_
  show mr X _ _ 11 _ [.int q1] (MM RR S) _
  by_cases c4 : q1 = (0 : Int32)
  · rw [if_pos c4] at h3
    refine mr_if_eq_t (t := 23) dX10_ruleOrNull_11 (by decide) c4 ?_
    refine mr_null (pc' := 24) dX10_ruleOrNull_23 rfl ?_
    obtain rfl := Option.some.inj h3
    exact mr_areturn (v := none) (n := "SlowerAbove$Rule") dX10_ruleOrNull_24 rfl
  · rw [if_neg c4] at h3
    refine mr_if_eq_f (t := 23) (pc' := 14) dX10_ruleOrNull_11 (by decide) rfl c4 ?_
    refine mr_aload_n (pc' := 15) dX10_ruleOrNull_14 rfl rfl ?_
    refine mr_getR (pc' := 18) (ci := 10) (j := 3) (b := 23) hR dX10_ruleOrNull_15 rfl rfl rfl (by decide) (by decide) (by decide) rfl rfl ?_
    refine mr_iload_n (pc' := 19) dX10_ruleOrNull_18 rfl rfl ?_
    obtain ⟨a5, g6, h7⟩ := Option.bind_eq_some_iff.mp h3
    refine mr_aald23 (pc' := 20) hR dX10_ruleOrNull_19 rfl g6 ?_
    refine mr_goto (t := 24) dX10_ruleOrNull_20 (by decide) ?_
    obtain rfl := Option.some.inj h7
    exact mr_areturn (v := (some a5)) (n := "SlowerAbove$Rule") dX10_ruleOrNull_24 rfl
theorem f_X10_ruleOrNull_tg {v : Int32} {S : fS} {o : Option Nat} (h : f_X10_ruleOrNull v S = some o) : ∀ a, o = some a → tg a = 4 := by
  intro a ha
  subst ha
  unfold f_X10_ruleOrNull at h
  obtain ⟨q, -, h⟩ := Option.bind_eq_some_iff.mp h
  split at h
  · cases h
  · obtain ⟨b, hb, h⟩ := Option.bind_eq_some_iff.mp h
    cases h
    exact gA23_tg hb
def f_X4_pop (v0 : Nat) (S : fS) : Option (Int64 × fS) :=
  if (S.1 v0 3) ≤ (0 : Int32) then (some ((0 : Int64), S)) else
  (if (S.1 v0 3) ≤ (60 : Int32) then ((some (pI S v0 3 ((S.1 v0 3) - (1 : Int32)))).bind fun S3 =>
  (gL S3 (v0 + 2) 60 (S3.1 v0 3)).bind fun a6 =>
  some (a6, S3)) else
  (some ((0 : Int64), S)))
set_option maxHeartbeats 4000000 in
set_option maxRecDepth 100000 in
theorem ok_X4_pop {X : mm_C} {RR : Nat → Nat → Option Nat} (hR : RRok RR) {v0 : Nat} (t0 : tg v0 = 4) {S : fS} {r : Int64 × fS} (h : f_X4_pop v0 S = some r) : mr X 0 mY_X4_pop 0 (lv_args 0 [.ref v0]) [] (MM RR S) (some (.long r.1), MM RR r.2) := by
  unfold f_X4_pop at h
  show mr X _ _ 0 [(0, .ref v0)] [] (MM RR S) _
  refine mr_aload_n (pc' := 1) dX4_pop_0 rfl rfl ?_
  refine mr_getI (pc' := 4) (ci := 4) (j := 3) dX4_pop_1 rfl rfl t0 (by decide) (by decide) rfl ?_
  by_cases c1 : (S.1 v0 3) ≤ (0 : Int32)
  · rw [if_pos c1] at h
    refine mr_if_le_t (t := 16) dX4_pop_4 (by decide) c1 ?_
    refine mr_lconst (pc' := 17) (v := (0 : Int64)) dX4_pop_16 rfl (by decide) ?_
    obtain rfl := Option.some.inj h
    exact mr_lreturn dX4_pop_17 rfl
  · rw [if_neg c1] at h
    refine mr_if_le_f (t := 16) (pc' := 7) dX4_pop_4 (by decide) rfl c1 ?_
    refine mr_aload_n (pc' := 8) dX4_pop_7 rfl rfl ?_
    refine mr_getI (pc' := 11) (ci := 4) (j := 3) dX4_pop_8 rfl rfl t0 (by decide) (by decide) rfl ?_
    refine mr_bipush (pc' := 13) (v := (60 : Int32)) dX4_pop_11 rfl (by decide) ?_
    by_cases c2 : (S.1 v0 3) ≤ (60 : Int32)
    · rw [if_pos c2] at h
      refine mr_icmp_le_t (t := 18) dX4_pop_13 (by decide) c2 ?_
      refine mr_aload_n (pc' := 19) dX4_pop_18 rfl rfl ?_
      refine mr_dup_ref (pc' := 20) dX4_pop_19 rfl ?_
      refine mr_getI (pc' := 23) (ci := 4) (j := 3) dX4_pop_20 rfl rfl t0 (by decide) (by decide) rfl ?_
      refine mr_iconst (pc' := 24) (v := (1 : Int32)) dX4_pop_23 rfl (by decide) ?_
      refine mr_isub (pc' := 25) dX4_pop_24 rfl ?_
      obtain ⟨S3, g4, h5⟩ := Option.bind_eq_some_iff.mp h
      refine mr_putI (pc' := 28) (ci := 4) (j := 3) dX4_pop_25 rfl rfl t0 (by decide) (by decide) rfl rfl ?_
      rw [Option.some.inj g4]
      refine mr_aload_n (pc' := 29) dX4_pop_28 rfl rfl ?_
      refine mr_getR (pc' := 32) (ci := 4) (j := 1) (b := (v0 + 2)) hR dX4_pop_29 rfl rfl t0 (by decide) (by decide) (by decide) rfl (ly4_1 t0).1 ?_
      refine mr_aload_n (pc' := 33) dX4_pop_32 rfl rfl ?_
      refine mr_getI (pc' := 36) (ci := 4) (j := 3) dX4_pop_33 rfl rfl t0 (by decide) (by decide) rfl ?_
      obtain ⟨a6, g7, h8⟩ := Option.bind_eq_some_iff.mp h5
      refine mr_lald (pc' := 37) dX4_pop_36 rfl (ly4_1 t0).2.1 (ly4_1 t0).2.2 g7 ?_
      obtain rfl := Option.some.inj h8
      exact mr_lreturn dX4_pop_37 rfl
    · rw [if_neg c2] at h
      refine mr_icmp_le_f (t := 18) (pc' := 16) dX4_pop_13 (by decide) rfl c2 ?_
      refine mr_lconst (pc' := 17) (v := (0 : Int64)) dX4_pop_16 rfl (by decide) ?_
      obtain rfl := Option.some.inj h
      exact mr_lreturn dX4_pop_17 rfl
def f_X4_push (v0 : Nat) (v1 : Int64) (S : fS) : Option (fS) :=
  if (S.1 v0 3) < (0 : Int32) then (some S) else
  (if (60 : Int32) ≤ (S.1 v0 3) then (some S) else
  ((sL S (v0 + 2) 60 (S.1 v0 3) v1).bind fun S3 =>
  (some (pI S3 v0 3 ((S3.1 v0 3) + (1 : Int32)))).bind fun S6 =>
  some S6))
set_option maxHeartbeats 4000000 in
set_option maxRecDepth 100000 in
theorem ok_X4_push {X : mm_C} {RR : Nat → Nat → Option Nat} (hR : RRok RR) {v0 : Nat} {v1 : Int64} (t0 : tg v0 = 4) {S : fS} {r : fS} (h : f_X4_push v0 v1 S = some r) : mr X 0 mY_X4_push 0 (lv_args 0 [.ref v0, .long v1]) [] (MM RR S) (none, MM RR r) := by
  unfold f_X4_push at h
  show mr X _ _ 0 [(0, .ref v0), (1, .long v1)] [] (MM RR S) _
  refine mr_aload_n (pc' := 1) dX4_push_0 rfl rfl ?_
  refine mr_getI (pc' := 4) (ci := 4) (j := 3) dX4_push_1 rfl rfl t0 (by decide) (by decide) rfl ?_
  by_cases c1 : (S.1 v0 3) < (0 : Int32)
  · rw [if_pos c1] at h
    refine mr_if_lt_t (t := 36) dX4_push_4 (by decide) c1 ?_
    obtain rfl := Option.some.inj h
    exact mr_return dX4_push_36 rfl
  · rw [if_neg c1] at h
    refine mr_if_lt_f (t := 36) (pc' := 7) dX4_push_4 (by decide) rfl c1 ?_
    refine mr_aload_n (pc' := 8) dX4_push_7 rfl rfl ?_
    refine mr_getI (pc' := 11) (ci := 4) (j := 3) dX4_push_8 rfl rfl t0 (by decide) (by decide) rfl ?_
    refine mr_bipush (pc' := 13) (v := (60 : Int32)) dX4_push_11 rfl (by decide) ?_
    by_cases c2 : (60 : Int32) ≤ (S.1 v0 3)
    · rw [if_pos c2] at h
      refine mr_icmp_ge_t (t := 36) dX4_push_13 (by decide) c2 ?_
      obtain rfl := Option.some.inj h
      exact mr_return dX4_push_36 rfl
    · rw [if_neg c2] at h
      refine mr_icmp_ge_f (t := 36) (pc' := 16) dX4_push_13 (by decide) rfl c2 ?_
      refine mr_aload_n (pc' := 17) dX4_push_16 rfl rfl ?_
      refine mr_getR (pc' := 20) (ci := 4) (j := 1) (b := (v0 + 2)) hR dX4_push_17 rfl rfl t0 (by decide) (by decide) (by decide) rfl (ly4_1 t0).1 ?_
      refine mr_aload_n (pc' := 21) dX4_push_20 rfl rfl ?_
      refine mr_getI (pc' := 24) (ci := 4) (j := 3) dX4_push_21 rfl rfl t0 (by decide) (by decide) rfl ?_
      refine mr_lload_n (pc' := 25) dX4_push_24 rfl rfl ?_
      obtain ⟨S3, g4, h5⟩ := Option.bind_eq_some_iff.mp h
      refine mr_last (pc' := 26) dX4_push_25 rfl (ly4_1 t0).2.1 (ly4_1 t0).2.2 g4 ?_
      refine mr_aload_n (pc' := 27) dX4_push_26 rfl rfl ?_
      refine mr_dup_ref (pc' := 28) dX4_push_27 rfl ?_
      refine mr_getI (pc' := 31) (ci := 4) (j := 3) dX4_push_28 rfl rfl t0 (by decide) (by decide) rfl ?_
      refine mr_iconst (pc' := 32) (v := (1 : Int32)) dX4_push_31 rfl (by decide) ?_
      refine mr_iadd (pc' := 33) dX4_push_32 rfl ?_
      obtain ⟨S6, g7, h8⟩ := Option.bind_eq_some_iff.mp h5
      refine mr_putI (pc' := 36) (ci := 4) (j := 3) dX4_push_33 rfl rfl t0 (by decide) (by decide) rfl rfl ?_
      rw [Option.some.inj g7]
      obtain rfl := Option.some.inj h8
      exact mr_return dX4_push_36 rfl
def lp_X0_eldest_4 (p0 : Nat) (S : fS) (K : Int32 → Option (Int32)) : Nat → Int32 → Int32 → Option (Int32)
  | 0, _, _ => none
  | n + 1, p1, p2 =>
    if (S.1 p0 5) ≤ p2 then (K p1) else
    ((gL S (p0 + 5) 8 p2).bind fun a2 =>
    (gL S (p0 + 5) 8 p1).bind fun a5 =>
    if a2 ≤ a5 then (lp_X0_eldest_4 p0 S K n p1 (p2 + (1 : Int32))) else
    (lp_X0_eldest_4 p0 S K n p2 (p2 + (1 : Int32))))
set_option maxHeartbeats 4000000 in
set_option maxRecDepth 100000 in
theorem ok_lp_X0_eldest_4 {X : mm_C} {RR : Nat → Nat → Option Nat} (hR : RRok RR) {p0 : Nat} (t0 : tg p0 = 0) {S : fS} {K : Int32 → Option (Int32)} {r : Int32} (hK : ∀ (k1 : Int32), K k1 = some r → mr X 0 mY_X0_eldest 40 [(1, .int k1)] [] (MM RR S) (some (.int r), MM RR S)) : ∀ (n : Nat) (p1 : Int32) (p2 : Int32), lp_X0_eldest_4 p0 S K n p1 p2 = some r → mr X 0 mY_X0_eldest 4 [(0, .ref p0), (1, .int p1), (2, .int p2)] [] (MM RR S) (some (.int r), MM RR S) := by
  intro n
  induction n with
  | zero => intro p1 p2 h; exact mm_no h
  | succ n ih =>
    intro p1 p2 h
    unfold lp_X0_eldest_4 at h
    refine mr_iload_n (pc' := 5) dX0_eldest_4 rfl rfl ?_
    refine mr_aload_n (pc' := 6) dX0_eldest_5 rfl rfl ?_
    refine mr_getI (pc' := 9) (ci := 0) (j := 5) dX0_eldest_6 rfl rfl t0 (by decide) (by decide) rfl ?_
    by_cases c1 : (S.1 p0 5) ≤ p2
    · rw [if_pos c1] at h
      refine mr_icmp_ge_t (t := 40) dX0_eldest_9 (by decide) c1 ?_
      exact mr_sub [(1, .int p1)] ⟨rfl, trivial⟩ rfl (hK _  h)
    · rw [if_neg c1] at h
      refine mr_icmp_ge_f (t := 40) (pc' := 12) dX0_eldest_9 (by decide) rfl c1 ?_
      refine mr_aload_n (pc' := 13) dX0_eldest_12 rfl rfl ?_
      refine mr_getR (pc' := 16) (ci := 0) (j := 4) (b := (p0 + 5)) hR dX0_eldest_13 rfl rfl t0 (by decide) (by decide) (by decide) rfl (ly0_4 t0).1 ?_
      refine mr_iload_n (pc' := 17) dX0_eldest_16 rfl rfl ?_
      obtain ⟨a2, g3, h4⟩ := Option.bind_eq_some_iff.mp h
      refine mr_lald (pc' := 18) dX0_eldest_17 rfl (ly0_4 t0).2.1 (ly0_4 t0).2.2 g3 ?_
      refine mr_aload_n (pc' := 19) dX0_eldest_18 rfl rfl ?_
      refine mr_getR (pc' := 22) (ci := 0) (j := 4) (b := (p0 + 5)) hR dX0_eldest_19 rfl rfl t0 (by decide) (by decide) (by decide) rfl (ly0_4 t0).1 ?_
      refine mr_iload_n (pc' := 23) dX0_eldest_22 rfl rfl ?_
      obtain ⟨a5, g6, h7⟩ := Option.bind_eq_some_iff.mp h4
      refine mr_lald (pc' := 24) dX0_eldest_23 rfl (ly0_4 t0).2.1 (ly0_4 t0).2.2 g6 ?_
      by_cases c8 : a2 ≤ a5
      · rw [if_pos c8] at h7
        refine mr_lcmp_le_t (t := 32) dX0_eldest_24 rfl dX0_eldest_25 (by decide) c8 ?_
        refine mr_iload_n (pc' := 33) dX0_eldest_32 rfl rfl ?_
        refine mr_istore_n (pc' := 34) (lv' := [(1, .int p1), (0, .ref p0), (2, .int p2)]) dX0_eldest_33 rfl (by decide) rfl ?_
        refine mr_iinc (pc' := 37) (x' := (p2 + (1 : Int32))) (lv' := [(2, .int (p2 + (1 : Int32))), (1, .int p1), (0, .ref p0)]) dX0_eldest_34 rfl (by decide) rfl rfl rfl ?_
        refine mr_goto (t := 4) dX0_eldest_37 (by decide) ?_
        exact mr_sub [(0, .ref p0), (1, .int p1), (2, .int (p2 + (1 : Int32)))] ⟨rfl, rfl, rfl, trivial⟩ rfl (ih _ _  h7)
      · rw [if_neg c8] at h7
        refine mr_lcmp_le_f (t := 32) (pc' := 28) dX0_eldest_24 rfl dX0_eldest_25 (by decide) rfl c8 ?_
        refine mr_iload_n (pc' := 29) dX0_eldest_28 rfl rfl ?_
        refine mr_goto (t := 33) dX0_eldest_29 (by decide) ?_
        refine mr_istore_n (pc' := 34) (lv' := [(1, .int p2), (0, .ref p0), (2, .int p2)]) dX0_eldest_33 rfl (by decide) rfl ?_
        refine mr_iinc (pc' := 37) (x' := (p2 + (1 : Int32))) (lv' := [(2, .int (p2 + (1 : Int32))), (1, .int p2), (0, .ref p0)]) dX0_eldest_34 rfl (by decide) rfl rfl rfl ?_
        refine mr_goto (t := 4) dX0_eldest_37 (by decide) ?_
        exact mr_sub [(0, .ref p0), (1, .int p2), (2, .int (p2 + (1 : Int32)))] ⟨rfl, rfl, rfl, trivial⟩ rfl (ih _ _  h7)
def f_X0_eldest (v0 : Nat) (S : fS) : Option (Int32) :=
  lp_X0_eldest_4 v0 S (fun u9 => some u9) FU (0 : Int32) (1 : Int32)
set_option maxHeartbeats 4000000 in
set_option maxRecDepth 100000 in
theorem ok_X0_eldest {X : mm_C} {RR : Nat → Nat → Option Nat} (hR : RRok RR) {v0 : Nat} (t0 : tg v0 = 0) {S : fS} {r : Int32} (h : f_X0_eldest v0 S = some r) : mr X 0 mY_X0_eldest 0 (lv_args 0 [.ref v0]) [] (MM RR S) (some (.int r), MM RR S) := by
  unfold f_X0_eldest at h
  show mr X _ _ 0 [(0, .ref v0)] [] (MM RR S) _
  refine mr_iconst (pc' := 1) (v := (0 : Int32)) dX0_eldest_0 rfl (by decide) ?_
  refine mr_istore_n (pc' := 2) (lv' := [(1, .int (0 : Int32)), (0, .ref v0)]) dX0_eldest_1 rfl (by decide) rfl ?_
  refine mr_iconst (pc' := 3) (v := (1 : Int32)) dX0_eldest_2 rfl (by decide) ?_
  refine mr_istore_n (pc' := 4) (lv' := [(2, .int (1 : Int32)), (1, .int (0 : Int32)), (0, .ref v0)]) dX0_eldest_3 rfl (by decide) rfl ?_
  refine mr_sub [(0, .ref v0), (1, .int (0 : Int32)), (2, .int (1 : Int32))] ⟨rfl, rfl, rfl, trivial⟩ rfl ?_
  refine ok_lp_X0_eldest_4 hR t0 (fun u9 h10 => ?_) FU _ _  h
  refine mr_iload_n (pc' := 41) dX0_eldest_40 rfl rfl ?_
  obtain rfl := Option.some.inj h10
  exact mr_ireturn dX0_eldest_41 rfl
def lp_X0_youngest_4 (p0 : Nat) (S : fS) (K : Int32 → Option (Int32)) : Nat → Int32 → Int32 → Option (Int32)
  | 0, _, _ => none
  | n + 1, p1, p2 =>
    if (S.1 p0 5) ≤ p2 then (K p1) else
    ((gL S (p0 + 5) 8 p2).bind fun a2 =>
    (gL S (p0 + 5) 8 p1).bind fun a5 =>
    if a5 ≤ a2 then (lp_X0_youngest_4 p0 S K n p1 (p2 + (1 : Int32))) else
    (lp_X0_youngest_4 p0 S K n p2 (p2 + (1 : Int32))))
set_option maxHeartbeats 4000000 in
set_option maxRecDepth 100000 in
theorem ok_lp_X0_youngest_4 {X : mm_C} {RR : Nat → Nat → Option Nat} (hR : RRok RR) {p0 : Nat} (t0 : tg p0 = 0) {S : fS} {K : Int32 → Option (Int32)} {r : Int32} (hK : ∀ (k1 : Int32), K k1 = some r → mr X 0 mY_X0_youngest 40 [(1, .int k1)] [] (MM RR S) (some (.int r), MM RR S)) : ∀ (n : Nat) (p1 : Int32) (p2 : Int32), lp_X0_youngest_4 p0 S K n p1 p2 = some r → mr X 0 mY_X0_youngest 4 [(0, .ref p0), (1, .int p1), (2, .int p2)] [] (MM RR S) (some (.int r), MM RR S) := by
  intro n
  induction n with
  | zero => intro p1 p2 h; exact mm_no h
  | succ n ih =>
    intro p1 p2 h
    unfold lp_X0_youngest_4 at h
    refine mr_iload_n (pc' := 5) dX0_youngest_4 rfl rfl ?_
    refine mr_aload_n (pc' := 6) dX0_youngest_5 rfl rfl ?_
    refine mr_getI (pc' := 9) (ci := 0) (j := 5) dX0_youngest_6 rfl rfl t0 (by decide) (by decide) rfl ?_
    by_cases c1 : (S.1 p0 5) ≤ p2
    · rw [if_pos c1] at h
      refine mr_icmp_ge_t (t := 40) dX0_youngest_9 (by decide) c1 ?_
      exact mr_sub [(1, .int p1)] ⟨rfl, trivial⟩ rfl (hK _  h)
    · rw [if_neg c1] at h
      refine mr_icmp_ge_f (t := 40) (pc' := 12) dX0_youngest_9 (by decide) rfl c1 ?_
      refine mr_aload_n (pc' := 13) dX0_youngest_12 rfl rfl ?_
      refine mr_getR (pc' := 16) (ci := 0) (j := 4) (b := (p0 + 5)) hR dX0_youngest_13 rfl rfl t0 (by decide) (by decide) (by decide) rfl (ly0_4 t0).1 ?_
      refine mr_iload_n (pc' := 17) dX0_youngest_16 rfl rfl ?_
      obtain ⟨a2, g3, h4⟩ := Option.bind_eq_some_iff.mp h
      refine mr_lald (pc' := 18) dX0_youngest_17 rfl (ly0_4 t0).2.1 (ly0_4 t0).2.2 g3 ?_
      refine mr_aload_n (pc' := 19) dX0_youngest_18 rfl rfl ?_
      refine mr_getR (pc' := 22) (ci := 0) (j := 4) (b := (p0 + 5)) hR dX0_youngest_19 rfl rfl t0 (by decide) (by decide) (by decide) rfl (ly0_4 t0).1 ?_
      refine mr_iload_n (pc' := 23) dX0_youngest_22 rfl rfl ?_
      obtain ⟨a5, g6, h7⟩ := Option.bind_eq_some_iff.mp h4
      refine mr_lald (pc' := 24) dX0_youngest_23 rfl (ly0_4 t0).2.1 (ly0_4 t0).2.2 g6 ?_
      by_cases c8 : a5 ≤ a2
      · rw [if_pos c8] at h7
        refine mr_lcmp_ge_t (t := 32) dX0_youngest_24 rfl dX0_youngest_25 (by decide) c8 ?_
        refine mr_iload_n (pc' := 33) dX0_youngest_32 rfl rfl ?_
        refine mr_istore_n (pc' := 34) (lv' := [(1, .int p1), (0, .ref p0), (2, .int p2)]) dX0_youngest_33 rfl (by decide) rfl ?_
        refine mr_iinc (pc' := 37) (x' := (p2 + (1 : Int32))) (lv' := [(2, .int (p2 + (1 : Int32))), (1, .int p1), (0, .ref p0)]) dX0_youngest_34 rfl (by decide) rfl rfl rfl ?_
        refine mr_goto (t := 4) dX0_youngest_37 (by decide) ?_
        exact mr_sub [(0, .ref p0), (1, .int p1), (2, .int (p2 + (1 : Int32)))] ⟨rfl, rfl, rfl, trivial⟩ rfl (ih _ _  h7)
      · rw [if_neg c8] at h7
        refine mr_lcmp_ge_f (t := 32) (pc' := 28) dX0_youngest_24 rfl dX0_youngest_25 (by decide) rfl c8 ?_
        refine mr_iload_n (pc' := 29) dX0_youngest_28 rfl rfl ?_
        refine mr_goto (t := 33) dX0_youngest_29 (by decide) ?_
        refine mr_istore_n (pc' := 34) (lv' := [(1, .int p2), (0, .ref p0), (2, .int p2)]) dX0_youngest_33 rfl (by decide) rfl ?_
        refine mr_iinc (pc' := 37) (x' := (p2 + (1 : Int32))) (lv' := [(2, .int (p2 + (1 : Int32))), (1, .int p2), (0, .ref p0)]) dX0_youngest_34 rfl (by decide) rfl rfl rfl ?_
        refine mr_goto (t := 4) dX0_youngest_37 (by decide) ?_
        exact mr_sub [(0, .ref p0), (1, .int p2), (2, .int (p2 + (1 : Int32)))] ⟨rfl, rfl, rfl, trivial⟩ rfl (ih _ _  h7)
def f_X0_youngest (v0 : Nat) (S : fS) : Option (Int32) :=
  lp_X0_youngest_4 v0 S (fun u9 => some u9) FU (0 : Int32) (1 : Int32)
set_option maxHeartbeats 4000000 in
set_option maxRecDepth 100000 in
theorem ok_X0_youngest {X : mm_C} {RR : Nat → Nat → Option Nat} (hR : RRok RR) {v0 : Nat} (t0 : tg v0 = 0) {S : fS} {r : Int32} (h : f_X0_youngest v0 S = some r) : mr X 0 mY_X0_youngest 0 (lv_args 0 [.ref v0]) [] (MM RR S) (some (.int r), MM RR S) := by
  unfold f_X0_youngest at h
  show mr X _ _ 0 [(0, .ref v0)] [] (MM RR S) _
  refine mr_iconst (pc' := 1) (v := (0 : Int32)) dX0_youngest_0 rfl (by decide) ?_
  refine mr_istore_n (pc' := 2) (lv' := [(1, .int (0 : Int32)), (0, .ref v0)]) dX0_youngest_1 rfl (by decide) rfl ?_
  refine mr_iconst (pc' := 3) (v := (1 : Int32)) dX0_youngest_2 rfl (by decide) ?_
  refine mr_istore_n (pc' := 4) (lv' := [(2, .int (1 : Int32)), (1, .int (0 : Int32)), (0, .ref v0)]) dX0_youngest_3 rfl (by decide) rfl ?_
  refine mr_sub [(0, .ref v0), (1, .int (0 : Int32)), (2, .int (1 : Int32))] ⟨rfl, rfl, rfl, trivial⟩ rfl ?_
  refine ok_lp_X0_youngest_4 hR t0 (fun u9 h10 => ?_) FU _ _  h
  refine mr_iload_n (pc' := 41) dX0_youngest_40 rfl rfl ?_
  obtain rfl := Option.some.inj h10
  exact mr_ireturn dX0_youngest_41 rfl
def f_X0_wordOf (v0 : Nat) (v1 : Nat) (v2 : Int32) (v3 : Int32) (S : fS) : Option (Int64) :=
  if v3 = (0 : Int32) then (some (Int32.toInt64 (S.1 v0 6))) else
  if v3 = (1 : Int32) then (some (Int32.toInt64 v2)) else
  if v3 = (2 : Int32) then ((gI S (v0 + 1) 8 v2).bind fun a4 =>
  some (Int32.toInt64 a4)) else
  if v3 = (3 : Int32) then ((gL S (v0 + 5) 8 v2).bind fun a8 =>
  (dL a8 (232792560 : Int64)).bind fun a11 =>
  some a11) else
  if v3 = (4 : Int32) then ((gI S (v0 + 1) 8 v2).bind fun a15 =>
  (f_X0_standingOn v0 a15 S).bind fun q18 =>
  some (Int32.toInt64 q18)) else
  if v3 = (5 : Int32) then ((gI S (v0 + 1) 8 v2).bind fun a22 =>
  (gL S (v1 + 1) 10 a22).bind fun a25 =>
  (dL ((1000 : Int64) * a25) (232792560 : Int64)).bind fun a28 =>
  some a28) else
  if v3 = (6 : Int32) then ((gL S (v0 + 5) 8 v2).bind fun a32 =>
  (f_X0_eldest v0 S).bind fun q35 =>
  (gL S (v0 + 5) 8 q35).bind fun a38 =>
  if a32 = a38 then (some (1 : Int64)) else
  (some (0 : Int64))) else
  ((gL S (v0 + 5) 8 v2).bind fun a42 =>
  (f_X0_youngest v0 S).bind fun q45 =>
  (gL S (v0 + 5) 8 q45).bind fun a48 =>
  if a42 = a48 then (some (1 : Int64)) else
  (some (0 : Int64)))
set_option maxHeartbeats 4000000 in
set_option maxRecDepth 100000 in
theorem ok_X0_wordOf {X : mm_C} {RR : Nat → Nat → Option Nat} (hR : RRok RR) {v0 : Nat} {v1 : Nat} {v2 : Int32} {v3 : Int32} (t0 : tg v0 = 0) (t1 : tg v1 = 8) {S : fS} {r : Int64} (h : f_X0_wordOf v0 v1 v2 v3 S = some r) : mr X 1 mY_X0_wordOf 0 (lv_args 0 [.ref v0, .ref v1, .int v2, .int v3]) [] (MM RR S) (some (.long r), MM RR S) := by
  unfold f_X0_wordOf at h
  show mr X _ _ 0 [(0, .ref v0), (1, .ref v1), (2, .int v2), (3, .int v3)] [] (MM RR S) _
  refine mr_iload_n (pc' := 1) dX0_wordOf_0 rfl rfl ?_
  by_cases c1 : v3 = (0 : Int32)
  · rw [if_pos c1] at h
    refine mr_sw_in (t := 44) (v := (0 : Int32)) dX0_wordOf_1 c1 rfl ?_
    refine mr_aload_n (pc' := 45) dX0_wordOf_44 rfl rfl ?_
    refine mr_getI (pc' := 48) (ci := 0) (j := 6) dX0_wordOf_45 rfl rfl t0 (by decide) (by decide) rfl ?_
    refine mr_i2l (pc' := 49) dX0_wordOf_48 rfl ?_
    obtain rfl := Option.some.inj h
    exact mr_lreturn dX0_wordOf_49 rfl
  rw [if_neg c1] at h
  by_cases c2 : v3 = (1 : Int32)
  · rw [if_pos c2] at h
    refine mr_sw_in (t := 50) (v := (1 : Int32)) dX0_wordOf_1 c2 rfl ?_
    refine mr_iload_n (pc' := 51) dX0_wordOf_50 rfl rfl ?_
    refine mr_i2l (pc' := 52) dX0_wordOf_51 rfl ?_
    obtain rfl := Option.some.inj h
    exact mr_lreturn dX0_wordOf_52 rfl
  rw [if_neg c2] at h
  by_cases c3 : v3 = (2 : Int32)
  · rw [if_pos c3] at h
    refine mr_sw_in (t := 53) (v := (2 : Int32)) dX0_wordOf_1 c3 rfl ?_
    refine mr_aload_n (pc' := 54) dX0_wordOf_53 rfl rfl ?_
    refine mr_getR (pc' := 57) (ci := 0) (j := 0) (b := (v0 + 1)) hR dX0_wordOf_54 rfl rfl t0 (by decide) (by decide) (by decide) rfl (ly0_0 t0).1 ?_
    refine mr_iload_n (pc' := 58) dX0_wordOf_57 rfl rfl ?_
    obtain ⟨a4, g5, h6⟩ := Option.bind_eq_some_iff.mp h
    refine mr_iald (pc' := 59) dX0_wordOf_58 rfl (ly0_0 t0).2.1 (ly0_0 t0).2.2 g5 ?_
    refine mr_i2l (pc' := 60) dX0_wordOf_59 rfl ?_
    obtain rfl := Option.some.inj h6
    exact mr_lreturn dX0_wordOf_60 rfl
  rw [if_neg c3] at h
  by_cases c7 : v3 = (3 : Int32)
  · rw [if_pos c7] at h
    refine mr_sw_in (t := 61) (v := (3 : Int32)) dX0_wordOf_1 c7 rfl ?_
    refine mr_aload_n (pc' := 62) dX0_wordOf_61 rfl rfl ?_
    refine mr_getR (pc' := 65) (ci := 0) (j := 4) (b := (v0 + 5)) hR dX0_wordOf_62 rfl rfl t0 (by decide) (by decide) (by decide) rfl (ly0_4 t0).1 ?_
    refine mr_iload_n (pc' := 66) dX0_wordOf_65 rfl rfl ?_
    obtain ⟨a8, g9, h10⟩ := Option.bind_eq_some_iff.mp h
    refine mr_lald (pc' := 67) dX0_wordOf_66 rfl (ly0_4 t0).2.1 (ly0_4 t0).2.2 g9 ?_
    refine mr_ldc2 (pc' := 70) (v := (232792560 : Int64)) dX0_wordOf_67 rfl rfl ?_
    obtain ⟨a11, g12, h13⟩ := Option.bind_eq_some_iff.mp h10
    refine mr_ldiv (pc' := 71) dX0_wordOf_70 rfl g12 ?_
    obtain rfl := Option.some.inj h13
    exact mr_lreturn dX0_wordOf_71 rfl
  rw [if_neg c7] at h
  by_cases c14 : v3 = (4 : Int32)
  · rw [if_pos c14] at h
    refine mr_sw_in (t := 72) (v := (4 : Int32)) dX0_wordOf_1 c14 rfl ?_
    refine mr_aload_n (pc' := 73) dX0_wordOf_72 rfl rfl ?_
    refine mr_aload_n (pc' := 74) dX0_wordOf_73 rfl rfl ?_
    refine mr_getR (pc' := 77) (ci := 0) (j := 0) (b := (v0 + 1)) hR dX0_wordOf_74 rfl rfl t0 (by decide) (by decide) (by decide) rfl (ly0_0 t0).1 ?_
    refine mr_iload_n (pc' := 78) dX0_wordOf_77 rfl rfl ?_
    obtain ⟨a15, g16, h17⟩ := Option.bind_eq_some_iff.mp h
    refine mr_iald (pc' := 79) dX0_wordOf_78 rfl (ly0_0 t0).2.1 (ly0_0 t0).2.2 g16 ?_
    obtain ⟨q18, g19, h20⟩ := Option.bind_eq_some_iff.mp h17
    refine mr_cv (pc' := 82) (a := v0) (d1 := 0) dX0_wordOf_79 rfl rfl rfl rfl rfl t0 (by decide) rfl (by decide) (ok_X0_standingOn hR t0 g19) ?_
    show mr X _ _ 82 _ [.int q18] (MM RR S) _
    refine mr_i2l (pc' := 83) dX0_wordOf_82 rfl ?_
    obtain rfl := Option.some.inj h20
    exact mr_lreturn dX0_wordOf_83 rfl
  rw [if_neg c14] at h
  by_cases c21 : v3 = (5 : Int32)
  · rw [if_pos c21] at h
    refine mr_sw_in (t := 84) (v := (5 : Int32)) dX0_wordOf_1 c21 rfl ?_
    refine mr_ldc2 (pc' := 87) (v := (1000 : Int64)) dX0_wordOf_84 rfl rfl ?_
    refine mr_aload_n (pc' := 88) dX0_wordOf_87 rfl rfl ?_
    refine mr_getR (pc' := 91) (ci := 8) (j := 0) (b := (v1 + 1)) hR dX0_wordOf_88 rfl rfl t1 (by decide) (by decide) (by decide) rfl (ly8_0 t1).1 ?_
    refine mr_aload_n (pc' := 92) dX0_wordOf_91 rfl rfl ?_
    refine mr_getR (pc' := 95) (ci := 0) (j := 0) (b := (v0 + 1)) hR dX0_wordOf_92 rfl rfl t0 (by decide) (by decide) (by decide) rfl (ly0_0 t0).1 ?_
    refine mr_iload_n (pc' := 96) dX0_wordOf_95 rfl rfl ?_
    obtain ⟨a22, g23, h24⟩ := Option.bind_eq_some_iff.mp h
    refine mr_iald (pc' := 97) dX0_wordOf_96 rfl (ly0_0 t0).2.1 (ly0_0 t0).2.2 g23 ?_
    obtain ⟨a25, g26, h27⟩ := Option.bind_eq_some_iff.mp h24
    refine mr_lald (pc' := 98) dX0_wordOf_97 rfl (ly8_0 t1).2.1 (ly8_0 t1).2.2 g26 ?_
    refine mr_lmul (pc' := 99) dX0_wordOf_98 rfl ?_
    refine mr_ldc2 (pc' := 102) (v := (232792560 : Int64)) dX0_wordOf_99 rfl rfl ?_
    obtain ⟨a28, g29, h30⟩ := Option.bind_eq_some_iff.mp h27
    refine mr_ldiv (pc' := 103) dX0_wordOf_102 rfl g29 ?_
    obtain rfl := Option.some.inj h30
    exact mr_lreturn dX0_wordOf_103 rfl
  rw [if_neg c21] at h
  by_cases c31 : v3 = (6 : Int32)
  · rw [if_pos c31] at h
    refine mr_sw_in (t := 104) (v := (6 : Int32)) dX0_wordOf_1 c31 rfl ?_
    refine mr_aload_n (pc' := 105) dX0_wordOf_104 rfl rfl ?_
    refine mr_getR (pc' := 108) (ci := 0) (j := 4) (b := (v0 + 5)) hR dX0_wordOf_105 rfl rfl t0 (by decide) (by decide) (by decide) rfl (ly0_4 t0).1 ?_
    refine mr_iload_n (pc' := 109) dX0_wordOf_108 rfl rfl ?_
    obtain ⟨a32, g33, h34⟩ := Option.bind_eq_some_iff.mp h
    refine mr_lald (pc' := 110) dX0_wordOf_109 rfl (ly0_4 t0).2.1 (ly0_4 t0).2.2 g33 ?_
    refine mr_aload_n (pc' := 111) dX0_wordOf_110 rfl rfl ?_
    refine mr_getR (pc' := 114) (ci := 0) (j := 4) (b := (v0 + 5)) hR dX0_wordOf_111 rfl rfl t0 (by decide) (by decide) (by decide) rfl (ly0_4 t0).1 ?_
    refine mr_aload_n (pc' := 115) dX0_wordOf_114 rfl rfl ?_
    obtain ⟨q35, g36, h37⟩ := Option.bind_eq_some_iff.mp h34
    refine mr_cv (pc' := 118) (a := v0) (d1 := 0) dX0_wordOf_115 rfl rfl rfl rfl rfl t0 (by decide) rfl (by decide) (ok_X0_eldest hR t0 g36) ?_
    show mr X _ _ 118 _ [.int q35, .ref (v0 + 5), .long a32] (MM RR S) _
    obtain ⟨a38, g39, h40⟩ := Option.bind_eq_some_iff.mp h37
    refine mr_lald (pc' := 119) dX0_wordOf_118 rfl (ly0_4 t0).2.1 (ly0_4 t0).2.2 g39 ?_
    by_cases c41 : a32 = a38
    · rw [if_pos c41] at h40
      refine mr_lcmp_ne_f (t := 127) (pc' := 123) dX0_wordOf_119 rfl dX0_wordOf_120 (by decide) rfl (not_not_intro c41) ?_
      refine mr_lconst (pc' := 124) (v := (1 : Int64)) dX0_wordOf_123 rfl (by decide) ?_
      refine mr_goto (t := 128) dX0_wordOf_124 (by decide) ?_
      obtain rfl := Option.some.inj h40
      exact mr_lreturn dX0_wordOf_128 rfl
    · rw [if_neg c41] at h40
      refine mr_lcmp_ne_t (t := 127) dX0_wordOf_119 rfl dX0_wordOf_120 (by decide) c41 ?_
      refine mr_lconst (pc' := 128) (v := (0 : Int64)) dX0_wordOf_127 rfl (by decide) ?_
      obtain rfl := Option.some.inj h40
      exact mr_lreturn dX0_wordOf_128 rfl
  rw [if_neg c31] at h
  refine mr_sw_out (t := 129) dX0_wordOf_1 (by have := i32ne c1 (k := 0) (by decide); have := i32ne c2 (k := 1) (by decide); have := i32ne c3 (k := 2) (by decide); have := i32ne c7 (k := 3) (by decide); have := i32ne c14 (k := 4) (by decide); have := i32ne c21 (k := 5) (by decide); have := i32ne c31 (k := 6) (by decide); omega) (by decide) ?_
  refine mr_aload_n (pc' := 130) dX0_wordOf_129 rfl rfl ?_
  refine mr_getR (pc' := 133) (ci := 0) (j := 4) (b := (v0 + 5)) hR dX0_wordOf_130 rfl rfl t0 (by decide) (by decide) (by decide) rfl (ly0_4 t0).1 ?_
  refine mr_iload_n (pc' := 134) dX0_wordOf_133 rfl rfl ?_
  obtain ⟨a42, g43, h44⟩ := Option.bind_eq_some_iff.mp h
  refine mr_lald (pc' := 135) dX0_wordOf_134 rfl (ly0_4 t0).2.1 (ly0_4 t0).2.2 g43 ?_
  refine mr_aload_n (pc' := 136) dX0_wordOf_135 rfl rfl ?_
  refine mr_getR (pc' := 139) (ci := 0) (j := 4) (b := (v0 + 5)) hR dX0_wordOf_136 rfl rfl t0 (by decide) (by decide) (by decide) rfl (ly0_4 t0).1 ?_
  refine mr_aload_n (pc' := 140) dX0_wordOf_139 rfl rfl ?_
  obtain ⟨q45, g46, h47⟩ := Option.bind_eq_some_iff.mp h44
  refine mr_cv (pc' := 143) (a := v0) (d1 := 0) dX0_wordOf_140 rfl rfl rfl rfl rfl t0 (by decide) rfl (by decide) (ok_X0_youngest hR t0 g46) ?_
  show mr X _ _ 143 _ [.int q45, .ref (v0 + 5), .long a42] (MM RR S) _
  obtain ⟨a48, g49, h50⟩ := Option.bind_eq_some_iff.mp h47
  refine mr_lald (pc' := 144) dX0_wordOf_143 rfl (ly0_4 t0).2.1 (ly0_4 t0).2.2 g49 ?_
  by_cases c51 : a42 = a48
  · rw [if_pos c51] at h50
    refine mr_lcmp_ne_f (t := 152) (pc' := 148) dX0_wordOf_144 rfl dX0_wordOf_145 (by decide) rfl (not_not_intro c51) ?_
    refine mr_lconst (pc' := 149) (v := (1 : Int64)) dX0_wordOf_148 rfl (by decide) ?_
    refine mr_goto (t := 153) dX0_wordOf_149 (by decide) ?_
    obtain rfl := Option.some.inj h50
    exact mr_lreturn dX0_wordOf_153 rfl
  · rw [if_neg c51] at h50
    refine mr_lcmp_ne_t (t := 152) dX0_wordOf_144 rfl dX0_wordOf_145 (by decide) c51 ?_
    refine mr_lconst (pc' := 153) (v := (0 : Int64)) dX0_wordOf_152 rfl (by decide) ?_
    obtain rfl := Option.some.inj h50
    exact mr_lreturn dX0_wordOf_153 rfl
def f_X4_isSo (v0 : Int32) (v1 : Int64) (v3 : Int64) (S : fS) : Option (Int32) :=
  if v0 = (5 : Int32) then (if v1 = (0 : Int64) then (some (0 : Int32)) else
  (if v3 = (0 : Int64) then (some (0 : Int32)) else
  (some (1 : Int32)))) else
  if v0 = (6 : Int32) then (if v1 = (0 : Int64) then (if v3 = (0 : Int64) then (some (0 : Int32)) else
  (some (1 : Int32))) else
  (some (1 : Int32))) else
  if v0 = (7 : Int32) then (if v1 ≤ v3 then (some (0 : Int32)) else
  (some (1 : Int32))) else
  if v0 = (8 : Int32) then (if v1 ≤ v3 then (some (0 : Int32)) else
  (some (1 : Int32))) else
  if v0 = (9 : Int32) then (if v1 ≤ v3 then (some (0 : Int32)) else
  (some (1 : Int32))) else
  if v0 = (10 : Int32) then (if v1 ≤ v3 then (some (0 : Int32)) else
  (some (1 : Int32))) else
  if v0 = (11 : Int32) then (if v3 ≤ v1 then (some (0 : Int32)) else
  (some (1 : Int32))) else
  if v0 = (12 : Int32) then (if v3 < v1 then (some (0 : Int32)) else
  (some (1 : Int32))) else
  if v0 = (13 : Int32) then (if v1 = v3 then (some (1 : Int32)) else
  (some (0 : Int32))) else
  if v0 = (14 : Int32) then (if v1 < v3 then (some (0 : Int32)) else
  (some (1 : Int32))) else
  (if v1 ≤ v3 then (some (0 : Int32)) else
  (some (1 : Int32)))
set_option maxHeartbeats 4000000 in
set_option maxRecDepth 100000 in
theorem ok_X4_isSo {X : mm_C} {RR : Nat → Nat → Option Nat} (hR : RRok RR) {v0 : Int32} {v1 : Int64} {v3 : Int64}  {S : fS} {r : Int32} (h : f_X4_isSo v0 v1 v3 S = some r) : mr X 0 mY_X4_isSo 0 (lv_args 0 [.int v0, .long v1, .long v3]) [] (MM RR S) (some (.int r), MM RR S) := by
  unfold f_X4_isSo at h
  show mr X _ _ 0 [(0, .int v0), (1, .long v1), (3, .long v3)] [] (MM RR S) _
  refine mr_iload_n (pc' := 1) dX4_isSo_0 rfl rfl ?_
  by_cases c1 : v0 = (5 : Int32)
  · rw [if_pos c1] at h
    refine mr_sw_in (t := 56) (v := (5 : Int32)) dX4_isSo_1 c1 rfl ?_
    refine mr_lload_n (pc' := 57) dX4_isSo_56 rfl rfl ?_
    refine mr_lconst (pc' := 58) (v := (0 : Int64)) dX4_isSo_57 rfl (by decide) ?_
    by_cases c2 : v1 = (0 : Int64)
    · rw [if_pos c2] at h
      refine mr_lcmp_eq_t (t := 72) dX4_isSo_58 rfl dX4_isSo_59 (by decide) c2 ?_
      refine mr_iconst (pc' := 73) (v := (0 : Int32)) dX4_isSo_72 rfl (by decide) ?_
      obtain rfl := Option.some.inj h
      exact mr_zreturn dX4_isSo_73 rfl (by decide)
    · rw [if_neg c2] at h
      refine mr_lcmp_eq_f (t := 72) (pc' := 62) dX4_isSo_58 rfl dX4_isSo_59 (by decide) rfl c2 ?_
      refine mr_lload_n (pc' := 63) dX4_isSo_62 rfl rfl ?_
      refine mr_lconst (pc' := 64) (v := (0 : Int64)) dX4_isSo_63 rfl (by decide) ?_
      by_cases c3 : v3 = (0 : Int64)
      · rw [if_pos c3] at h
        refine mr_lcmp_eq_t (t := 72) dX4_isSo_64 rfl dX4_isSo_65 (by decide) c3 ?_
        refine mr_iconst (pc' := 73) (v := (0 : Int32)) dX4_isSo_72 rfl (by decide) ?_
        obtain rfl := Option.some.inj h
        exact mr_zreturn dX4_isSo_73 rfl (by decide)
      · rw [if_neg c3] at h
        refine mr_lcmp_eq_f (t := 72) (pc' := 68) dX4_isSo_64 rfl dX4_isSo_65 (by decide) rfl c3 ?_
        refine mr_iconst (pc' := 69) (v := (1 : Int32)) dX4_isSo_68 rfl (by decide) ?_
        refine mr_goto (t := 73) dX4_isSo_69 (by decide) ?_
        obtain rfl := Option.some.inj h
        exact mr_zreturn dX4_isSo_73 rfl (by decide)
  rw [if_neg c1] at h
  by_cases c4 : v0 = (6 : Int32)
  · rw [if_pos c4] at h
    refine mr_sw_in (t := 74) (v := (6 : Int32)) dX4_isSo_1 c4 rfl ?_
    refine mr_lload_n (pc' := 75) dX4_isSo_74 rfl rfl ?_
    refine mr_lconst (pc' := 76) (v := (0 : Int64)) dX4_isSo_75 rfl (by decide) ?_
    by_cases c5 : v1 = (0 : Int64)
    · rw [if_pos c5] at h
      refine mr_lcmp_ne_f (t := 86) (pc' := 80) dX4_isSo_76 rfl dX4_isSo_77 (by decide) rfl (not_not_intro c5) ?_
      refine mr_lload_n (pc' := 81) dX4_isSo_80 rfl rfl ?_
      refine mr_lconst (pc' := 82) (v := (0 : Int64)) dX4_isSo_81 rfl (by decide) ?_
      by_cases c6 : v3 = (0 : Int64)
      · rw [if_pos c6] at h
        refine mr_lcmp_eq_t (t := 90) dX4_isSo_82 rfl dX4_isSo_83 (by decide) c6 ?_
        refine mr_iconst (pc' := 91) (v := (0 : Int32)) dX4_isSo_90 rfl (by decide) ?_
        obtain rfl := Option.some.inj h
        exact mr_zreturn dX4_isSo_91 rfl (by decide)
      · rw [if_neg c6] at h
        refine mr_lcmp_eq_f (t := 90) (pc' := 86) dX4_isSo_82 rfl dX4_isSo_83 (by decide) rfl c6 ?_
        refine mr_iconst (pc' := 87) (v := (1 : Int32)) dX4_isSo_86 rfl (by decide) ?_
        refine mr_goto (t := 91) dX4_isSo_87 (by decide) ?_
        obtain rfl := Option.some.inj h
        exact mr_zreturn dX4_isSo_91 rfl (by decide)
    · rw [if_neg c5] at h
      refine mr_lcmp_ne_t (t := 86) dX4_isSo_76 rfl dX4_isSo_77 (by decide) c5 ?_
      refine mr_iconst (pc' := 87) (v := (1 : Int32)) dX4_isSo_86 rfl (by decide) ?_
      refine mr_goto (t := 91) dX4_isSo_87 (by decide) ?_
      obtain rfl := Option.some.inj h
      exact mr_zreturn dX4_isSo_91 rfl (by decide)
  rw [if_neg c4] at h
  by_cases c7 : v0 = (7 : Int32)
  · rw [if_pos c7] at h
    refine mr_sw_in (t := 140) (v := (7 : Int32)) dX4_isSo_1 c7 rfl ?_
    refine mr_lload_n (pc' := 141) dX4_isSo_140 rfl rfl ?_
    refine mr_lload_n (pc' := 142) dX4_isSo_141 rfl rfl ?_
    by_cases c8 : v1 ≤ v3
    · rw [if_pos c8] at h
      refine mr_lcmp_le_t (t := 150) dX4_isSo_142 rfl dX4_isSo_143 (by decide) c8 ?_
      refine mr_iconst (pc' := 151) (v := (0 : Int32)) dX4_isSo_150 rfl (by decide) ?_
      obtain rfl := Option.some.inj h
      exact mr_zreturn dX4_isSo_151 rfl (by decide)
    · rw [if_neg c8] at h
      refine mr_lcmp_le_f (t := 150) (pc' := 146) dX4_isSo_142 rfl dX4_isSo_143 (by decide) rfl c8 ?_
      refine mr_iconst (pc' := 147) (v := (1 : Int32)) dX4_isSo_146 rfl (by decide) ?_
      refine mr_goto (t := 151) dX4_isSo_147 (by decide) ?_
      obtain rfl := Option.some.inj h
      exact mr_zreturn dX4_isSo_151 rfl (by decide)
  rw [if_neg c7] at h
  by_cases c9 : v0 = (8 : Int32)
  · rw [if_pos c9] at h
    refine mr_sw_in (t := 140) (v := (8 : Int32)) dX4_isSo_1 c9 rfl ?_
    refine mr_lload_n (pc' := 141) dX4_isSo_140 rfl rfl ?_
    refine mr_lload_n (pc' := 142) dX4_isSo_141 rfl rfl ?_
    by_cases c10 : v1 ≤ v3
    · rw [if_pos c10] at h
      refine mr_lcmp_le_t (t := 150) dX4_isSo_142 rfl dX4_isSo_143 (by decide) c10 ?_
      refine mr_iconst (pc' := 151) (v := (0 : Int32)) dX4_isSo_150 rfl (by decide) ?_
      obtain rfl := Option.some.inj h
      exact mr_zreturn dX4_isSo_151 rfl (by decide)
    · rw [if_neg c10] at h
      refine mr_lcmp_le_f (t := 150) (pc' := 146) dX4_isSo_142 rfl dX4_isSo_143 (by decide) rfl c10 ?_
      refine mr_iconst (pc' := 147) (v := (1 : Int32)) dX4_isSo_146 rfl (by decide) ?_
      refine mr_goto (t := 151) dX4_isSo_147 (by decide) ?_
      obtain rfl := Option.some.inj h
      exact mr_zreturn dX4_isSo_151 rfl (by decide)
  rw [if_neg c9] at h
  by_cases c11 : v0 = (9 : Int32)
  · rw [if_pos c11] at h
    refine mr_sw_in (t := 140) (v := (9 : Int32)) dX4_isSo_1 c11 rfl ?_
    refine mr_lload_n (pc' := 141) dX4_isSo_140 rfl rfl ?_
    refine mr_lload_n (pc' := 142) dX4_isSo_141 rfl rfl ?_
    by_cases c12 : v1 ≤ v3
    · rw [if_pos c12] at h
      refine mr_lcmp_le_t (t := 150) dX4_isSo_142 rfl dX4_isSo_143 (by decide) c12 ?_
      refine mr_iconst (pc' := 151) (v := (0 : Int32)) dX4_isSo_150 rfl (by decide) ?_
      obtain rfl := Option.some.inj h
      exact mr_zreturn dX4_isSo_151 rfl (by decide)
    · rw [if_neg c12] at h
      refine mr_lcmp_le_f (t := 150) (pc' := 146) dX4_isSo_142 rfl dX4_isSo_143 (by decide) rfl c12 ?_
      refine mr_iconst (pc' := 147) (v := (1 : Int32)) dX4_isSo_146 rfl (by decide) ?_
      refine mr_goto (t := 151) dX4_isSo_147 (by decide) ?_
      obtain rfl := Option.some.inj h
      exact mr_zreturn dX4_isSo_151 rfl (by decide)
  rw [if_neg c11] at h
  by_cases c13 : v0 = (10 : Int32)
  · rw [if_pos c13] at h
    refine mr_sw_in (t := 140) (v := (10 : Int32)) dX4_isSo_1 c13 rfl ?_
    refine mr_lload_n (pc' := 141) dX4_isSo_140 rfl rfl ?_
    refine mr_lload_n (pc' := 142) dX4_isSo_141 rfl rfl ?_
    by_cases c14 : v1 ≤ v3
    · rw [if_pos c14] at h
      refine mr_lcmp_le_t (t := 150) dX4_isSo_142 rfl dX4_isSo_143 (by decide) c14 ?_
      refine mr_iconst (pc' := 151) (v := (0 : Int32)) dX4_isSo_150 rfl (by decide) ?_
      obtain rfl := Option.some.inj h
      exact mr_zreturn dX4_isSo_151 rfl (by decide)
    · rw [if_neg c14] at h
      refine mr_lcmp_le_f (t := 150) (pc' := 146) dX4_isSo_142 rfl dX4_isSo_143 (by decide) rfl c14 ?_
      refine mr_iconst (pc' := 147) (v := (1 : Int32)) dX4_isSo_146 rfl (by decide) ?_
      refine mr_goto (t := 151) dX4_isSo_147 (by decide) ?_
      obtain rfl := Option.some.inj h
      exact mr_zreturn dX4_isSo_151 rfl (by decide)
  rw [if_neg c13] at h
  by_cases c15 : v0 = (11 : Int32)
  · rw [if_pos c15] at h
    refine mr_sw_in (t := 92) (v := (11 : Int32)) dX4_isSo_1 c15 rfl ?_
    refine mr_lload_n (pc' := 93) dX4_isSo_92 rfl rfl ?_
    refine mr_lload_n (pc' := 94) dX4_isSo_93 rfl rfl ?_
    by_cases c16 : v3 ≤ v1
    · rw [if_pos c16] at h
      refine mr_lcmp_ge_t (t := 102) dX4_isSo_94 rfl dX4_isSo_95 (by decide) c16 ?_
      refine mr_iconst (pc' := 103) (v := (0 : Int32)) dX4_isSo_102 rfl (by decide) ?_
      obtain rfl := Option.some.inj h
      exact mr_zreturn dX4_isSo_103 rfl (by decide)
    · rw [if_neg c16] at h
      refine mr_lcmp_ge_f (t := 102) (pc' := 98) dX4_isSo_94 rfl dX4_isSo_95 (by decide) rfl c16 ?_
      refine mr_iconst (pc' := 99) (v := (1 : Int32)) dX4_isSo_98 rfl (by decide) ?_
      refine mr_goto (t := 103) dX4_isSo_99 (by decide) ?_
      obtain rfl := Option.some.inj h
      exact mr_zreturn dX4_isSo_103 rfl (by decide)
  rw [if_neg c15] at h
  by_cases c17 : v0 = (12 : Int32)
  · rw [if_pos c17] at h
    refine mr_sw_in (t := 104) (v := (12 : Int32)) dX4_isSo_1 c17 rfl ?_
    refine mr_lload_n (pc' := 105) dX4_isSo_104 rfl rfl ?_
    refine mr_lload_n (pc' := 106) dX4_isSo_105 rfl rfl ?_
    by_cases c18 : v3 < v1
    · rw [if_pos c18] at h
      refine mr_lcmp_gt_t (t := 114) dX4_isSo_106 rfl dX4_isSo_107 (by decide) c18 ?_
      refine mr_iconst (pc' := 115) (v := (0 : Int32)) dX4_isSo_114 rfl (by decide) ?_
      obtain rfl := Option.some.inj h
      exact mr_zreturn dX4_isSo_115 rfl (by decide)
    · rw [if_neg c18] at h
      refine mr_lcmp_gt_f (t := 114) (pc' := 110) dX4_isSo_106 rfl dX4_isSo_107 (by decide) rfl c18 ?_
      refine mr_iconst (pc' := 111) (v := (1 : Int32)) dX4_isSo_110 rfl (by decide) ?_
      refine mr_goto (t := 115) dX4_isSo_111 (by decide) ?_
      obtain rfl := Option.some.inj h
      exact mr_zreturn dX4_isSo_115 rfl (by decide)
  rw [if_neg c17] at h
  by_cases c19 : v0 = (13 : Int32)
  · rw [if_pos c19] at h
    refine mr_sw_in (t := 116) (v := (13 : Int32)) dX4_isSo_1 c19 rfl ?_
    refine mr_lload_n (pc' := 117) dX4_isSo_116 rfl rfl ?_
    refine mr_lload_n (pc' := 118) dX4_isSo_117 rfl rfl ?_
    by_cases c20 : v1 = v3
    · rw [if_pos c20] at h
      refine mr_lcmp_ne_f (t := 126) (pc' := 122) dX4_isSo_118 rfl dX4_isSo_119 (by decide) rfl (not_not_intro c20) ?_
      refine mr_iconst (pc' := 123) (v := (1 : Int32)) dX4_isSo_122 rfl (by decide) ?_
      refine mr_goto (t := 127) dX4_isSo_123 (by decide) ?_
      obtain rfl := Option.some.inj h
      exact mr_zreturn dX4_isSo_127 rfl (by decide)
    · rw [if_neg c20] at h
      refine mr_lcmp_ne_t (t := 126) dX4_isSo_118 rfl dX4_isSo_119 (by decide) c20 ?_
      refine mr_iconst (pc' := 127) (v := (0 : Int32)) dX4_isSo_126 rfl (by decide) ?_
      obtain rfl := Option.some.inj h
      exact mr_zreturn dX4_isSo_127 rfl (by decide)
  rw [if_neg c19] at h
  by_cases c21 : v0 = (14 : Int32)
  · rw [if_pos c21] at h
    refine mr_sw_in (t := 128) (v := (14 : Int32)) dX4_isSo_1 c21 rfl ?_
    refine mr_lload_n (pc' := 129) dX4_isSo_128 rfl rfl ?_
    refine mr_lload_n (pc' := 130) dX4_isSo_129 rfl rfl ?_
    by_cases c22 : v1 < v3
    · rw [if_pos c22] at h
      refine mr_lcmp_lt_t (t := 138) dX4_isSo_130 rfl dX4_isSo_131 (by decide) c22 ?_
      refine mr_iconst (pc' := 139) (v := (0 : Int32)) dX4_isSo_138 rfl (by decide) ?_
      obtain rfl := Option.some.inj h
      exact mr_zreturn dX4_isSo_139 rfl (by decide)
    · rw [if_neg c22] at h
      refine mr_lcmp_lt_f (t := 138) (pc' := 134) dX4_isSo_130 rfl dX4_isSo_131 (by decide) rfl c22 ?_
      refine mr_iconst (pc' := 135) (v := (1 : Int32)) dX4_isSo_134 rfl (by decide) ?_
      refine mr_goto (t := 139) dX4_isSo_135 (by decide) ?_
      obtain rfl := Option.some.inj h
      exact mr_zreturn dX4_isSo_139 rfl (by decide)
  rw [if_neg c21] at h
  refine mr_sw_out (t := 140) dX4_isSo_1 (by have := i32ne c1 (k := 5) (by decide); have := i32ne c4 (k := 6) (by decide); have := i32ne c7 (k := 7) (by decide); have := i32ne c9 (k := 8) (by decide); have := i32ne c11 (k := 9) (by decide); have := i32ne c13 (k := 10) (by decide); have := i32ne c15 (k := 11) (by decide); have := i32ne c17 (k := 12) (by decide); have := i32ne c19 (k := 13) (by decide); have := i32ne c21 (k := 14) (by decide); omega) (by decide) ?_
  refine mr_lload_n (pc' := 141) dX4_isSo_140 rfl rfl ?_
  refine mr_lload_n (pc' := 142) dX4_isSo_141 rfl rfl ?_
  by_cases c23 : v1 ≤ v3
  · rw [if_pos c23] at h
    refine mr_lcmp_le_t (t := 150) dX4_isSo_142 rfl dX4_isSo_143 (by decide) c23 ?_
    refine mr_iconst (pc' := 151) (v := (0 : Int32)) dX4_isSo_150 rfl (by decide) ?_
    obtain rfl := Option.some.inj h
    exact mr_zreturn dX4_isSo_151 rfl (by decide)
  · rw [if_neg c23] at h
    refine mr_lcmp_le_f (t := 150) (pc' := 146) dX4_isSo_142 rfl dX4_isSo_143 (by decide) rfl c23 ?_
    refine mr_iconst (pc' := 147) (v := (1 : Int32)) dX4_isSo_146 rfl (by decide) ?_
    refine mr_goto (t := 151) dX4_isSo_147 (by decide) ?_
    obtain rfl := Option.some.inj h
    exact mr_zreturn dX4_isSo_151 rfl (by decide)
def f_X4_joined (v0 : Int32) (v1 : Int64) (v3 : Int64) (S : fS) : Option (Int64) :=
  if v0 = (7 : Int32) then (some (v1 + v3)) else
  if v0 = (8 : Int32) then (some (v1 - v3)) else
  if v0 = (9 : Int32) then (some (v1 * v3)) else
  if v0 = (10 : Int32) then (if v3 = (0 : Int64) then (some (0 : Int64)) else
  ((dL v1 v3).bind fun a6 =>
  some a6)) else
  ((f_X4_isSo v0 v1 v3 S).bind fun q9 =>
  if q9 = (0 : Int32) then (some (0 : Int64)) else
  (some (1 : Int64)))
set_option maxHeartbeats 4000000 in
set_option maxRecDepth 100000 in
theorem ok_X4_joined {X : mm_C} {RR : Nat → Nat → Option Nat} (hR : RRok RR) {v0 : Int32} {v1 : Int64} {v3 : Int64}  {S : fS} {r : Int64} (h : f_X4_joined v0 v1 v3 S = some r) : mr X 1 mY_X4_joined 0 (lv_args 0 [.int v0, .long v1, .long v3]) [] (MM RR S) (some (.long r), MM RR S) := by
  unfold f_X4_joined at h
  show mr X _ _ 0 [(0, .int v0), (1, .long v1), (3, .long v3)] [] (MM RR S) _
  refine mr_iload_n (pc' := 1) dX4_joined_0 rfl rfl ?_
  by_cases c1 : v0 = (7 : Int32)
  · rw [if_pos c1] at h
    refine mr_sw_in (t := 32) (v := (7 : Int32)) dX4_joined_1 c1 rfl ?_
    refine mr_lload_n (pc' := 33) dX4_joined_32 rfl rfl ?_
    refine mr_lload_n (pc' := 34) dX4_joined_33 rfl rfl ?_
    refine mr_ladd (pc' := 35) dX4_joined_34 rfl ?_
    obtain rfl := Option.some.inj h
    exact mr_lreturn dX4_joined_35 rfl
  rw [if_neg c1] at h
  by_cases c2 : v0 = (8 : Int32)
  · rw [if_pos c2] at h
    refine mr_sw_in (t := 36) (v := (8 : Int32)) dX4_joined_1 c2 rfl ?_
    refine mr_lload_n (pc' := 37) dX4_joined_36 rfl rfl ?_
    refine mr_lload_n (pc' := 38) dX4_joined_37 rfl rfl ?_
    refine mr_lsub (pc' := 39) dX4_joined_38 rfl ?_
    obtain rfl := Option.some.inj h
    exact mr_lreturn dX4_joined_39 rfl
  rw [if_neg c2] at h
  by_cases c3 : v0 = (9 : Int32)
  · rw [if_pos c3] at h
    refine mr_sw_in (t := 40) (v := (9 : Int32)) dX4_joined_1 c3 rfl ?_
    refine mr_lload_n (pc' := 41) dX4_joined_40 rfl rfl ?_
    refine mr_lload_n (pc' := 42) dX4_joined_41 rfl rfl ?_
    refine mr_lmul (pc' := 43) dX4_joined_42 rfl ?_
    obtain rfl := Option.some.inj h
    exact mr_lreturn dX4_joined_43 rfl
  rw [if_neg c3] at h
  by_cases c4 : v0 = (10 : Int32)
  · rw [if_pos c4] at h
    refine mr_sw_in (t := 44) (v := (10 : Int32)) dX4_joined_1 c4 rfl ?_
    refine mr_lload_n (pc' := 45) dX4_joined_44 rfl rfl ?_
    refine mr_lconst (pc' := 46) (v := (0 : Int64)) dX4_joined_45 rfl (by decide) ?_
    by_cases c5 : v3 = (0 : Int64)
    · rw [if_pos c5] at h
      refine mr_lcmp_ne_f (t := 54) (pc' := 50) dX4_joined_46 rfl dX4_joined_47 (by decide) rfl (not_not_intro c5) ?_
      refine mr_lconst (pc' := 51) (v := (0 : Int64)) dX4_joined_50 rfl (by decide) ?_
      refine mr_goto (t := 57) dX4_joined_51 (by decide) ?_
      obtain rfl := Option.some.inj h
      exact mr_lreturn dX4_joined_57 rfl
    · rw [if_neg c5] at h
      refine mr_lcmp_ne_t (t := 54) dX4_joined_46 rfl dX4_joined_47 (by decide) c5 ?_
      refine mr_lload_n (pc' := 55) dX4_joined_54 rfl rfl ?_
      refine mr_lload_n (pc' := 56) dX4_joined_55 rfl rfl ?_
      obtain ⟨a6, g7, h8⟩ := Option.bind_eq_some_iff.mp h
      refine mr_ldiv (pc' := 57) dX4_joined_56 rfl g7 ?_
      obtain rfl := Option.some.inj h8
      exact mr_lreturn dX4_joined_57 rfl
  rw [if_neg c4] at h
  refine mr_sw_out (t := 58) dX4_joined_1 (by have := i32ne c1 (k := 7) (by decide); have := i32ne c2 (k := 8) (by decide); have := i32ne c3 (k := 9) (by decide); have := i32ne c4 (k := 10) (by decide); omega) (by decide) ?_
  refine mr_iload_n (pc' := 59) dX4_joined_58 rfl rfl ?_
  refine mr_lload_n (pc' := 60) dX4_joined_59 rfl rfl ?_
  refine mr_lload_n (pc' := 61) dX4_joined_60 rfl rfl ?_
  obtain ⟨q9, g10, h11⟩ := Option.bind_eq_some_iff.mp h
  refine mr_cs (pc' := 64) (d1 := 0) dX4_joined_61 rfl rfl rfl rfl (by decide) (Nat.le_of_ble_eq_true rfl) rfl rfl rfl (by decide) (ok_X4_isSo hR  g10) ?_
  show mr X _ _ 64 _ [.int q9] (MM RR S) _
  by_cases c12 : q9 = (0 : Int32)
  · rw [if_pos c12] at h11
    refine mr_if_eq_t (t := 71) dX4_joined_64 (by decide) c12 ?_
    refine mr_lconst (pc' := 72) (v := (0 : Int64)) dX4_joined_71 rfl (by decide) ?_
    obtain rfl := Option.some.inj h11
    exact mr_lreturn dX4_joined_72 rfl
  · rw [if_neg c12] at h11
    refine mr_if_eq_f (t := 71) (pc' := 67) dX4_joined_64 (by decide) rfl c12 ?_
    refine mr_lconst (pc' := 68) (v := (1 : Int64)) dX4_joined_67 rfl (by decide) ?_
    refine mr_goto (t := 72) dX4_joined_68 (by decide) ?_
    obtain rfl := Option.some.inj h11
    exact mr_lreturn dX4_joined_72 rfl
def lp_X4_goalOf_8 (p0 : Nat) (p1 : Nat) (p2 : Nat) (p3 : Int32) (K : fS → Option (Int32 × fS)) : Nat → Int32 → fS → Option (Int32 × fS)
  | 0, _, _ => none
  | n + 1, p4, S0 =>
    if (S0.1 p0 2) ≤ p4 then (K S0) else
    (if (400 : Int32) ≤ p4 then (K S0) else
    ((gI S0 (p0 + 1) 400 p4).bind fun a6 =>
    (gI S0 (p0 + 1) 400 p4).bind fun a9 =>
    if (a6 &&& (31 : Int32)) = (0 : Int32) then (some ((a9 >>> ((5 : Int32) &&& 31)), S0)) else
    (if (a6 &&& (31 : Int32)) = (1 : Int32) then ((f_X4_pop p0 S0).bind fun q48 =>
    if q48.1 = (0 : Int64) then (lp_X4_goalOf_8 p0 p1 p2 p3 K n (p4 + (1 : Int32)) q48.2) else
    (some ((a9 >>> ((5 : Int32) &&& 31)), q48.2))) else
    (if (a6 &&& (31 : Int32)) = (2 : Int32) then ((f_X4_push p0 (Int32.toInt64 (a9 >>> ((5 : Int32) &&& 31))) S0).bind fun q45 =>
    lp_X4_goalOf_8 p0 p1 p2 p3 K n (p4 + (1 : Int32)) q45) else
    (if (a6 &&& (31 : Int32)) = (3 : Int32) then ((f_X0_wordOf p2 p1 p3 (a9 >>> ((5 : Int32) &&& 31)) S0).bind fun q39 =>
    (f_X4_push p0 q39 S0).bind fun q42 =>
    lp_X4_goalOf_8 p0 p1 p2 p3 K n (p4 + (1 : Int32)) q42) else
    (if (a6 &&& (31 : Int32)) = (4 : Int32) then ((f_X4_pop p0 S0).bind fun q29 =>
    if q29.1 = (0 : Int64) then ((f_X4_push p0 (1 : Int64) q29.2).bind fun q36 =>
    lp_X4_goalOf_8 p0 p1 p2 p3 K n (p4 + (1 : Int32)) q36) else
    ((f_X4_push p0 (0 : Int64) q29.2).bind fun q33 =>
    lp_X4_goalOf_8 p0 p1 p2 p3 K n (p4 + (1 : Int32)) q33)) else
    ((f_X4_pop p0 S0).bind fun q17 =>
    (f_X4_pop p0 q17.2).bind fun q20 =>
    (f_X4_joined (a6 &&& (31 : Int32)) q20.1 q17.1 q20.2).bind fun q23 =>
    (f_X4_push p0 q23 q20.2).bind fun q26 =>
    lp_X4_goalOf_8 p0 p1 p2 p3 K n (p4 + (1 : Int32)) q26)))))))
set_option maxHeartbeats 4000000 in
set_option maxRecDepth 100000 in
theorem ok_lp_X4_goalOf_8 {X : mm_C} {RR : Nat → Nat → Option Nat} (hR : RRok RR) {p0 : Nat} {p1 : Nat} {p2 : Nat} {p3 : Int32} (t0 : tg p0 = 4) (t1 : tg p1 = 8) (t2 : tg p2 = 0) {K : fS → Option (Int32 × fS)} {r : Int32 × fS} (hK : ∀ (Sk : fS), K Sk = some r → mr X 2 mY_X4_goalOf 165 [] [] (MM RR Sk) (some (.int r.1), MM RR r.2)) : ∀ (n : Nat) (p4 : Int32) (S0 : fS), lp_X4_goalOf_8 p0 p1 p2 p3 K n p4 S0 = some r → mr X 2 mY_X4_goalOf 8 [(0, .ref p0), (1, .ref p1), (2, .ref p2), (3, .int p3), (4, .int p4)] [] (MM RR S0) (some (.int r.1), MM RR r.2) := by
  intro n
  induction n with
  | zero => intro p4 S0 h; exact mm_no h
  | succ n ih =>
    intro p4 S0 h
    unfold lp_X4_goalOf_8 at h
    refine mr_iload (pc' := 10) dX4_goalOf_8 rfl rfl ?_
    refine mr_aload_n (pc' := 11) dX4_goalOf_10 rfl rfl ?_
    refine mr_getI (pc' := 14) (ci := 4) (j := 2) dX4_goalOf_11 rfl rfl t0 (by decide) (by decide) rfl ?_
    by_cases c4 : (S0.1 p0 2) ≤ p4
    · rw [if_pos c4] at h
      refine mr_icmp_ge_t (t := 165) dX4_goalOf_14 (by decide) c4 ?_
      exact mr_sub [] trivial rfl (hK _  h)
    · rw [if_neg c4] at h
      refine mr_icmp_ge_f (t := 165) (pc' := 17) dX4_goalOf_14 (by decide) rfl c4 ?_
      refine mr_iload (pc' := 19) dX4_goalOf_17 rfl rfl ?_
      refine mr_sipush (pc' := 22) (v := (400 : Int32)) dX4_goalOf_19 rfl (by decide) ?_
      by_cases c5 : (400 : Int32) ≤ p4
      · rw [if_pos c5] at h
        refine mr_icmp_ge_t (t := 165) dX4_goalOf_22 (by decide) c5 ?_
        exact mr_sub [] trivial rfl (hK _  h)
      · rw [if_neg c5] at h
        refine mr_icmp_ge_f (t := 165) (pc' := 25) dX4_goalOf_22 (by decide) rfl c5 ?_
        refine mr_aload_n (pc' := 26) dX4_goalOf_25 rfl rfl ?_
        refine mr_getR (pc' := 29) (ci := 4) (j := 0) (b := (p0 + 1)) hR dX4_goalOf_26 rfl rfl t0 (by decide) (by decide) (by decide) rfl (ly4_0 t0).1 ?_
        refine mr_iload (pc' := 31) dX4_goalOf_29 rfl rfl ?_
        obtain ⟨a6, g7, h8⟩ := Option.bind_eq_some_iff.mp h
        refine mr_iald (pc' := 32) dX4_goalOf_31 rfl (ly4_0 t0).2.1 (ly4_0 t0).2.2 g7 ?_
        refine mr_bipush (pc' := 34) (v := (31 : Int32)) dX4_goalOf_32 rfl (by decide) ?_
        refine mr_iand (pc' := 35) dX4_goalOf_34 rfl ?_
        refine mr_istore (pc' := 37) (lv' := [(5, .int (a6 &&& (31 : Int32))), (0, .ref p0), (1, .ref p1), (2, .ref p2), (3, .int p3), (4, .int p4)]) dX4_goalOf_35 rfl (by decide) rfl ?_
        refine mr_aload_n (pc' := 38) dX4_goalOf_37 rfl rfl ?_
        refine mr_getR (pc' := 41) (ci := 4) (j := 0) (b := (p0 + 1)) hR dX4_goalOf_38 rfl rfl t0 (by decide) (by decide) (by decide) rfl (ly4_0 t0).1 ?_
        refine mr_iload (pc' := 43) dX4_goalOf_41 rfl rfl ?_
        obtain ⟨a9, g10, h11⟩ := Option.bind_eq_some_iff.mp h8
        refine mr_iald (pc' := 44) dX4_goalOf_43 rfl (ly4_0 t0).2.1 (ly4_0 t0).2.2 g10 ?_
        refine mr_iconst (pc' := 45) (v := (5 : Int32)) dX4_goalOf_44 rfl (by decide) ?_
        refine mr_ishr (pc' := 46) dX4_goalOf_45 rfl ?_
        refine mr_istore (pc' := 48) (lv' := [(6, .int (a9 >>> ((5 : Int32) &&& 31))), (5, .int (a6 &&& (31 : Int32))), (0, .ref p0), (1, .ref p1), (2, .ref p2), (3, .int p3), (4, .int p4)]) dX4_goalOf_46 rfl (by decide) rfl ?_
        refine mr_iload (pc' := 50) dX4_goalOf_48 rfl rfl ?_
        by_cases c12 : (a6 &&& (31 : Int32)) = (0 : Int32)
        · rw [if_pos c12] at h11
          refine mr_if_ne_f (t := 56) (pc' := 53) dX4_goalOf_50 (by decide) rfl (not_not_intro c12) ?_
          refine mr_iload (pc' := 55) dX4_goalOf_53 rfl rfl ?_
          obtain rfl := Option.some.inj h11
          exact mr_ireturn dX4_goalOf_55 rfl
        · rw [if_neg c12] at h11
          refine mr_if_ne_t (t := 56) dX4_goalOf_50 (by decide) c12 ?_
          refine mr_iload (pc' := 58) dX4_goalOf_56 rfl rfl ?_
          refine mr_iconst (pc' := 59) (v := (1 : Int32)) dX4_goalOf_58 rfl (by decide) ?_
          by_cases c13 : (a6 &&& (31 : Int32)) = (1 : Int32)
          · rw [if_pos c13] at h11
            refine mr_icmp_ne_f (t := 74) (pc' := 62) dX4_goalOf_59 (by decide) rfl (not_not_intro c13) ?_
            refine mr_aload_n (pc' := 63) dX4_goalOf_62 rfl rfl ?_
            obtain ⟨q48, g49, h50⟩ := Option.bind_eq_some_iff.mp h11
            refine mr_cv (pc' := 66) (a := p0) (d1 := 0) dX4_goalOf_63 rfl rfl rfl rfl rfl t0 (by decide) rfl (by decide) (ok_X4_pop hR t0 g49) ?_
            show mr X _ _ 66 _ [.long q48.1] (MM RR q48.2) _
            refine mr_lconst (pc' := 67) (v := (0 : Int64)) dX4_goalOf_66 rfl (by decide) ?_
            by_cases c51 : q48.1 = (0 : Int64)
            · rw [if_pos c51] at h50
              refine mr_lcmp_eq_t (t := 159) dX4_goalOf_67 rfl dX4_goalOf_68 (by decide) c51 ?_
              refine mr_iinc (pc' := 162) (x' := (p4 + (1 : Int32))) (lv' := [(4, .int (p4 + (1 : Int32))), (6, .int (a9 >>> ((5 : Int32) &&& 31))), (5, .int (a6 &&& (31 : Int32))), (0, .ref p0), (1, .ref p1), (2, .ref p2), (3, .int p3)]) dX4_goalOf_159 rfl (by decide) rfl rfl rfl ?_
              refine mr_goto (t := 8) dX4_goalOf_162 (by decide) ?_
              exact mr_sub [(0, .ref p0), (1, .ref p1), (2, .ref p2), (3, .int p3), (4, .int (p4 + (1 : Int32)))] ⟨rfl, rfl, rfl, rfl, rfl, trivial⟩ rfl (ih _ _  h50)
            · rw [if_neg c51] at h50
              refine mr_lcmp_eq_f (t := 159) (pc' := 71) dX4_goalOf_67 rfl dX4_goalOf_68 (by decide) rfl c51 ?_
              refine mr_iload (pc' := 73) dX4_goalOf_71 rfl rfl ?_
              obtain rfl := Option.some.inj h50
              exact mr_ireturn dX4_goalOf_73 rfl
          · rw [if_neg c13] at h11
            refine mr_icmp_ne_t (t := 74) dX4_goalOf_59 (by decide) c13 ?_
            refine mr_iload (pc' := 76) dX4_goalOf_74 rfl rfl ?_
            refine mr_iconst (pc' := 77) (v := (2 : Int32)) dX4_goalOf_76 rfl (by decide) ?_
            by_cases c14 : (a6 &&& (31 : Int32)) = (2 : Int32)
            · rw [if_pos c14] at h11
              refine mr_icmp_ne_f (t := 90) (pc' := 80) dX4_goalOf_77 (by decide) rfl (not_not_intro c14) ?_
              refine mr_aload_n (pc' := 81) dX4_goalOf_80 rfl rfl ?_
              refine mr_iload (pc' := 83) dX4_goalOf_81 rfl rfl ?_
              refine mr_i2l (pc' := 84) dX4_goalOf_83 rfl ?_
              obtain ⟨q45, g46, h47⟩ := Option.bind_eq_some_iff.mp h11
              refine mr_cv (pc' := 87) (a := p0) (d1 := 0) dX4_goalOf_84 rfl rfl rfl rfl rfl t0 (by decide) rfl (by decide) (ok_X4_push hR t0 g46) ?_
              show mr X _ _ 87 _ [] (MM RR q45) _
              refine mr_goto (t := 159) dX4_goalOf_87 (by decide) ?_
              refine mr_iinc (pc' := 162) (x' := (p4 + (1 : Int32))) (lv' := [(4, .int (p4 + (1 : Int32))), (6, .int (a9 >>> ((5 : Int32) &&& 31))), (5, .int (a6 &&& (31 : Int32))), (0, .ref p0), (1, .ref p1), (2, .ref p2), (3, .int p3)]) dX4_goalOf_159 rfl (by decide) rfl rfl rfl ?_
              refine mr_goto (t := 8) dX4_goalOf_162 (by decide) ?_
              exact mr_sub [(0, .ref p0), (1, .ref p1), (2, .ref p2), (3, .int p3), (4, .int (p4 + (1 : Int32)))] ⟨rfl, rfl, rfl, rfl, rfl, trivial⟩ rfl (ih _ _  h47)
            · rw [if_neg c14] at h11
              refine mr_icmp_ne_t (t := 90) dX4_goalOf_77 (by decide) c14 ?_
              refine mr_iload (pc' := 92) dX4_goalOf_90 rfl rfl ?_
              refine mr_iconst (pc' := 93) (v := (3 : Int32)) dX4_goalOf_92 rfl (by decide) ?_
              by_cases c15 : (a6 &&& (31 : Int32)) = (3 : Int32)
              · rw [if_pos c15] at h11
                refine mr_icmp_ne_f (t := 111) (pc' := 96) dX4_goalOf_93 (by decide) rfl (not_not_intro c15) ?_
                refine mr_aload_n (pc' := 97) dX4_goalOf_96 rfl rfl ?_
                refine mr_aload_n (pc' := 98) dX4_goalOf_97 rfl rfl ?_
                refine mr_aload_n (pc' := 99) dX4_goalOf_98 rfl rfl ?_
                refine mr_iload_n (pc' := 100) dX4_goalOf_99 rfl rfl ?_
                refine mr_iload (pc' := 102) dX4_goalOf_100 rfl rfl ?_
                obtain ⟨q39, g40, h41⟩ := Option.bind_eq_some_iff.mp h11
                refine mr_cv (pc' := 105) (a := p2) (d1 := 1) dX4_goalOf_102 rfl rfl rfl rfl rfl t2 (by decide) rfl (by decide) (ok_X0_wordOf hR t2 t1 g40) ?_
                show mr X _ _ 105 _ [.long q39, .ref p0] (MM RR S0) _
                obtain ⟨q42, g43, h44⟩ := Option.bind_eq_some_iff.mp h41
                refine mr_cv (pc' := 108) (a := p0) (d1 := 0) dX4_goalOf_105 rfl rfl rfl rfl rfl t0 (by decide) rfl (by decide) (ok_X4_push hR t0 g43) ?_
                show mr X _ _ 108 _ [] (MM RR q42) _
                refine mr_goto (t := 159) dX4_goalOf_108 (by decide) ?_
                refine mr_iinc (pc' := 162) (x' := (p4 + (1 : Int32))) (lv' := [(4, .int (p4 + (1 : Int32))), (6, .int (a9 >>> ((5 : Int32) &&& 31))), (5, .int (a6 &&& (31 : Int32))), (0, .ref p0), (1, .ref p1), (2, .ref p2), (3, .int p3)]) dX4_goalOf_159 rfl (by decide) rfl rfl rfl ?_
                refine mr_goto (t := 8) dX4_goalOf_162 (by decide) ?_
                exact mr_sub [(0, .ref p0), (1, .ref p1), (2, .ref p2), (3, .int p3), (4, .int (p4 + (1 : Int32)))] ⟨rfl, rfl, rfl, rfl, rfl, trivial⟩ rfl (ih _ _  h44)
              · rw [if_neg c15] at h11
                refine mr_icmp_ne_t (t := 111) dX4_goalOf_93 (by decide) c15 ?_
                refine mr_iload (pc' := 113) dX4_goalOf_111 rfl rfl ?_
                refine mr_iconst (pc' := 114) (v := (4 : Int32)) dX4_goalOf_113 rfl (by decide) ?_
                by_cases c16 : (a6 &&& (31 : Int32)) = (4 : Int32)
                · rw [if_pos c16] at h11
                  refine mr_icmp_ne_f (t := 138) (pc' := 117) dX4_goalOf_114 (by decide) rfl (not_not_intro c16) ?_
                  refine mr_aload_n (pc' := 118) dX4_goalOf_117 rfl rfl ?_
                  refine mr_aload_n (pc' := 119) dX4_goalOf_118 rfl rfl ?_
                  obtain ⟨q29, g30, h31⟩ := Option.bind_eq_some_iff.mp h11
                  refine mr_cv (pc' := 122) (a := p0) (d1 := 0) dX4_goalOf_119 rfl rfl rfl rfl rfl t0 (by decide) rfl (by decide) (ok_X4_pop hR t0 g30) ?_
                  show mr X _ _ 122 _ [.long q29.1, .ref p0] (MM RR q29.2) _
                  refine mr_lconst (pc' := 123) (v := (0 : Int64)) dX4_goalOf_122 rfl (by decide) ?_
                  by_cases c32 : q29.1 = (0 : Int64)
                  · rw [if_pos c32] at h31
                    refine mr_lcmp_ne_f (t := 131) (pc' := 127) dX4_goalOf_123 rfl dX4_goalOf_124 (by decide) rfl (not_not_intro c32) ?_
                    refine mr_lconst (pc' := 128) (v := (1 : Int64)) dX4_goalOf_127 rfl (by decide) ?_
                    refine mr_goto (t := 132) dX4_goalOf_128 (by decide) ?_
                    obtain ⟨q36, g37, h38⟩ := Option.bind_eq_some_iff.mp h31
                    refine mr_cv (pc' := 135) (a := p0) (d1 := 0) dX4_goalOf_132 rfl rfl rfl rfl rfl t0 (by decide) rfl (by decide) (ok_X4_push hR t0 g37) ?_
                    show mr X _ _ 135 _ [] (MM RR q36) _
                    refine mr_goto (t := 159) dX4_goalOf_135 (by decide) ?_
                    refine mr_iinc (pc' := 162) (x' := (p4 + (1 : Int32))) (lv' := [(4, .int (p4 + (1 : Int32))), (6, .int (a9 >>> ((5 : Int32) &&& 31))), (5, .int (a6 &&& (31 : Int32))), (0, .ref p0), (1, .ref p1), (2, .ref p2), (3, .int p3)]) dX4_goalOf_159 rfl (by decide) rfl rfl rfl ?_
                    refine mr_goto (t := 8) dX4_goalOf_162 (by decide) ?_
                    exact mr_sub [(0, .ref p0), (1, .ref p1), (2, .ref p2), (3, .int p3), (4, .int (p4 + (1 : Int32)))] ⟨rfl, rfl, rfl, rfl, rfl, trivial⟩ rfl (ih _ _  h38)
                  · rw [if_neg c32] at h31
                    refine mr_lcmp_ne_t (t := 131) dX4_goalOf_123 rfl dX4_goalOf_124 (by decide) c32 ?_
                    refine mr_lconst (pc' := 132) (v := (0 : Int64)) dX4_goalOf_131 rfl (by decide) ?_
                    obtain ⟨q33, g34, h35⟩ := Option.bind_eq_some_iff.mp h31
                    refine mr_cv (pc' := 135) (a := p0) (d1 := 0) dX4_goalOf_132 rfl rfl rfl rfl rfl t0 (by decide) rfl (by decide) (ok_X4_push hR t0 g34) ?_
                    show mr X _ _ 135 _ [] (MM RR q33) _
                    refine mr_goto (t := 159) dX4_goalOf_135 (by decide) ?_
                    refine mr_iinc (pc' := 162) (x' := (p4 + (1 : Int32))) (lv' := [(4, .int (p4 + (1 : Int32))), (6, .int (a9 >>> ((5 : Int32) &&& 31))), (5, .int (a6 &&& (31 : Int32))), (0, .ref p0), (1, .ref p1), (2, .ref p2), (3, .int p3)]) dX4_goalOf_159 rfl (by decide) rfl rfl rfl ?_
                    refine mr_goto (t := 8) dX4_goalOf_162 (by decide) ?_
                    exact mr_sub [(0, .ref p0), (1, .ref p1), (2, .ref p2), (3, .int p3), (4, .int (p4 + (1 : Int32)))] ⟨rfl, rfl, rfl, rfl, rfl, trivial⟩ rfl (ih _ _  h35)
                · rw [if_neg c16] at h11
                  refine mr_icmp_ne_t (t := 138) dX4_goalOf_114 (by decide) c16 ?_
                  refine mr_aload_n (pc' := 139) dX4_goalOf_138 rfl rfl ?_
                  obtain ⟨q17, g18, h19⟩ := Option.bind_eq_some_iff.mp h11
                  refine mr_cv (pc' := 142) (a := p0) (d1 := 0) dX4_goalOf_139 rfl rfl rfl rfl rfl t0 (by decide) rfl (by decide) (ok_X4_pop hR t0 g18) ?_
                  show mr X _ _ 142 _ [.long q17.1] (MM RR q17.2) _
                  refine mr_lstore (pc' := 144) (lv' := [(7, .long q17.1), (6, .int (a9 >>> ((5 : Int32) &&& 31))), (5, .int (a6 &&& (31 : Int32))), (0, .ref p0), (1, .ref p1), (2, .ref p2), (3, .int p3), (4, .int p4)]) dX4_goalOf_142 rfl (by decide) rfl ?_
                  refine mr_aload_n (pc' := 145) dX4_goalOf_144 rfl rfl ?_
                  refine mr_iload (pc' := 147) dX4_goalOf_145 rfl rfl ?_
                  refine mr_aload_n (pc' := 148) dX4_goalOf_147 rfl rfl ?_
                  obtain ⟨q20, g21, h22⟩ := Option.bind_eq_some_iff.mp h19
                  refine mr_cv (pc' := 151) (a := p0) (d1 := 0) dX4_goalOf_148 rfl rfl rfl rfl rfl t0 (by decide) rfl (by decide) (ok_X4_pop hR t0 g21) ?_
                  show mr X _ _ 151 _ [.long q20.1, .int (a6 &&& (31 : Int32)), .ref p0] (MM RR q20.2) _
                  refine mr_lload (pc' := 153) dX4_goalOf_151 rfl rfl ?_
                  obtain ⟨q23, g24, h25⟩ := Option.bind_eq_some_iff.mp h22
                  refine mr_cs (pc' := 156) (d1 := 1) dX4_goalOf_153 rfl rfl rfl rfl (by decide) (Nat.le_of_ble_eq_true rfl) rfl rfl rfl (by decide) (ok_X4_joined hR  g24) ?_
                  show mr X _ _ 156 _ [.long q23, .ref p0] (MM RR q20.2) _
                  obtain ⟨q26, g27, h28⟩ := Option.bind_eq_some_iff.mp h25
                  refine mr_cv (pc' := 159) (a := p0) (d1 := 0) dX4_goalOf_156 rfl rfl rfl rfl rfl t0 (by decide) rfl (by decide) (ok_X4_push hR t0 g27) ?_
                  show mr X _ _ 159 _ [] (MM RR q26) _
                  refine mr_iinc (pc' := 162) (x' := (p4 + (1 : Int32))) (lv' := [(4, .int (p4 + (1 : Int32))), (7, .long q17.1), (6, .int (a9 >>> ((5 : Int32) &&& 31))), (5, .int (a6 &&& (31 : Int32))), (0, .ref p0), (1, .ref p1), (2, .ref p2), (3, .int p3)]) dX4_goalOf_159 rfl (by decide) rfl rfl rfl ?_
                  refine mr_goto (t := 8) dX4_goalOf_162 (by decide) ?_
                  exact mr_sub [(0, .ref p0), (1, .ref p1), (2, .ref p2), (3, .int p3), (4, .int (p4 + (1 : Int32)))] ⟨rfl, rfl, rfl, rfl, rfl, trivial⟩ rfl (ih _ _  h28)
def f_X4_goalOf (v0 : Nat) (v1 : Nat) (v2 : Nat) (v3 : Int32) (S : fS) : Option (Int32 × fS) :=
  (some (pI S v0 3 (0 : Int32))).bind fun S1 =>
  lp_X4_goalOf_8 v0 v1 v2 v3 (fun S52 => some ((-1 : Int32), S52)) FU (0 : Int32) S1
set_option maxHeartbeats 4000000 in
set_option maxRecDepth 100000 in
theorem ok_X4_goalOf {X : mm_C} {RR : Nat → Nat → Option Nat} (hR : RRok RR) {v0 : Nat} {v1 : Nat} {v2 : Nat} {v3 : Int32} (t0 : tg v0 = 4) (t1 : tg v1 = 8) (t2 : tg v2 = 0) {S : fS} {r : Int32 × fS} (h : f_X4_goalOf v0 v1 v2 v3 S = some r) : mr X 2 mY_X4_goalOf 0 (lv_args 0 [.ref v0, .ref v1, .ref v2, .int v3]) [] (MM RR S) (some (.int r.1), MM RR r.2) := by
  unfold f_X4_goalOf at h
  show mr X _ _ 0 [(0, .ref v0), (1, .ref v1), (2, .ref v2), (3, .int v3)] [] (MM RR S) _
  refine mr_aload_n (pc' := 1) dX4_goalOf_0 rfl rfl ?_
  refine mr_iconst (pc' := 2) (v := (0 : Int32)) dX4_goalOf_1 rfl (by decide) ?_
  obtain ⟨S1, g2, h3⟩ := Option.bind_eq_some_iff.mp h
  refine mr_putI (pc' := 5) (ci := 4) (j := 3) dX4_goalOf_2 rfl rfl t0 (by decide) (by decide) rfl rfl ?_
  rw [Option.some.inj g2]
  refine mr_iconst (pc' := 6) (v := (0 : Int32)) dX4_goalOf_5 rfl (by decide) ?_
  refine mr_istore (pc' := 8) (lv' := [(4, .int (0 : Int32)), (0, .ref v0), (1, .ref v1), (2, .ref v2), (3, .int v3)]) dX4_goalOf_6 rfl (by decide) rfl ?_
  refine mr_sub [(0, .ref v0), (1, .ref v1), (2, .ref v2), (3, .int v3), (4, .int (0 : Int32))] ⟨rfl, rfl, rfl, rfl, rfl, trivial⟩ rfl ?_
  refine ok_lp_X4_goalOf_8 hR t0 t1 t2 (fun S52 h53 => ?_) FU _ _  h3
  refine mr_iconst (pc' := 166) (v := (-1 : Int32)) dX4_goalOf_165 rfl (by decide) ?_
  obtain rfl := Option.some.inj h53
  exact mr_ireturn dX4_goalOf_166 rfl
def lp_X8_firstStair_10 (p0 : Nat) (p1 : Int32) (p2 : Int32) (p3 : Int32) (S : fS) (K : Unit → Option (Int32)) : Nat → Int32 → Option (Int32)
  | 0, _ => none
  | n + 1, p4 =>
    if (S.1 p0 7) ≤ p4 then (K ()) else
    (if p3 ≤ (0 : Int32) then (K ()) else
    ((f_X8_otherEnd p0 p4 p1 S).bind fun q6 =>
    if (0 : Int32) ≤ q6 then ((f_X8_hoursBetween p0 q6 p2 S).bind fun q10 =>
    if q10 < (0 : Int32) then (lp_X8_firstStair_10 p0 p1 p2 p3 S K n (p4 + (1 : Int32))) else
    ((gI S (p0 + 4) 12 p4).bind fun a14 =>
    if (a14 + q10) = p3 then (some p4) else
    (lp_X8_firstStair_10 p0 p1 p2 p3 S K n (p4 + (1 : Int32))))) else
    (if (-1 : Int32) < (0 : Int32) then (lp_X8_firstStair_10 p0 p1 p2 p3 S K n (p4 + (1 : Int32))) else
    ((gI S (p0 + 4) 12 p4).bind fun a19 =>
    if (a19 + (-1 : Int32)) = p3 then (some p4) else
    (lp_X8_firstStair_10 p0 p1 p2 p3 S K n (p4 + (1 : Int32)))))))
set_option maxHeartbeats 4000000 in
set_option maxRecDepth 100000 in
theorem ok_lp_X8_firstStair_10 {X : mm_C} {RR : Nat → Nat → Option Nat} (hR : RRok RR) {p0 : Nat} {p1 : Int32} {p2 : Int32} {p3 : Int32} (t0 : tg p0 = 8) {S : fS} {K : Unit → Option (Int32)} {r : Int32} (hK : ∀ (_ : Unit), K () = some r → mr X 1 mY_X8_firstStair 78 [] [] (MM RR S) (some (.int r), MM RR S)) : ∀ (n : Nat) (p4 : Int32), lp_X8_firstStair_10 p0 p1 p2 p3 S K n p4 = some r → mr X 1 mY_X8_firstStair 10 [(0, .ref p0), (1, .int p1), (2, .int p2), (3, .int p3), (4, .int p4)] [] (MM RR S) (some (.int r), MM RR S) := by
  intro n
  induction n with
  | zero => intro p4 h; exact mm_no h
  | succ n ih =>
    intro p4 h
    unfold lp_X8_firstStair_10 at h
    refine mr_iload (pc' := 12) dX8_firstStair_10 rfl rfl ?_
    refine mr_aload_n (pc' := 13) dX8_firstStair_12 rfl rfl ?_
    refine mr_getI (pc' := 16) (ci := 8) (j := 7) dX8_firstStair_13 rfl rfl t0 (by decide) (by decide) rfl ?_
    by_cases c4 : (S.1 p0 7) ≤ p4
    · rw [if_pos c4] at h
      refine mr_icmp_ge_t (t := 78) dX8_firstStair_16 (by decide) c4 ?_
      exact mr_sub [] trivial rfl (hK () h)
    · rw [if_neg c4] at h
      refine mr_icmp_ge_f (t := 78) (pc' := 19) dX8_firstStair_16 (by decide) rfl c4 ?_
      refine mr_iload_n (pc' := 20) dX8_firstStair_19 rfl rfl ?_
      by_cases c5 : p3 ≤ (0 : Int32)
      · rw [if_pos c5] at h
        refine mr_if_le_t (t := 78) dX8_firstStair_20 (by decide) c5 ?_
        exact mr_sub [] trivial rfl (hK () h)
      · rw [if_neg c5] at h
        refine mr_if_le_f (t := 78) (pc' := 23) dX8_firstStair_20 (by decide) rfl c5 ?_
        refine mr_aload_n (pc' := 24) dX8_firstStair_23 rfl rfl ?_
        refine mr_iload (pc' := 26) dX8_firstStair_24 rfl rfl ?_
        refine mr_iload_n (pc' := 27) dX8_firstStair_26 rfl rfl ?_
        obtain ⟨q6, g7, h8⟩ := Option.bind_eq_some_iff.mp h
        refine mr_cv (pc' := 30) (a := p0) (d1 := 0) dX8_firstStair_27 rfl rfl rfl rfl rfl t0 (by decide) rfl (by decide) (ok_X8_otherEnd hR t0 g7) ?_
        show mr X _ _ 30 _ [.int q6] (MM RR S) _
        refine mr_istore (pc' := 32) (lv' := [(5, .int q6), (0, .ref p0), (1, .int p1), (2, .int p2), (3, .int p3), (4, .int p4)]) dX8_firstStair_30 rfl (by decide) rfl ?_
        refine mr_iload (pc' := 34) dX8_firstStair_32 rfl rfl ?_
        by_cases c9 : (0 : Int32) ≤ q6
        · rw [if_pos c9] at h8
          refine mr_if_ge_t (t := 41) dX8_firstStair_34 (by decide) c9 ?_
          refine mr_aload_n (pc' := 42) dX8_firstStair_41 rfl rfl ?_
          refine mr_iload (pc' := 44) dX8_firstStair_42 rfl rfl ?_
          refine mr_iload_n (pc' := 45) dX8_firstStair_44 rfl rfl ?_
          obtain ⟨q10, g11, h12⟩ := Option.bind_eq_some_iff.mp h8
          refine mr_cv (pc' := 48) (a := p0) (d1 := 0) dX8_firstStair_45 rfl rfl rfl rfl rfl t0 (by decide) rfl (by decide) (ok_X8_hoursBetween hR t0 g11) ?_
          show mr X _ _ 48 _ [.int q10] (MM RR S) _
          refine mr_istore (pc' := 50) (lv' := [(6, .int q10), (5, .int q6), (0, .ref p0), (1, .int p1), (2, .int p2), (3, .int p3), (4, .int p4)]) dX8_firstStair_48 rfl (by decide) rfl ?_
          refine mr_iload (pc' := 52) dX8_firstStair_50 rfl rfl ?_
          by_cases c13 : q10 < (0 : Int32)
          · rw [if_pos c13] at h12
            refine mr_if_lt_t (t := 72) dX8_firstStair_52 (by decide) c13 ?_
            refine mr_iinc (pc' := 75) (x' := (p4 + (1 : Int32))) (lv' := [(4, .int (p4 + (1 : Int32))), (6, .int q10), (5, .int q6), (0, .ref p0), (1, .int p1), (2, .int p2), (3, .int p3)]) dX8_firstStair_72 rfl (by decide) rfl rfl rfl ?_
            refine mr_goto (t := 10) dX8_firstStair_75 (by decide) ?_
            exact mr_sub [(0, .ref p0), (1, .int p1), (2, .int p2), (3, .int p3), (4, .int (p4 + (1 : Int32)))] ⟨rfl, rfl, rfl, rfl, rfl, trivial⟩ rfl (ih _  h12)
          · rw [if_neg c13] at h12
            refine mr_if_lt_f (t := 72) (pc' := 55) dX8_firstStair_52 (by decide) rfl c13 ?_
            refine mr_aload_n (pc' := 56) dX8_firstStair_55 rfl rfl ?_
            refine mr_getR (pc' := 59) (ci := 8) (j := 3) (b := (p0 + 4)) hR dX8_firstStair_56 rfl rfl t0 (by decide) (by decide) (by decide) rfl (ly8_3 t0).1 ?_
            refine mr_iload (pc' := 61) dX8_firstStair_59 rfl rfl ?_
            obtain ⟨a14, g15, h16⟩ := Option.bind_eq_some_iff.mp h12
            refine mr_iald (pc' := 62) dX8_firstStair_61 rfl (ly8_3 t0).2.1 (ly8_3 t0).2.2 g15 ?_
            refine mr_iload (pc' := 64) dX8_firstStair_62 rfl rfl ?_
            refine mr_iadd (pc' := 65) dX8_firstStair_64 rfl ?_
            refine mr_iload_n (pc' := 66) dX8_firstStair_65 rfl rfl ?_
            by_cases c17 : (a14 + q10) = p3
            · rw [if_pos c17] at h16
              refine mr_icmp_ne_f (t := 72) (pc' := 69) dX8_firstStair_66 (by decide) rfl (not_not_intro c17) ?_
              refine mr_iload (pc' := 71) dX8_firstStair_69 rfl rfl ?_
              obtain rfl := Option.some.inj h16
              exact mr_ireturn dX8_firstStair_71 rfl
            · rw [if_neg c17] at h16
              refine mr_icmp_ne_t (t := 72) dX8_firstStair_66 (by decide) c17 ?_
              refine mr_iinc (pc' := 75) (x' := (p4 + (1 : Int32))) (lv' := [(4, .int (p4 + (1 : Int32))), (6, .int q10), (5, .int q6), (0, .ref p0), (1, .int p1), (2, .int p2), (3, .int p3)]) dX8_firstStair_72 rfl (by decide) rfl rfl rfl ?_
              refine mr_goto (t := 10) dX8_firstStair_75 (by decide) ?_
              exact mr_sub [(0, .ref p0), (1, .int p1), (2, .int p2), (3, .int p3), (4, .int (p4 + (1 : Int32)))] ⟨rfl, rfl, rfl, rfl, rfl, trivial⟩ rfl (ih _  h16)
        · rw [if_neg c9] at h8
          refine mr_if_ge_f (t := 41) (pc' := 37) dX8_firstStair_34 (by decide) rfl c9 ?_
          refine mr_iconst (pc' := 38) (v := (-1 : Int32)) dX8_firstStair_37 rfl (by decide) ?_
          refine mr_goto (t := 48) dX8_firstStair_38 (by decide) ?_
          refine mr_istore (pc' := 50) (lv' := [(6, .int (-1 : Int32)), (5, .int q6), (0, .ref p0), (1, .int p1), (2, .int p2), (3, .int p3), (4, .int p4)]) dX8_firstStair_48 rfl (by decide) rfl ?_
          refine mr_iload (pc' := 52) dX8_firstStair_50 rfl rfl ?_
          by_cases c18 : (-1 : Int32) < (0 : Int32)
          · rw [if_pos c18] at h8
            refine mr_if_lt_t (t := 72) dX8_firstStair_52 (by decide) c18 ?_
            refine mr_iinc (pc' := 75) (x' := (p4 + (1 : Int32))) (lv' := [(4, .int (p4 + (1 : Int32))), (6, .int (-1 : Int32)), (5, .int q6), (0, .ref p0), (1, .int p1), (2, .int p2), (3, .int p3)]) dX8_firstStair_72 rfl (by decide) rfl rfl rfl ?_
            refine mr_goto (t := 10) dX8_firstStair_75 (by decide) ?_
            exact mr_sub [(0, .ref p0), (1, .int p1), (2, .int p2), (3, .int p3), (4, .int (p4 + (1 : Int32)))] ⟨rfl, rfl, rfl, rfl, rfl, trivial⟩ rfl (ih _  h8)
          · rw [if_neg c18] at h8
            refine mr_if_lt_f (t := 72) (pc' := 55) dX8_firstStair_52 (by decide) rfl c18 ?_
            refine mr_aload_n (pc' := 56) dX8_firstStair_55 rfl rfl ?_
            refine mr_getR (pc' := 59) (ci := 8) (j := 3) (b := (p0 + 4)) hR dX8_firstStair_56 rfl rfl t0 (by decide) (by decide) (by decide) rfl (ly8_3 t0).1 ?_
            refine mr_iload (pc' := 61) dX8_firstStair_59 rfl rfl ?_
            obtain ⟨a19, g20, h21⟩ := Option.bind_eq_some_iff.mp h8
            refine mr_iald (pc' := 62) dX8_firstStair_61 rfl (ly8_3 t0).2.1 (ly8_3 t0).2.2 g20 ?_
            refine mr_iload (pc' := 64) dX8_firstStair_62 rfl rfl ?_
            refine mr_iadd (pc' := 65) dX8_firstStair_64 rfl ?_
            refine mr_iload_n (pc' := 66) dX8_firstStair_65 rfl rfl ?_
            by_cases c22 : (a19 + (-1 : Int32)) = p3
            · rw [if_pos c22] at h21
              refine mr_icmp_ne_f (t := 72) (pc' := 69) dX8_firstStair_66 (by decide) rfl (not_not_intro c22) ?_
              refine mr_iload (pc' := 71) dX8_firstStair_69 rfl rfl ?_
              obtain rfl := Option.some.inj h21
              exact mr_ireturn dX8_firstStair_71 rfl
            · rw [if_neg c22] at h21
              refine mr_icmp_ne_t (t := 72) dX8_firstStair_66 (by decide) c22 ?_
              refine mr_iinc (pc' := 75) (x' := (p4 + (1 : Int32))) (lv' := [(4, .int (p4 + (1 : Int32))), (6, .int (-1 : Int32)), (5, .int q6), (0, .ref p0), (1, .int p1), (2, .int p2), (3, .int p3)]) dX8_firstStair_72 rfl (by decide) rfl rfl rfl ?_
              refine mr_goto (t := 10) dX8_firstStair_75 (by decide) ?_
              exact mr_sub [(0, .ref p0), (1, .int p1), (2, .int p2), (3, .int p3), (4, .int (p4 + (1 : Int32)))] ⟨rfl, rfl, rfl, rfl, rfl, trivial⟩ rfl (ih _  h21)
def f_X8_firstStair (v0 : Nat) (v1 : Int32) (v2 : Int32) (S : fS) : Option (Int32) :=
  (f_X8_hoursBetween v0 v1 v2 S).bind fun q1 =>
  lp_X8_firstStair_10 v0 v1 v2 q1 S (fun (_ : Unit) => some (-1 : Int32)) FU (0 : Int32)
set_option maxHeartbeats 4000000 in
set_option maxRecDepth 100000 in
theorem ok_X8_firstStair {X : mm_C} {RR : Nat → Nat → Option Nat} (hR : RRok RR) {v0 : Nat} {v1 : Int32} {v2 : Int32} (t0 : tg v0 = 8) {S : fS} {r : Int32} (h : f_X8_firstStair v0 v1 v2 S = some r) : mr X 1 mY_X8_firstStair 0 (lv_args 0 [.ref v0, .int v1, .int v2]) [] (MM RR S) (some (.int r), MM RR S) := by
  unfold f_X8_firstStair at h
  show mr X _ _ 0 [(0, .ref v0), (1, .int v1), (2, .int v2)] [] (MM RR S) _
  refine mr_aload_n (pc' := 1) dX8_firstStair_0 rfl rfl ?_
  refine mr_iload_n (pc' := 2) dX8_firstStair_1 rfl rfl ?_
  refine mr_iload_n (pc' := 3) dX8_firstStair_2 rfl rfl ?_
  obtain ⟨q1, g2, h3⟩ := Option.bind_eq_some_iff.mp h
  refine mr_cv (pc' := 6) (a := v0) (d1 := 0) dX8_firstStair_3 rfl rfl rfl rfl rfl t0 (by decide) rfl (by decide) (ok_X8_hoursBetween hR t0 g2) ?_
  show mr X _ _ 6 _ [.int q1] (MM RR S) _
  refine mr_istore_n (pc' := 7) (lv' := [(3, .int q1), (0, .ref v0), (1, .int v1), (2, .int v2)]) dX8_firstStair_6 rfl (by decide) rfl ?_
  refine mr_iconst (pc' := 8) (v := (0 : Int32)) dX8_firstStair_7 rfl (by decide) ?_
  refine mr_istore (pc' := 10) (lv' := [(4, .int (0 : Int32)), (3, .int q1), (0, .ref v0), (1, .int v1), (2, .int v2)]) dX8_firstStair_8 rfl (by decide) rfl ?_
  refine mr_sub [(0, .ref v0), (1, .int v1), (2, .int v2), (3, .int q1), (4, .int (0 : Int32))] ⟨rfl, rfl, rfl, rfl, rfl, trivial⟩ rfl ?_
  refine ok_lp_X8_firstStair_10 hR t0 (fun _ h23 => ?_) FU _  h3
  refine mr_iconst (pc' := 79) (v := (-1 : Int32)) dX8_firstStair_78 rfl (by decide) ?_
  obtain rfl := Option.some.inj h23
  exact mr_ireturn dX8_firstStair_79 rfl
def lp_X0_obey_2 (p0 : Nat) (p1 : Nat) (p2 : Nat) (K : fS → Option (fS)) : Nat → Int32 → fS → Option (fS)
  | 0, _, _ => none
  | n + 1, p3, S0 =>
    if (S0.1 p0 5) ≤ p3 then (K S0) else
    ((f_X0_isStanding p0 p3 S0).bind fun q2 =>
    if q2 = (0 : Int32) then (lp_X0_obey_2 p0 p1 p2 K n (p3 + (1 : Int32)) S0) else
    ((f_X4_goalOf p2 p1 p0 p3 S0).bind fun q6 =>
    (f_X10_isFrom q6.1 (0 : Int32) ((q6.2.1 p1 6) - (1 : Int32)) q6.2).bind fun q9 =>
    if q9 = (0 : Int32) then (lp_X0_obey_2 p0 p1 p2 K n (p3 + (1 : Int32)) q6.2) else
    ((gI q6.2 (p0 + 1) 8 p3).bind fun a13 =>
    (f_X8_firstStair p1 a13 q6.1 q6.2).bind fun q16 =>
    (f_X0_setOff p0 p1 p3 q16 q6.2).bind fun q19 =>
    lp_X0_obey_2 p0 p1 p2 K n (p3 + (1 : Int32)) q19.2)))
set_option maxHeartbeats 4000000 in
set_option maxRecDepth 100000 in
theorem ok_lp_X0_obey_2 {X : mm_C} {RR : Nat → Nat → Option Nat} (hR : RRok RR) {p0 : Nat} {p1 : Nat} {p2 : Nat} (t0 : tg p0 = 0) (t1 : tg p1 = 8) (t2 : tg p2 = 4) {K : fS → Option (fS)} {r : fS} (hK : ∀ (Sk : fS), K Sk = some r → mr X 3 mY_X0_obey 70 [] [] (MM RR Sk) (none, MM RR r)) : ∀ (n : Nat) (p3 : Int32) (S0 : fS), lp_X0_obey_2 p0 p1 p2 K n p3 S0 = some r → mr X 3 mY_X0_obey 2 [(0, .ref p0), (1, .ref p1), (2, .ref p2), (3, .int p3)] [] (MM RR S0) (none, MM RR r) := by
  intro n
  induction n with
  | zero => intro p3 S0 h; exact mm_no h
  | succ n ih =>
    intro p3 S0 h
    unfold lp_X0_obey_2 at h
    refine mr_iload_n (pc' := 3) dX0_obey_2 rfl rfl ?_
    refine mr_aload_n (pc' := 4) dX0_obey_3 rfl rfl ?_
    refine mr_getI (pc' := 7) (ci := 0) (j := 5) dX0_obey_4 rfl rfl t0 (by decide) (by decide) rfl ?_
    by_cases c1 : (S0.1 p0 5) ≤ p3
    · rw [if_pos c1] at h
      refine mr_icmp_ge_t (t := 70) dX0_obey_7 (by decide) c1 ?_
      exact mr_sub [] trivial rfl (hK _  h)
    · rw [if_neg c1] at h
      refine mr_icmp_ge_f (t := 70) (pc' := 10) dX0_obey_7 (by decide) rfl c1 ?_
      refine mr_aload_n (pc' := 11) dX0_obey_10 rfl rfl ?_
      refine mr_iload_n (pc' := 12) dX0_obey_11 rfl rfl ?_
      obtain ⟨q2, g3, h4⟩ := Option.bind_eq_some_iff.mp h
      refine mr_cv (pc' := 15) (a := p0) (d1 := 0) dX0_obey_12 rfl rfl rfl rfl rfl t0 (by decide) rfl (by decide) (ok_X0_isStanding hR t0 g3) ?_
      show mr X _ _ 15 _ [.int q2] (MM RR S0) _
      by_cases c5 : q2 = (0 : Int32)
      · rw [if_pos c5] at h4
        refine mr_if_ne_f (t := 21) (pc' := 18) dX0_obey_15 (by decide) rfl (not_not_intro c5) ?_
        refine mr_goto (t := 64) dX0_obey_18 (by decide) ?_
        refine mr_iinc (pc' := 67) (x' := (p3 + (1 : Int32))) (lv' := [(3, .int (p3 + (1 : Int32))), (0, .ref p0), (1, .ref p1), (2, .ref p2)]) dX0_obey_64 rfl (by decide) rfl rfl rfl ?_
        refine mr_goto (t := 2) dX0_obey_67 (by decide) ?_
        exact mr_sub [(0, .ref p0), (1, .ref p1), (2, .ref p2), (3, .int (p3 + (1 : Int32)))] ⟨rfl, rfl, rfl, rfl, trivial⟩ rfl (ih _ _  h4)
      · rw [if_neg c5] at h4
        refine mr_if_ne_t (t := 21) dX0_obey_15 (by decide) c5 ?_
        refine mr_aload_n (pc' := 22) dX0_obey_21 rfl rfl ?_
        refine mr_aload_n (pc' := 23) dX0_obey_22 rfl rfl ?_
        refine mr_aload_n (pc' := 24) dX0_obey_23 rfl rfl ?_
        refine mr_iload_n (pc' := 25) dX0_obey_24 rfl rfl ?_
        obtain ⟨q6, g7, h8⟩ := Option.bind_eq_some_iff.mp h4
        refine mr_cv (pc' := 28) (a := p2) (d1 := 2) dX0_obey_25 rfl rfl rfl rfl rfl t2 (by decide) rfl (by decide) (ok_X4_goalOf hR t2 t1 t0 g7) ?_
        show mr X _ _ 28 _ [.int q6.1] (MM RR q6.2) _
        refine mr_istore (pc' := 30) (lv' := [(4, .int q6.1), (0, .ref p0), (1, .ref p1), (2, .ref p2), (3, .int p3)]) dX0_obey_28 rfl (by decide) rfl ?_
        refine mr_iload (pc' := 32) dX0_obey_30 rfl rfl ?_
        refine mr_iconst (pc' := 33) (v := (0 : Int32)) dX0_obey_32 rfl (by decide) ?_
        refine mr_aload_n (pc' := 34) dX0_obey_33 rfl rfl ?_
        refine mr_getI (pc' := 37) (ci := 8) (j := 6) dX0_obey_34 rfl rfl t1 (by decide) (by decide) rfl ?_
        refine mr_iconst (pc' := 38) (v := (1 : Int32)) dX0_obey_37 rfl (by decide) ?_
        refine mr_isub (pc' := 39) dX0_obey_38 rfl ?_
        obtain ⟨q9, g10, h11⟩ := Option.bind_eq_some_iff.mp h8
        refine mr_cs (pc' := 42) (d1 := 0) dX0_obey_39 rfl rfl rfl rfl (by decide) (Nat.le_of_ble_eq_true rfl) rfl rfl rfl (by decide) (ok_X10_isFrom hR  g10) ?_
        show mr X _ _ 42 _ [.int q9] (MM RR q6.2) _
        by_cases c12 : q9 = (0 : Int32)
        · rw [if_pos c12] at h11
          refine mr_if_eq_t (t := 64) dX0_obey_42 (by decide) c12 ?_
          refine mr_iinc (pc' := 67) (x' := (p3 + (1 : Int32))) (lv' := [(3, .int (p3 + (1 : Int32))), (4, .int q6.1), (0, .ref p0), (1, .ref p1), (2, .ref p2)]) dX0_obey_64 rfl (by decide) rfl rfl rfl ?_
          refine mr_goto (t := 2) dX0_obey_67 (by decide) ?_
          exact mr_sub [(0, .ref p0), (1, .ref p1), (2, .ref p2), (3, .int (p3 + (1 : Int32)))] ⟨rfl, rfl, rfl, rfl, trivial⟩ rfl (ih _ _  h11)
        · rw [if_neg c12] at h11
          refine mr_if_eq_f (t := 64) (pc' := 45) dX0_obey_42 (by decide) rfl c12 ?_
          refine mr_aload_n (pc' := 46) dX0_obey_45 rfl rfl ?_
          refine mr_aload_n (pc' := 47) dX0_obey_46 rfl rfl ?_
          refine mr_iload_n (pc' := 48) dX0_obey_47 rfl rfl ?_
          refine mr_aload_n (pc' := 49) dX0_obey_48 rfl rfl ?_
          refine mr_aload_n (pc' := 50) dX0_obey_49 rfl rfl ?_
          refine mr_getR (pc' := 53) (ci := 0) (j := 0) (b := (p0 + 1)) hR dX0_obey_50 rfl rfl t0 (by decide) (by decide) (by decide) rfl (ly0_0 t0).1 ?_
          refine mr_iload_n (pc' := 54) dX0_obey_53 rfl rfl ?_
          obtain ⟨a13, g14, h15⟩ := Option.bind_eq_some_iff.mp h11
          refine mr_iald (pc' := 55) dX0_obey_54 rfl (ly0_0 t0).2.1 (ly0_0 t0).2.2 g14 ?_
          refine mr_iload (pc' := 57) dX0_obey_55 rfl rfl ?_
          obtain ⟨q16, g17, h18⟩ := Option.bind_eq_some_iff.mp h15
          refine mr_cv (pc' := 60) (a := p1) (d1 := 1) dX0_obey_57 rfl rfl rfl rfl rfl t1 (by decide) rfl (by decide) (ok_X8_firstStair hR t1 g17) ?_
          show mr X _ _ 60 _ [.int q16, .int p3, .ref p1, .ref p0] (MM RR q6.2) _
          obtain ⟨q19, g20, h21⟩ := Option.bind_eq_some_iff.mp h18
          refine mr_cv (pc' := 63) (a := p0) (d1 := 1) dX0_obey_60 rfl rfl rfl rfl rfl t0 (by decide) rfl (by decide) (ok_X0_setOff hR t0 t1 g20) ?_
          show mr X _ _ 63 _ [.int q19.1] (MM RR q19.2) _
          refine mr_pop_int (pc' := 64) dX0_obey_63 rfl ?_
          refine mr_iinc (pc' := 67) (x' := (p3 + (1 : Int32))) (lv' := [(3, .int (p3 + (1 : Int32))), (4, .int q6.1), (0, .ref p0), (1, .ref p1), (2, .ref p2)]) dX0_obey_64 rfl (by decide) rfl rfl rfl ?_
          refine mr_goto (t := 2) dX0_obey_67 (by decide) ?_
          exact mr_sub [(0, .ref p0), (1, .ref p1), (2, .ref p2), (3, .int (p3 + (1 : Int32)))] ⟨rfl, rfl, rfl, rfl, trivial⟩ rfl (ih _ _  h21)
def f_X0_obey (v0 : Nat) (v1 : Nat) (v2 : Nat) (S : fS) : Option (fS) :=
  lp_X0_obey_2 v0 v1 v2 (fun S22 => some S22) FU (0 : Int32) S
set_option maxHeartbeats 4000000 in
set_option maxRecDepth 100000 in
theorem ok_X0_obey {X : mm_C} {RR : Nat → Nat → Option Nat} (hR : RRok RR) {v0 : Nat} {v1 : Nat} {v2 : Nat} (t0 : tg v0 = 0) (t1 : tg v1 = 8) (t2 : tg v2 = 4) {S : fS} {r : fS} (h : f_X0_obey v0 v1 v2 S = some r) : mr X 3 mY_X0_obey 0 (lv_args 0 [.ref v0, .ref v1, .ref v2]) [] (MM RR S) (none, MM RR r) := by
  unfold f_X0_obey at h
  show mr X _ _ 0 [(0, .ref v0), (1, .ref v1), (2, .ref v2)] [] (MM RR S) _
  refine mr_iconst (pc' := 1) (v := (0 : Int32)) dX0_obey_0 rfl (by decide) ?_
  refine mr_istore_n (pc' := 2) (lv' := [(3, .int (0 : Int32)), (0, .ref v0), (1, .ref v1), (2, .ref v2)]) dX0_obey_1 rfl (by decide) rfl ?_
  refine mr_sub [(0, .ref v0), (1, .ref v1), (2, .ref v2), (3, .int (0 : Int32))] ⟨rfl, rfl, rfl, rfl, trivial⟩ rfl ?_
  refine ok_lp_X0_obey_2 hR t0 t1 t2 (fun S22 h23 => ?_) FU _ _  h
  obtain rfl := Option.some.inj h23
  exact mr_return dX0_obey_70 rfl
def lp_X0_passHour_2 (p0 : Nat) (p1 : Nat) (K : fS → Option (fS)) : Nat → Int32 → fS → Option (fS)
  | 0, _, _ => none
  | n + 1, p2, S0 =>
    if (S0.1 p0 5) ≤ p2 then (K S0) else
    ((f_X0_isStanding p0 p2 S0).bind fun q2 =>
    if q2 = (0 : Int32) then ((gI S0 (p0 + 2) 8 p2).bind fun a6 =>
    (gL S0 (p0 + 5) 8 p2).bind fun a9 =>
    (gL S0 (p1 + 5) 12 a6).bind fun a12 =>
    (sL S0 (p0 + 5) 8 p2 (a9 + a12)).bind fun S15 =>
    (gI S15 (p0 + 3) 8 p2).bind fun a18 =>
    (sI S15 (p0 + 3) 8 p2 (a18 + (1 : Int32))).bind fun S21 =>
    (gI S21 (p0 + 3) 8 p2).bind fun a24 =>
    (gI S21 (p1 + 4) 12 a6).bind fun a27 =>
    if a24 < a27 then (lp_X0_passHour_2 p0 p1 K n (p2 + (1 : Int32)) S21) else
    ((gI S21 (p0 + 4) 8 p2).bind fun a31 =>
    (f_X0_putOn p0 p2 a31 S21).bind fun q34 =>
    lp_X0_passHour_2 p0 p1 K n (p2 + (1 : Int32)) q34)) else
    ((gL S0 (p0 + 5) 8 p2).bind fun a37 =>
    (gI S0 (p0 + 1) 8 p2).bind fun a40 =>
    (gL S0 (p1 + 1) 10 a40).bind fun a43 =>
    (sL S0 (p0 + 5) 8 p2 (a37 + a43)).bind fun S46 =>
    lp_X0_passHour_2 p0 p1 K n (p2 + (1 : Int32)) S46))
set_option maxHeartbeats 4000000 in
set_option maxRecDepth 100000 in
theorem ok_lp_X0_passHour_2 {X : mm_C} {RR : Nat → Nat → Option Nat} (hR : RRok RR) {p0 : Nat} {p1 : Nat} (t0 : tg p0 = 0) (t1 : tg p1 = 8) {K : fS → Option (fS)} {r : fS} (hK : ∀ (Sk : fS), K Sk = some r → mr X 1 mY_X0_passHour 105 [(0, .ref p0)] [] (MM RR Sk) (none, MM RR r)) : ∀ (n : Nat) (p2 : Int32) (S0 : fS), lp_X0_passHour_2 p0 p1 K n p2 S0 = some r → mr X 1 mY_X0_passHour 2 [(0, .ref p0), (1, .ref p1), (2, .int p2)] [] (MM RR S0) (none, MM RR r) := by
  intro n
  induction n with
  | zero => intro p2 S0 h; exact mm_no h
  | succ n ih =>
    intro p2 S0 h
    unfold lp_X0_passHour_2 at h
    refine mr_iload_n (pc' := 3) dX0_passHour_2 rfl rfl ?_
    refine mr_aload_n (pc' := 4) dX0_passHour_3 rfl rfl ?_
    refine mr_getI (pc' := 7) (ci := 0) (j := 5) dX0_passHour_4 rfl rfl t0 (by decide) (by decide) rfl ?_
    by_cases c1 : (S0.1 p0 5) ≤ p2
    · rw [if_pos c1] at h
      refine mr_icmp_ge_t (t := 105) dX0_passHour_7 (by decide) c1 ?_
      exact mr_sub [(0, .ref p0)] ⟨rfl, trivial⟩ rfl (hK _  h)
    · rw [if_neg c1] at h
      refine mr_icmp_ge_f (t := 105) (pc' := 10) dX0_passHour_7 (by decide) rfl c1 ?_
      refine mr_aload_n (pc' := 11) dX0_passHour_10 rfl rfl ?_
      refine mr_iload_n (pc' := 12) dX0_passHour_11 rfl rfl ?_
      obtain ⟨q2, g3, h4⟩ := Option.bind_eq_some_iff.mp h
      refine mr_cv (pc' := 15) (a := p0) (d1 := 0) dX0_passHour_12 rfl rfl rfl rfl rfl t0 (by decide) rfl (by decide) (ok_X0_isStanding hR t0 g3) ?_
      show mr X _ _ 15 _ [.int q2] (MM RR S0) _
      by_cases c5 : q2 = (0 : Int32)
      · rw [if_pos c5] at h4
        refine mr_if_eq_t (t := 41) dX0_passHour_15 (by decide) c5 ?_
        refine mr_aload_n (pc' := 42) dX0_passHour_41 rfl rfl ?_
        refine mr_getR (pc' := 45) (ci := 0) (j := 1) (b := (p0 + 2)) hR dX0_passHour_42 rfl rfl t0 (by decide) (by decide) (by decide) rfl (ly0_1 t0).1 ?_
        refine mr_iload_n (pc' := 46) dX0_passHour_45 rfl rfl ?_
        obtain ⟨a6, g7, h8⟩ := Option.bind_eq_some_iff.mp h4
        refine mr_iald (pc' := 47) dX0_passHour_46 rfl (ly0_1 t0).2.1 (ly0_1 t0).2.2 g7 ?_
        refine mr_istore_n (pc' := 48) (lv' := [(3, .int a6), (0, .ref p0), (1, .ref p1), (2, .int p2)]) dX0_passHour_47 rfl (by decide) rfl ?_
        refine mr_aload_n (pc' := 49) dX0_passHour_48 rfl rfl ?_
        refine mr_getR (pc' := 52) (ci := 0) (j := 4) (b := (p0 + 5)) hR dX0_passHour_49 rfl rfl t0 (by decide) (by decide) (by decide) rfl (ly0_4 t0).1 ?_
        refine mr_iload_n (pc' := 53) dX0_passHour_52 rfl rfl ?_
        refine mr_dup2 (pc' := 54) dX0_passHour_53 rfl ?_
        obtain ⟨a9, g10, h11⟩ := Option.bind_eq_some_iff.mp h8
        refine mr_lald (pc' := 55) dX0_passHour_54 rfl (ly0_4 t0).2.1 (ly0_4 t0).2.2 g10 ?_
        refine mr_aload_n (pc' := 56) dX0_passHour_55 rfl rfl ?_
        refine mr_getR (pc' := 59) (ci := 8) (j := 4) (b := (p1 + 5)) hR dX0_passHour_56 rfl rfl t1 (by decide) (by decide) (by decide) rfl (ly8_4 t1).1 ?_
        refine mr_iload_n (pc' := 60) dX0_passHour_59 rfl rfl ?_
        obtain ⟨a12, g13, h14⟩ := Option.bind_eq_some_iff.mp h11
        refine mr_lald (pc' := 61) dX0_passHour_60 rfl (ly8_4 t1).2.1 (ly8_4 t1).2.2 g13 ?_
        refine mr_ladd (pc' := 62) dX0_passHour_61 rfl ?_
        obtain ⟨S15, g16, h17⟩ := Option.bind_eq_some_iff.mp h14
        refine mr_last (pc' := 63) dX0_passHour_62 rfl (ly0_4 t0).2.1 (ly0_4 t0).2.2 g16 ?_
        refine mr_aload_n (pc' := 64) dX0_passHour_63 rfl rfl ?_
        refine mr_getR (pc' := 67) (ci := 0) (j := 2) (b := (p0 + 3)) hR dX0_passHour_64 rfl rfl t0 (by decide) (by decide) (by decide) rfl (ly0_2 t0).1 ?_
        refine mr_iload_n (pc' := 68) dX0_passHour_67 rfl rfl ?_
        refine mr_dup2 (pc' := 69) dX0_passHour_68 rfl ?_
        obtain ⟨a18, g19, h20⟩ := Option.bind_eq_some_iff.mp h17
        refine mr_iald (pc' := 70) dX0_passHour_69 rfl (ly0_2 t0).2.1 (ly0_2 t0).2.2 g19 ?_
        refine mr_iconst (pc' := 71) (v := (1 : Int32)) dX0_passHour_70 rfl (by decide) ?_
        refine mr_iadd (pc' := 72) dX0_passHour_71 rfl ?_
        obtain ⟨S21, g22, h23⟩ := Option.bind_eq_some_iff.mp h20
        refine mr_iast (pc' := 73) dX0_passHour_72 rfl (ly0_2 t0).2.1 (ly0_2 t0).2.2 g22 ?_
        refine mr_aload_n (pc' := 74) dX0_passHour_73 rfl rfl ?_
        refine mr_getR (pc' := 77) (ci := 0) (j := 2) (b := (p0 + 3)) hR dX0_passHour_74 rfl rfl t0 (by decide) (by decide) (by decide) rfl (ly0_2 t0).1 ?_
        refine mr_iload_n (pc' := 78) dX0_passHour_77 rfl rfl ?_
        obtain ⟨a24, g25, h26⟩ := Option.bind_eq_some_iff.mp h23
        refine mr_iald (pc' := 79) dX0_passHour_78 rfl (ly0_2 t0).2.1 (ly0_2 t0).2.2 g25 ?_
        refine mr_aload_n (pc' := 80) dX0_passHour_79 rfl rfl ?_
        refine mr_getR (pc' := 83) (ci := 8) (j := 3) (b := (p1 + 4)) hR dX0_passHour_80 rfl rfl t1 (by decide) (by decide) (by decide) rfl (ly8_3 t1).1 ?_
        refine mr_iload_n (pc' := 84) dX0_passHour_83 rfl rfl ?_
        obtain ⟨a27, g28, h29⟩ := Option.bind_eq_some_iff.mp h26
        refine mr_iald (pc' := 85) dX0_passHour_84 rfl (ly8_3 t1).2.1 (ly8_3 t1).2.2 g28 ?_
        by_cases c30 : a24 < a27
        · rw [if_pos c30] at h29
          refine mr_icmp_lt_t (t := 99) dX0_passHour_85 (by decide) c30 ?_
          refine mr_iinc (pc' := 102) (x' := (p2 + (1 : Int32))) (lv' := [(2, .int (p2 + (1 : Int32))), (3, .int a6), (0, .ref p0), (1, .ref p1)]) dX0_passHour_99 rfl (by decide) rfl rfl rfl ?_
          refine mr_goto (t := 2) dX0_passHour_102 (by decide) ?_
          exact mr_sub [(0, .ref p0), (1, .ref p1), (2, .int (p2 + (1 : Int32)))] ⟨rfl, rfl, rfl, trivial⟩ rfl (ih _ _  h29)
        · rw [if_neg c30] at h29
          refine mr_icmp_lt_f (t := 99) (pc' := 88) dX0_passHour_85 (by decide) rfl c30 ?_
          refine mr_aload_n (pc' := 89) dX0_passHour_88 rfl rfl ?_
          refine mr_iload_n (pc' := 90) dX0_passHour_89 rfl rfl ?_
          refine mr_aload_n (pc' := 91) dX0_passHour_90 rfl rfl ?_
          refine mr_getR (pc' := 94) (ci := 0) (j := 3) (b := (p0 + 4)) hR dX0_passHour_91 rfl rfl t0 (by decide) (by decide) (by decide) rfl (ly0_3 t0).1 ?_
          refine mr_iload_n (pc' := 95) dX0_passHour_94 rfl rfl ?_
          obtain ⟨a31, g32, h33⟩ := Option.bind_eq_some_iff.mp h29
          refine mr_iald (pc' := 96) dX0_passHour_95 rfl (ly0_3 t0).2.1 (ly0_3 t0).2.2 g32 ?_
          obtain ⟨q34, g35, h36⟩ := Option.bind_eq_some_iff.mp h33
          refine mr_cv (pc' := 99) (a := p0) (d1 := 0) dX0_passHour_96 rfl rfl rfl rfl rfl t0 (by decide) rfl (by decide) (ok_X0_putOn hR t0 g35) ?_
          show mr X _ _ 99 _ [] (MM RR q34) _
          refine mr_iinc (pc' := 102) (x' := (p2 + (1 : Int32))) (lv' := [(2, .int (p2 + (1 : Int32))), (3, .int a6), (0, .ref p0), (1, .ref p1)]) dX0_passHour_99 rfl (by decide) rfl rfl rfl ?_
          refine mr_goto (t := 2) dX0_passHour_102 (by decide) ?_
          exact mr_sub [(0, .ref p0), (1, .ref p1), (2, .int (p2 + (1 : Int32)))] ⟨rfl, rfl, rfl, trivial⟩ rfl (ih _ _  h36)
      · rw [if_neg c5] at h4
        refine mr_if_eq_f (t := 41) (pc' := 18) dX0_passHour_15 (by decide) rfl c5 ?_
        refine mr_aload_n (pc' := 19) dX0_passHour_18 rfl rfl ?_
        refine mr_getR (pc' := 22) (ci := 0) (j := 4) (b := (p0 + 5)) hR dX0_passHour_19 rfl rfl t0 (by decide) (by decide) (by decide) rfl (ly0_4 t0).1 ?_
        refine mr_iload_n (pc' := 23) dX0_passHour_22 rfl rfl ?_
        refine mr_dup2 (pc' := 24) dX0_passHour_23 rfl ?_
        obtain ⟨a37, g38, h39⟩ := Option.bind_eq_some_iff.mp h4
        refine mr_lald (pc' := 25) dX0_passHour_24 rfl (ly0_4 t0).2.1 (ly0_4 t0).2.2 g38 ?_
        refine mr_aload_n (pc' := 26) dX0_passHour_25 rfl rfl ?_
        refine mr_getR (pc' := 29) (ci := 8) (j := 0) (b := (p1 + 1)) hR dX0_passHour_26 rfl rfl t1 (by decide) (by decide) (by decide) rfl (ly8_0 t1).1 ?_
        refine mr_aload_n (pc' := 30) dX0_passHour_29 rfl rfl ?_
        refine mr_getR (pc' := 33) (ci := 0) (j := 0) (b := (p0 + 1)) hR dX0_passHour_30 rfl rfl t0 (by decide) (by decide) (by decide) rfl (ly0_0 t0).1 ?_
        refine mr_iload_n (pc' := 34) dX0_passHour_33 rfl rfl ?_
        obtain ⟨a40, g41, h42⟩ := Option.bind_eq_some_iff.mp h39
        refine mr_iald (pc' := 35) dX0_passHour_34 rfl (ly0_0 t0).2.1 (ly0_0 t0).2.2 g41 ?_
        obtain ⟨a43, g44, h45⟩ := Option.bind_eq_some_iff.mp h42
        refine mr_lald (pc' := 36) dX0_passHour_35 rfl (ly8_0 t1).2.1 (ly8_0 t1).2.2 g44 ?_
        refine mr_ladd (pc' := 37) dX0_passHour_36 rfl ?_
        obtain ⟨S46, g47, h48⟩ := Option.bind_eq_some_iff.mp h45
        refine mr_last (pc' := 38) dX0_passHour_37 rfl (ly0_4 t0).2.1 (ly0_4 t0).2.2 g47 ?_
        refine mr_goto (t := 99) dX0_passHour_38 (by decide) ?_
        refine mr_iinc (pc' := 102) (x' := (p2 + (1 : Int32))) (lv' := [(2, .int (p2 + (1 : Int32))), (0, .ref p0), (1, .ref p1)]) dX0_passHour_99 rfl (by decide) rfl rfl rfl ?_
        refine mr_goto (t := 2) dX0_passHour_102 (by decide) ?_
        exact mr_sub [(0, .ref p0), (1, .ref p1), (2, .int (p2 + (1 : Int32)))] ⟨rfl, rfl, rfl, trivial⟩ rfl (ih _ _  h48)
def f_X0_passHour (v0 : Nat) (v1 : Nat) (S : fS) : Option (fS) :=
  lp_X0_passHour_2 v0 v1 (fun S49 => (some (pI S49 v0 6 ((S49.1 v0 6) + (1 : Int32)))).bind fun S51 =>
  some S51) FU (0 : Int32) S
set_option maxHeartbeats 4000000 in
set_option maxRecDepth 100000 in
theorem ok_X0_passHour {X : mm_C} {RR : Nat → Nat → Option Nat} (hR : RRok RR) {v0 : Nat} {v1 : Nat} (t0 : tg v0 = 0) (t1 : tg v1 = 8) {S : fS} {r : fS} (h : f_X0_passHour v0 v1 S = some r) : mr X 1 mY_X0_passHour 0 (lv_args 0 [.ref v0, .ref v1]) [] (MM RR S) (none, MM RR r) := by
  unfold f_X0_passHour at h
  show mr X _ _ 0 [(0, .ref v0), (1, .ref v1)] [] (MM RR S) _
  refine mr_iconst (pc' := 1) (v := (0 : Int32)) dX0_passHour_0 rfl (by decide) ?_
  refine mr_istore_n (pc' := 2) (lv' := [(2, .int (0 : Int32)), (0, .ref v0), (1, .ref v1)]) dX0_passHour_1 rfl (by decide) rfl ?_
  refine mr_sub [(0, .ref v0), (1, .ref v1), (2, .int (0 : Int32))] ⟨rfl, rfl, rfl, trivial⟩ rfl ?_
  refine ok_lp_X0_passHour_2 hR t0 t1 (fun S49 h50 => ?_) FU _ _  h
  refine mr_aload_n (pc' := 106) dX0_passHour_105 rfl rfl ?_
  refine mr_dup_ref (pc' := 107) dX0_passHour_106 rfl ?_
  refine mr_getI (pc' := 110) (ci := 0) (j := 6) dX0_passHour_107 rfl rfl t0 (by decide) (by decide) rfl ?_
  refine mr_iconst (pc' := 111) (v := (1 : Int32)) dX0_passHour_110 rfl (by decide) ?_
  refine mr_iadd (pc' := 112) dX0_passHour_111 rfl ?_
  obtain ⟨S51, g52, h53⟩ := Option.bind_eq_some_iff.mp h50
  refine mr_putI (pc' := 115) (ci := 0) (j := 6) dX0_passHour_112 rfl rfl t0 (by decide) (by decide) rfl rfl ?_
  rw [Option.some.inj g52]
  obtain rfl := Option.some.inj h53
  exact mr_return dX0_passHour_115 rfl
def lp_X0_live_3 (p0 : Nat) (p1 : Nat) (p2 : Option Nat) (p3 : Int32) (K : fS → Option (fS)) : Nat → Int32 → fS → Option (fS)
  | 0, _, _ => none
  | n + 1, p4, S0 =>
    if p3 ≤ p4 then (K S0) else
    (match p2 with
    | none => ((f_X0_passHour p0 p1 S0).bind fun q3 =>
    lp_X0_live_3 p0 p1 p2 p3 K n (p4 + (1 : Int32)) q3)
    | some a2 => ((f_X0_obey p0 p1 a2 S0).bind fun q6 =>
    (f_X0_passHour p0 p1 q6).bind fun q9 =>
    lp_X0_live_3 p0 p1 p2 p3 K n (p4 + (1 : Int32)) q9))
set_option maxHeartbeats 4000000 in
set_option maxRecDepth 100000 in
theorem ok_lp_X0_live_3 {X : mm_C} {RR : Nat → Nat → Option Nat} (hR : RRok RR) {p0 : Nat} {p1 : Nat} {p2 : Option Nat} {p3 : Int32} (t0 : tg p0 = 0) (t1 : tg p1 = 8) (t2 : ∀ a, p2 = some a → tg a = 4) {K : fS → Option (fS)} {r : fS} (hK : ∀ (Sk : fS), K Sk = some r → mr X 4 mY_X0_live 30 [] [] (MM RR Sk) (none, MM RR r)) : ∀ (n : Nat) (p4 : Int32) (S0 : fS), lp_X0_live_3 p0 p1 p2 p3 K n p4 S0 = some r → mr X 4 mY_X0_live 3 [(0, .ref p0), (1, .ref p1), (2, mm_rv p2), (3, .int p3), (4, .int p4)] [] (MM RR S0) (none, MM RR r) := by
  intro n
  induction n with
  | zero => intro p4 S0 h; exact mm_no h
  | succ n ih =>
    intro p4 S0 h
    unfold lp_X0_live_3 at h
    refine mr_iload (pc' := 5) dX0_live_3 rfl rfl ?_
    refine mr_iload_n (pc' := 6) dX0_live_5 rfl rfl ?_
    by_cases c1 : p3 ≤ p4
    · rw [if_pos c1] at h
      refine mr_icmp_ge_t (t := 30) dX0_live_6 (by decide) c1 ?_
      exact mr_sub [] trivial rfl (hK _  h)
    · rw [if_neg c1] at h
      refine mr_icmp_ge_f (t := 30) (pc' := 9) dX0_live_6 (by decide) rfl c1 ?_
      refine mr_oload_n (pc' := 10) (x := p2) dX0_live_9 rfl rfl ?_
      cases p2 with
      | none =>
        refine mr_ifnull_n (t := 19) dX0_live_10 (by decide) ?_
        refine mr_aload_n (pc' := 20) dX0_live_19 rfl rfl ?_
        refine mr_aload_n (pc' := 21) dX0_live_20 rfl rfl ?_
        obtain ⟨q3, g4, h5⟩ := Option.bind_eq_some_iff.mp h
        refine mr_cv (pc' := 24) (a := p0) (d1 := 1) dX0_live_21 rfl rfl rfl rfl rfl t0 (by decide) rfl (by decide) (ok_X0_passHour hR t0 t1 g4) ?_
        show mr X _ _ 24 _ [] (MM RR q3) _
        refine mr_iinc (pc' := 27) (x' := (p4 + (1 : Int32))) (lv' := [(4, .int (p4 + (1 : Int32))), (0, .ref p0), (1, .ref p1), (2, .null), (3, .int p3)]) dX0_live_24 rfl (by decide) rfl rfl rfl ?_
        refine mr_goto (t := 3) dX0_live_27 (by decide) ?_
        exact mr_sub [(0, .ref p0), (1, .ref p1), (2, .null), (3, .int p3), (4, .int (p4 + (1 : Int32)))] ⟨rfl, rfl, rfl, rfl, rfl, trivial⟩ rfl (ih _ _  h5)
      | some a2 =>
        refine mr_ifnull_s (pc' := 13) dX0_live_10 rfl ?_
        refine mr_aload_n (pc' := 14) dX0_live_13 rfl rfl ?_
        refine mr_aload_n (pc' := 15) dX0_live_14 rfl rfl ?_
        refine mr_aload_n (pc' := 16) dX0_live_15 rfl rfl ?_
        obtain ⟨q6, g7, h8⟩ := Option.bind_eq_some_iff.mp h
        refine mr_cv (pc' := 19) (a := p0) (d1 := 3) dX0_live_16 rfl rfl rfl rfl rfl t0 (by decide) rfl (by decide) (ok_X0_obey hR t0 t1 (t2 a2 rfl) g7) ?_
        show mr X _ _ 19 _ [] (MM RR q6) _
        refine mr_aload_n (pc' := 20) dX0_live_19 rfl rfl ?_
        refine mr_aload_n (pc' := 21) dX0_live_20 rfl rfl ?_
        obtain ⟨q9, g10, h11⟩ := Option.bind_eq_some_iff.mp h8
        refine mr_cv (pc' := 24) (a := p0) (d1 := 1) dX0_live_21 rfl rfl rfl rfl rfl t0 (by decide) rfl (by decide) (ok_X0_passHour hR t0 t1 g10) ?_
        show mr X _ _ 24 _ [] (MM RR q9) _
        refine mr_iinc (pc' := 27) (x' := (p4 + (1 : Int32))) (lv' := [(4, .int (p4 + (1 : Int32))), (0, .ref p0), (1, .ref p1), (2, .ref a2), (3, .int p3)]) dX0_live_24 rfl (by decide) rfl rfl rfl ?_
        refine mr_goto (t := 3) dX0_live_27 (by decide) ?_
        exact mr_sub [(0, .ref p0), (1, .ref p1), (2, .ref a2), (3, .int p3), (4, .int (p4 + (1 : Int32)))] ⟨rfl, rfl, rfl, rfl, rfl, trivial⟩ rfl (ih _ _  h11)
def f_X0_live (v0 : Nat) (v1 : Nat) (v2 : Option Nat) (v3 : Int32) (S : fS) : Option (fS) :=
  lp_X0_live_3 v0 v1 v2 v3 (fun S12 => some S12) FU (0 : Int32) S
set_option maxHeartbeats 4000000 in
set_option maxRecDepth 100000 in
theorem ok_X0_live {X : mm_C} {RR : Nat → Nat → Option Nat} (hR : RRok RR) {v0 : Nat} {v1 : Nat} {v2 : Option Nat} {v3 : Int32} (t0 : tg v0 = 0) (t1 : tg v1 = 8) (t2 : ∀ a, v2 = some a → tg a = 4) {S : fS} {r : fS} (h : f_X0_live v0 v1 v2 v3 S = some r) : mr X 4 mY_X0_live 0 (lv_args 0 [.ref v0, .ref v1, mm_rv v2, .int v3]) [] (MM RR S) (none, MM RR r) := by
  unfold f_X0_live at h
  rw [show lv_args 0 [.ref v0, .ref v1, mm_rv v2, .int v3] = [(0, .ref v0), (1, .ref v1), (2, mm_rv v2), (3, .int v3)] from by cases v2 <;> rfl]
  refine mr_iconst (pc' := 1) (v := (0 : Int32)) dX0_live_0 rfl (by decide) ?_
  refine mr_istore (pc' := 3) (lv' := [(4, .int (0 : Int32)), (0, .ref v0), (1, .ref v1), (2, mm_rv v2), (3, .int v3)]) dX0_live_1 rfl (by decide) rfl ?_
  refine mr_sub [(0, .ref v0), (1, .ref v1), (2, mm_rv v2), (3, .int v3), (4, .int (0 : Int32))] ⟨rfl, rfl, rfl, rfl, rfl, trivial⟩ rfl ?_
  refine ok_lp_X0_live_3 hR t0 t1 t2 (fun S12 h13 => ?_) FU _ _  h
  obtain rfl := Option.some.inj h13
  exact mr_return dX0_live_30 rfl
def f_X10_tick (v1 : Int32) (v2 : Int32) (S : fS) : Option (Int32 × fS) :=
  (f_X10_isRuleOrNone v1 S).bind fun q1 =>
  if q1 = (0 : Int32) then (some ((-1 : Int32), S)) else
  ((f_X10_isFrom v2 (1 : Int32) (200 : Int32) S).bind fun q5 =>
  if q5 = (0 : Int32) then (some ((-1 : Int32), S)) else
  (if ((S.1 11 6) + v2) ≤ (9999 : Int32) then ((f_X10_ruleOrNull v1 S).bind fun q10 =>
  (f_X0_live 11 4 q10 v2 S).bind fun q13 =>
  some ((q13.1 11 6), q13)) else
  (some ((-1 : Int32), S))))
set_option maxHeartbeats 4000000 in
set_option maxRecDepth 100000 in
theorem ok_X10_tick {X : mm_C} {RR : Nat → Nat → Option Nat} (hR : RRok RR) {v1 : Int32} {v2 : Int32}  {S : fS} {r : Int32 × fS} (h : f_X10_tick v1 v2 S = some r) : mr X 5 mY_X10_tick 0 (lv_args 0 [.ref 0, .int v1, .int v2]) [] (MM RR S) (some (.int r.1), MM RR r.2) := by
  unfold f_X10_tick at h
  show mr X _ _ 0 [(0, .ref 0), (1, .int v1), (2, .int v2)] [] (MM RR S) _
  refine mr_aload_n (pc' := 1) dX10_tick_0 rfl rfl ?_
  refine mr_getR (pc' := 4) (ci := 10) (j := 1) (b := 3) hR dX10_tick_1 rfl rfl rfl (by decide) (by decide) (by decide) rfl rfl ?_
  refine mr_getR (pc' := 7) (ci := 6) (j := 1) (b := 11) hR dX10_tick_4 rfl rfl rfl (by decide) (by decide) (by decide) rfl rfl ?_
  refine mr_astore_n (pc' := 8) (lv' := [(3, .ref 11), (0, .ref 0), (1, .int v1), (2, .int v2)]) dX10_tick_7 rfl (by decide) rfl ?_
  refine mr_aload_n (pc' := 9) dX10_tick_8 rfl rfl ?_
  refine mr_iload_n (pc' := 10) dX10_tick_9 rfl rfl ?_
  obtain ⟨q1, g2, h3⟩ := Option.bind_eq_some_iff.mp h
  refine mr_cv (pc' := 13) (a := 0) (d1 := 1) dX10_tick_10 rfl rfl rfl rfl rfl rfl (by decide) rfl (by decide) (ok_X10_isRuleOrNone hR  g2) ?_
  show mr X _ _ 13 _ [.int q1] (MM RR S) _
  by_cases c4 : q1 = (0 : Int32)
  · rw [if_pos c4] at h3
    refine mr_if_eq_t (t := 39) dX10_tick_13 (by decide) c4 ?_
    refine mr_iconst (pc' := 40) (v := (-1 : Int32)) dX10_tick_39 rfl (by decide) ?_
    obtain rfl := Option.some.inj h3
    exact mr_ireturn dX10_tick_40 rfl
  · rw [if_neg c4] at h3
    refine mr_if_eq_f (t := 39) (pc' := 16) dX10_tick_13 (by decide) rfl c4 ?_
    refine mr_iload_n (pc' := 17) dX10_tick_16 rfl rfl ?_
    refine mr_iconst (pc' := 18) (v := (1 : Int32)) dX10_tick_17 rfl (by decide) ?_
    refine mr_sipush (pc' := 21) (v := (200 : Int32)) dX10_tick_18 rfl (by decide) ?_
    obtain ⟨q5, g6, h7⟩ := Option.bind_eq_some_iff.mp h3
    refine mr_cs (pc' := 24) (d1 := 0) dX10_tick_21 rfl rfl rfl rfl (by decide) (Nat.le_of_ble_eq_true rfl) rfl rfl rfl (by decide) (ok_X10_isFrom hR  g6) ?_
    show mr X _ _ 24 _ [.int q5] (MM RR S) _
    by_cases c8 : q5 = (0 : Int32)
    · rw [if_pos c8] at h7
      refine mr_if_eq_t (t := 39) dX10_tick_24 (by decide) c8 ?_
      refine mr_iconst (pc' := 40) (v := (-1 : Int32)) dX10_tick_39 rfl (by decide) ?_
      obtain rfl := Option.some.inj h7
      exact mr_ireturn dX10_tick_40 rfl
    · rw [if_neg c8] at h7
      refine mr_if_eq_f (t := 39) (pc' := 27) dX10_tick_24 (by decide) rfl c8 ?_
      refine mr_aload_n (pc' := 28) dX10_tick_27 rfl rfl ?_
      refine mr_getI (pc' := 31) (ci := 0) (j := 6) dX10_tick_28 rfl rfl rfl (by decide) (by decide) rfl ?_
      refine mr_iload_n (pc' := 32) dX10_tick_31 rfl rfl ?_
      refine mr_iadd (pc' := 33) dX10_tick_32 rfl ?_
      refine mr_sipush (pc' := 36) (v := (9999 : Int32)) dX10_tick_33 rfl (by decide) ?_
      by_cases c9 : ((S.1 11 6) + v2) ≤ (9999 : Int32)
      · rw [if_pos c9] at h7
        refine mr_icmp_le_t (t := 41) dX10_tick_36 (by decide) c9 ?_
        refine mr_aload_n (pc' := 42) dX10_tick_41 rfl rfl ?_
        refine mr_aload_n (pc' := 43) dX10_tick_42 rfl rfl ?_
        refine mr_getR (pc' := 46) (ci := 10) (j := 1) (b := 3) hR dX10_tick_43 rfl rfl rfl (by decide) (by decide) (by decide) rfl rfl ?_
        refine mr_getR (pc' := 49) (ci := 6) (j := 0) (b := 4) hR dX10_tick_46 rfl rfl rfl (by decide) (by decide) (by decide) rfl rfl ?_
        refine mr_aload_n (pc' := 50) dX10_tick_49 rfl rfl ?_
        refine mr_iload_n (pc' := 51) dX10_tick_50 rfl rfl ?_
        obtain ⟨q10, g11, h12⟩ := Option.bind_eq_some_iff.mp h7
        refine mr_cv (pc' := 54) (a := 0) (d1 := 1) dX10_tick_51 rfl rfl rfl rfl rfl rfl (by decide) rfl (by decide) (ok_X10_ruleOrNull hR  g11) ?_
        show mr X _ _ 54 _ [mm_rv q10, .ref 4, .ref 11] (MM RR S) _
        refine mr_iload_n (pc' := 55) dX10_tick_54 rfl rfl ?_
        obtain ⟨q13, g14, h15⟩ := Option.bind_eq_some_iff.mp h12
        refine mr_cv (pc' := 58) (a := 11) (d1 := 4) dX10_tick_55 rfl rfl rfl rfl rfl rfl (by decide) (by cases q10 <;> rfl) (by decide) (ok_X0_live hR rfl rfl (f_X10_ruleOrNull_tg g11) g14) ?_
        show mr X _ _ 58 _ [] (MM RR q13) _
        refine mr_aload_n (pc' := 59) dX10_tick_58 rfl rfl ?_
        refine mr_getI (pc' := 62) (ci := 0) (j := 6) dX10_tick_59 rfl rfl rfl (by decide) (by decide) rfl ?_
        obtain rfl := Option.some.inj h15
        exact mr_ireturn dX10_tick_62 rfl
      · rw [if_neg c9] at h7
        refine mr_icmp_le_f (t := 41) (pc' := 39) dX10_tick_36 (by decide) rfl c9 ?_
        refine mr_iconst (pc' := 40) (v := (-1 : Int32)) dX10_tick_39 rfl (by decide) ?_
        obtain rfl := Option.some.inj h7
        exact mr_ireturn dX10_tick_40 rfl
def f_X10_lookAhead (v1 : Int32) (v2 : Int32) (S : fS) : Option (fS) :=
  (f_X0_copyFrom 31 11 S).bind fun q1 =>
  (f_X10_ruleOrNull v1 q1).bind fun q4 =>
  (f_X0_live 31 4 q4 v2 q1).bind fun q7 =>
  some q7
set_option maxHeartbeats 4000000 in
set_option maxRecDepth 100000 in
theorem ok_X10_lookAhead {X : mm_C} {RR : Nat → Nat → Option Nat} (hR : RRok RR) {v1 : Int32} {v2 : Int32}  {S : fS} {r : fS} (h : f_X10_lookAhead v1 v2 S = some r) : mr X 5 mY_X10_lookAhead 0 (lv_args 0 [.ref 0, .int v1, .int v2]) [] (MM RR S) (none, MM RR r) := by
  unfold f_X10_lookAhead at h
  show mr X _ _ 0 [(0, .ref 0), (1, .int v1), (2, .int v2)] [] (MM RR S) _
  refine mr_aload_n (pc' := 1) dX10_lookAhead_0 rfl rfl ?_
  refine mr_getR (pc' := 4) (ci := 10) (j := 5) (b := 31) hR dX10_lookAhead_1 rfl rfl rfl (by decide) (by decide) (by decide) rfl rfl ?_
  refine mr_aload_n (pc' := 5) dX10_lookAhead_4 rfl rfl ?_
  refine mr_getR (pc' := 8) (ci := 10) (j := 1) (b := 3) hR dX10_lookAhead_5 rfl rfl rfl (by decide) (by decide) (by decide) rfl rfl ?_
  refine mr_getR (pc' := 11) (ci := 6) (j := 1) (b := 11) hR dX10_lookAhead_8 rfl rfl rfl (by decide) (by decide) (by decide) rfl rfl ?_
  obtain ⟨q1, g2, h3⟩ := Option.bind_eq_some_iff.mp h
  refine mr_cv (pc' := 14) (a := 31) (d1 := 0) dX10_lookAhead_11 rfl rfl rfl rfl rfl rfl (by decide) rfl (by decide) (ok_X0_copyFrom hR rfl rfl g2) ?_
  show mr X _ _ 14 _ [] (MM RR q1) _
  refine mr_aload_n (pc' := 15) dX10_lookAhead_14 rfl rfl ?_
  refine mr_getR (pc' := 18) (ci := 10) (j := 5) (b := 31) hR dX10_lookAhead_15 rfl rfl rfl (by decide) (by decide) (by decide) rfl rfl ?_
  refine mr_aload_n (pc' := 19) dX10_lookAhead_18 rfl rfl ?_
  refine mr_getR (pc' := 22) (ci := 10) (j := 1) (b := 3) hR dX10_lookAhead_19 rfl rfl rfl (by decide) (by decide) (by decide) rfl rfl ?_
  refine mr_getR (pc' := 25) (ci := 6) (j := 0) (b := 4) hR dX10_lookAhead_22 rfl rfl rfl (by decide) (by decide) (by decide) rfl rfl ?_
  refine mr_aload_n (pc' := 26) dX10_lookAhead_25 rfl rfl ?_
  refine mr_iload_n (pc' := 27) dX10_lookAhead_26 rfl rfl ?_
  obtain ⟨q4, g5, h6⟩ := Option.bind_eq_some_iff.mp h3
  refine mr_cv (pc' := 30) (a := 0) (d1 := 1) dX10_lookAhead_27 rfl rfl rfl rfl rfl rfl (by decide) rfl (by decide) (ok_X10_ruleOrNull hR  g5) ?_
  show mr X _ _ 30 _ [mm_rv q4, .ref 4, .ref 31] (MM RR q1) _
  refine mr_iload_n (pc' := 31) dX10_lookAhead_30 rfl rfl ?_
  obtain ⟨q7, g8, h9⟩ := Option.bind_eq_some_iff.mp h6
  refine mr_cv (pc' := 34) (a := 31) (d1 := 4) dX10_lookAhead_31 rfl rfl rfl rfl rfl rfl (by decide) (by cases q4 <;> rfl) (by decide) (ok_X0_live hR rfl rfl (f_X10_ruleOrNull_tg g5) g8) ?_
  show mr X _ _ 34 _ [] (MM RR q7) _
  obtain rfl := Option.some.inj h9
  exact mr_return dX10_lookAhead_34 rfl
def lp_X0_accompanied_4 (p0 : Nat) (S : fS) (K : Int32 → Option (Int32)) : Nat → Int32 → Int32 → Option (Int32)
  | 0, _, _ => none
  | n + 1, p1, p2 =>
    if (S.1 p0 5) ≤ p2 then (K p1) else
    ((f_X0_isStanding p0 p2 S).bind fun q2 =>
    if q2 = (0 : Int32) then (lp_X0_accompanied_4 p0 S K n (p1 + (0 : Int32)) (p2 + (1 : Int32))) else
    ((gI S (p0 + 1) 8 p2).bind fun a6 =>
    (f_X0_standingOn p0 a6 S).bind fun q9 =>
    if q9 ≤ (1 : Int32) then (lp_X0_accompanied_4 p0 S K n (p1 + (0 : Int32)) (p2 + (1 : Int32))) else
    (lp_X0_accompanied_4 p0 S K n (p1 + (1 : Int32)) (p2 + (1 : Int32)))))
set_option maxHeartbeats 4000000 in
set_option maxRecDepth 100000 in
theorem ok_lp_X0_accompanied_4 {X : mm_C} {RR : Nat → Nat → Option Nat} (hR : RRok RR) {p0 : Nat} (t0 : tg p0 = 0) {S : fS} {K : Int32 → Option (Int32)} {r : Int32} (hK : ∀ (k1 : Int32), K k1 = some r → mr X 1 mY_X0_accompanied 48 [(1, .int k1)] [] (MM RR S) (some (.int r), MM RR S)) : ∀ (n : Nat) (p1 : Int32) (p2 : Int32), lp_X0_accompanied_4 p0 S K n p1 p2 = some r → mr X 1 mY_X0_accompanied 4 [(0, .ref p0), (1, .int p1), (2, .int p2)] [] (MM RR S) (some (.int r), MM RR S) := by
  intro n
  induction n with
  | zero => intro p1 p2 h; exact mm_no h
  | succ n ih =>
    intro p1 p2 h
    unfold lp_X0_accompanied_4 at h
    refine mr_iload_n (pc' := 5) dX0_accompanied_4 rfl rfl ?_
    refine mr_aload_n (pc' := 6) dX0_accompanied_5 rfl rfl ?_
    refine mr_getI (pc' := 9) (ci := 0) (j := 5) dX0_accompanied_6 rfl rfl t0 (by decide) (by decide) rfl ?_
    by_cases c1 : (S.1 p0 5) ≤ p2
    · rw [if_pos c1] at h
      refine mr_icmp_ge_t (t := 48) dX0_accompanied_9 (by decide) c1 ?_
      exact mr_sub [(1, .int p1)] ⟨rfl, trivial⟩ rfl (hK _  h)
    · rw [if_neg c1] at h
      refine mr_icmp_ge_f (t := 48) (pc' := 12) dX0_accompanied_9 (by decide) rfl c1 ?_
      refine mr_iload_n (pc' := 13) dX0_accompanied_12 rfl rfl ?_
      refine mr_aload_n (pc' := 14) dX0_accompanied_13 rfl rfl ?_
      refine mr_iload_n (pc' := 15) dX0_accompanied_14 rfl rfl ?_
      obtain ⟨q2, g3, h4⟩ := Option.bind_eq_some_iff.mp h
      refine mr_cv (pc' := 18) (a := p0) (d1 := 0) dX0_accompanied_15 rfl rfl rfl rfl rfl t0 (by decide) rfl (by decide) (ok_X0_isStanding hR t0 g3) ?_
      show mr X _ _ 18 _ [.int q2, .int p1] (MM RR S) _
      by_cases c5 : q2 = (0 : Int32)
      · rw [if_pos c5] at h4
        refine mr_if_eq_t (t := 39) dX0_accompanied_18 (by decide) c5 ?_
        refine mr_iconst (pc' := 40) (v := (0 : Int32)) dX0_accompanied_39 rfl (by decide) ?_
        refine mr_iadd (pc' := 41) dX0_accompanied_40 rfl ?_
        refine mr_istore_n (pc' := 42) (lv' := [(1, .int (p1 + (0 : Int32))), (0, .ref p0), (2, .int p2)]) dX0_accompanied_41 rfl (by decide) rfl ?_
        refine mr_iinc (pc' := 45) (x' := (p2 + (1 : Int32))) (lv' := [(2, .int (p2 + (1 : Int32))), (1, .int (p1 + (0 : Int32))), (0, .ref p0)]) dX0_accompanied_42 rfl (by decide) rfl rfl rfl ?_
        refine mr_goto (t := 4) dX0_accompanied_45 (by decide) ?_
        exact mr_sub [(0, .ref p0), (1, .int (p1 + (0 : Int32))), (2, .int (p2 + (1 : Int32)))] ⟨rfl, rfl, rfl, trivial⟩ rfl (ih _ _  h4)
      · rw [if_neg c5] at h4
        refine mr_if_eq_f (t := 39) (pc' := 21) dX0_accompanied_18 (by decide) rfl c5 ?_
        refine mr_aload_n (pc' := 22) dX0_accompanied_21 rfl rfl ?_
        refine mr_aload_n (pc' := 23) dX0_accompanied_22 rfl rfl ?_
        refine mr_getR (pc' := 26) (ci := 0) (j := 0) (b := (p0 + 1)) hR dX0_accompanied_23 rfl rfl t0 (by decide) (by decide) (by decide) rfl (ly0_0 t0).1 ?_
        refine mr_iload_n (pc' := 27) dX0_accompanied_26 rfl rfl ?_
        obtain ⟨a6, g7, h8⟩ := Option.bind_eq_some_iff.mp h4
        refine mr_iald (pc' := 28) dX0_accompanied_27 rfl (ly0_0 t0).2.1 (ly0_0 t0).2.2 g7 ?_
        obtain ⟨q9, g10, h11⟩ := Option.bind_eq_some_iff.mp h8
        refine mr_cv (pc' := 31) (a := p0) (d1 := 0) dX0_accompanied_28 rfl rfl rfl rfl rfl t0 (by decide) rfl (by decide) (ok_X0_standingOn hR t0 g10) ?_
        show mr X _ _ 31 _ [.int q9, .int p1] (MM RR S) _
        refine mr_iconst (pc' := 32) (v := (1 : Int32)) dX0_accompanied_31 rfl (by decide) ?_
        by_cases c12 : q9 ≤ (1 : Int32)
        · rw [if_pos c12] at h11
          refine mr_icmp_le_t (t := 39) dX0_accompanied_32 (by decide) c12 ?_
          refine mr_iconst (pc' := 40) (v := (0 : Int32)) dX0_accompanied_39 rfl (by decide) ?_
          refine mr_iadd (pc' := 41) dX0_accompanied_40 rfl ?_
          refine mr_istore_n (pc' := 42) (lv' := [(1, .int (p1 + (0 : Int32))), (0, .ref p0), (2, .int p2)]) dX0_accompanied_41 rfl (by decide) rfl ?_
          refine mr_iinc (pc' := 45) (x' := (p2 + (1 : Int32))) (lv' := [(2, .int (p2 + (1 : Int32))), (1, .int (p1 + (0 : Int32))), (0, .ref p0)]) dX0_accompanied_42 rfl (by decide) rfl rfl rfl ?_
          refine mr_goto (t := 4) dX0_accompanied_45 (by decide) ?_
          exact mr_sub [(0, .ref p0), (1, .int (p1 + (0 : Int32))), (2, .int (p2 + (1 : Int32)))] ⟨rfl, rfl, rfl, trivial⟩ rfl (ih _ _  h11)
        · rw [if_neg c12] at h11
          refine mr_icmp_le_f (t := 39) (pc' := 35) dX0_accompanied_32 (by decide) rfl c12 ?_
          refine mr_iconst (pc' := 36) (v := (1 : Int32)) dX0_accompanied_35 rfl (by decide) ?_
          refine mr_goto (t := 40) dX0_accompanied_36 (by decide) ?_
          refine mr_iadd (pc' := 41) dX0_accompanied_40 rfl ?_
          refine mr_istore_n (pc' := 42) (lv' := [(1, .int (p1 + (1 : Int32))), (0, .ref p0), (2, .int p2)]) dX0_accompanied_41 rfl (by decide) rfl ?_
          refine mr_iinc (pc' := 45) (x' := (p2 + (1 : Int32))) (lv' := [(2, .int (p2 + (1 : Int32))), (1, .int (p1 + (1 : Int32))), (0, .ref p0)]) dX0_accompanied_42 rfl (by decide) rfl rfl rfl ?_
          refine mr_goto (t := 4) dX0_accompanied_45 (by decide) ?_
          exact mr_sub [(0, .ref p0), (1, .int (p1 + (1 : Int32))), (2, .int (p2 + (1 : Int32)))] ⟨rfl, rfl, rfl, trivial⟩ rfl (ih _ _  h11)
def f_X0_accompanied (v0 : Nat) (S : fS) : Option (Int32) :=
  lp_X0_accompanied_4 v0 S (fun u13 => some u13) FU (0 : Int32) (0 : Int32)
set_option maxHeartbeats 4000000 in
set_option maxRecDepth 100000 in
theorem ok_X0_accompanied {X : mm_C} {RR : Nat → Nat → Option Nat} (hR : RRok RR) {v0 : Nat} (t0 : tg v0 = 0) {S : fS} {r : Int32} (h : f_X0_accompanied v0 S = some r) : mr X 1 mY_X0_accompanied 0 (lv_args 0 [.ref v0]) [] (MM RR S) (some (.int r), MM RR S) := by
  unfold f_X0_accompanied at h
  show mr X _ _ 0 [(0, .ref v0)] [] (MM RR S) _
  refine mr_iconst (pc' := 1) (v := (0 : Int32)) dX0_accompanied_0 rfl (by decide) ?_
  refine mr_istore_n (pc' := 2) (lv' := [(1, .int (0 : Int32)), (0, .ref v0)]) dX0_accompanied_1 rfl (by decide) rfl ?_
  refine mr_iconst (pc' := 3) (v := (0 : Int32)) dX0_accompanied_2 rfl (by decide) ?_
  refine mr_istore_n (pc' := 4) (lv' := [(2, .int (0 : Int32)), (1, .int (0 : Int32)), (0, .ref v0)]) dX0_accompanied_3 rfl (by decide) rfl ?_
  refine mr_sub [(0, .ref v0), (1, .int (0 : Int32)), (2, .int (0 : Int32))] ⟨rfl, rfl, rfl, trivial⟩ rfl ?_
  refine ok_lp_X0_accompanied_4 hR t0 (fun u13 h14 => ?_) FU _ _  h
  refine mr_iload_n (pc' := 49) dX0_accompanied_48 rfl rfl ?_
  obtain rfl := Option.some.inj h14
  exact mr_ireturn dX0_accompanied_49 rfl
def f_X10_ahead (v1 : Int32) (v2 : Int32) (v3 : Int32) (v4 : Int32) (S : fS) : Option (Int64 × fS) :=
  (f_X10_isFrom v1 (0 : Int32) ((S.1 0 10) - (1 : Int32)) S).bind fun q1 =>
  if q1 = (0 : Int32) then (some ((-1 : Int64), S)) else
  ((f_X10_isFrom v2 (0 : Int32) (200 : Int32) S).bind fun q5 =>
  if q5 = (0 : Int32) then (some ((-1 : Int64), S)) else
  ((f_X10_isThing v3 S).bind fun q9 =>
  if q9 = (0 : Int32) then (some ((-1 : Int64), S)) else
  ((f_X10_isFrom v4 (0 : Int32) (3 : Int32) S).bind fun q13 =>
  if q13 = (0 : Int32) then (some ((-1 : Int64), S)) else
  ((f_X10_lookAhead v1 v2 S).bind fun q17 =>
  if v4 = (0 : Int32) then ((f_X0_isStanding 31 v3 q17).bind fun q31 =>
  if q31 = (0 : Int32) then (some ((-2 : Int64), q17)) else
  ((gI q17 32 8 v3).bind fun a35 =>
  some ((Int32.toInt64 a35), q17))) else
  (if v4 = (3 : Int32) then ((f_X0_accompanied 31 q17).bind fun q28 =>
  some ((Int32.toInt64 q28), q17)) else
  ((gL q17 36 8 v3).bind fun a22 =>
  (f_X10_lowest a22 (232792560 : Int64) (v4 - (1 : Int32)) q17).bind fun q25 =>
  some (q25, q17)))))))
set_option maxHeartbeats 4000000 in
set_option maxRecDepth 100000 in
theorem ok_X10_ahead {X : mm_C} {RR : Nat → Nat → Option Nat} (hR : RRok RR) {v1 : Int32} {v2 : Int32} {v3 : Int32} {v4 : Int32}  {S : fS} {r : Int64 × fS} (h : f_X10_ahead v1 v2 v3 v4 S = some r) : mr X 6 mY_X10_ahead 0 (lv_args 0 [.ref 0, .int v1, .int v2, .int v3, .int v4]) [] (MM RR S) (some (.long r.1), MM RR r.2) := by
  unfold f_X10_ahead at h
  show mr X _ _ 0 [(0, .ref 0), (1, .int v1), (2, .int v2), (3, .int v3), (4, .int v4)] [] (MM RR S) _
  refine mr_iload_n (pc' := 1) dX10_ahead_0 rfl rfl ?_
  refine mr_iconst (pc' := 2) (v := (0 : Int32)) dX10_ahead_1 rfl (by decide) ?_
  refine mr_aload_n (pc' := 3) dX10_ahead_2 rfl rfl ?_
  refine mr_getI (pc' := 6) (ci := 10) (j := 10) dX10_ahead_3 rfl rfl rfl (by decide) (by decide) rfl ?_
  refine mr_iconst (pc' := 7) (v := (1 : Int32)) dX10_ahead_6 rfl (by decide) ?_
  refine mr_isub (pc' := 8) dX10_ahead_7 rfl ?_
  obtain ⟨q1, g2, h3⟩ := Option.bind_eq_some_iff.mp h
  refine mr_cs (pc' := 11) (d1 := 0) dX10_ahead_8 rfl rfl rfl rfl (by decide) (Nat.le_of_ble_eq_true rfl) rfl rfl rfl (by decide) (ok_X10_isFrom hR  g2) ?_
  show mr X _ _ 11 _ [.int q1] (MM RR S) _
  by_cases c4 : q1 = (0 : Int32)
  · rw [if_pos c4] at h3
    refine mr_if_eq_t (t := 25) dX10_ahead_11 (by decide) c4 ?_
    refine mr_ldc2 (pc' := 28) (v := (-1 : Int64)) dX10_ahead_25 rfl rfl ?_
    obtain rfl := Option.some.inj h3
    exact mr_lreturn dX10_ahead_28 rfl
  · rw [if_neg c4] at h3
    refine mr_if_eq_f (t := 25) (pc' := 14) dX10_ahead_11 (by decide) rfl c4 ?_
    refine mr_iload_n (pc' := 15) dX10_ahead_14 rfl rfl ?_
    refine mr_iconst (pc' := 16) (v := (0 : Int32)) dX10_ahead_15 rfl (by decide) ?_
    refine mr_sipush (pc' := 19) (v := (200 : Int32)) dX10_ahead_16 rfl (by decide) ?_
    obtain ⟨q5, g6, h7⟩ := Option.bind_eq_some_iff.mp h3
    refine mr_cs (pc' := 22) (d1 := 0) dX10_ahead_19 rfl rfl rfl rfl (by decide) (Nat.le_of_ble_eq_true rfl) rfl rfl rfl (by decide) (ok_X10_isFrom hR  g6) ?_
    show mr X _ _ 22 _ [.int q5] (MM RR S) _
    by_cases c8 : q5 = (0 : Int32)
    · rw [if_pos c8] at h7
      refine mr_if_ne_f (t := 29) (pc' := 25) dX10_ahead_22 (by decide) rfl (not_not_intro c8) ?_
      refine mr_ldc2 (pc' := 28) (v := (-1 : Int64)) dX10_ahead_25 rfl rfl ?_
      obtain rfl := Option.some.inj h7
      exact mr_lreturn dX10_ahead_28 rfl
    · rw [if_neg c8] at h7
      refine mr_if_ne_t (t := 29) dX10_ahead_22 (by decide) c8 ?_
      refine mr_aload_n (pc' := 30) dX10_ahead_29 rfl rfl ?_
      refine mr_iload_n (pc' := 31) dX10_ahead_30 rfl rfl ?_
      obtain ⟨q9, g10, h11⟩ := Option.bind_eq_some_iff.mp h7
      refine mr_cv (pc' := 34) (a := 0) (d1 := 1) dX10_ahead_31 rfl rfl rfl rfl rfl rfl (by decide) rfl (by decide) (ok_X10_isThing hR  g10) ?_
      show mr X _ _ 34 _ [.int q9] (MM RR S) _
      by_cases c12 : q9 = (0 : Int32)
      · rw [if_pos c12] at h11
        refine mr_if_eq_t (t := 47) dX10_ahead_34 (by decide) c12 ?_
        refine mr_ldc2 (pc' := 50) (v := (-1 : Int64)) dX10_ahead_47 rfl rfl ?_
        obtain rfl := Option.some.inj h11
        exact mr_lreturn dX10_ahead_50 rfl
      · rw [if_neg c12] at h11
        refine mr_if_eq_f (t := 47) (pc' := 37) dX10_ahead_34 (by decide) rfl c12 ?_
        refine mr_iload (pc' := 39) dX10_ahead_37 rfl rfl ?_
        refine mr_iconst (pc' := 40) (v := (0 : Int32)) dX10_ahead_39 rfl (by decide) ?_
        refine mr_iconst (pc' := 41) (v := (3 : Int32)) dX10_ahead_40 rfl (by decide) ?_
        obtain ⟨q13, g14, h15⟩ := Option.bind_eq_some_iff.mp h11
        refine mr_cs (pc' := 44) (d1 := 0) dX10_ahead_41 rfl rfl rfl rfl (by decide) (Nat.le_of_ble_eq_true rfl) rfl rfl rfl (by decide) (ok_X10_isFrom hR  g14) ?_
        show mr X _ _ 44 _ [.int q13] (MM RR S) _
        by_cases c16 : q13 = (0 : Int32)
        · rw [if_pos c16] at h15
          refine mr_if_ne_f (t := 51) (pc' := 47) dX10_ahead_44 (by decide) rfl (not_not_intro c16) ?_
          refine mr_ldc2 (pc' := 50) (v := (-1 : Int64)) dX10_ahead_47 rfl rfl ?_
          obtain rfl := Option.some.inj h15
          exact mr_lreturn dX10_ahead_50 rfl
        · rw [if_neg c16] at h15
          refine mr_if_ne_t (t := 51) dX10_ahead_44 (by decide) c16 ?_
          refine mr_aload_n (pc' := 52) dX10_ahead_51 rfl rfl ?_
          refine mr_iload_n (pc' := 53) dX10_ahead_52 rfl rfl ?_
          refine mr_iload_n (pc' := 54) dX10_ahead_53 rfl rfl ?_
          obtain ⟨q17, g18, h19⟩ := Option.bind_eq_some_iff.mp h15
          refine mr_cv (pc' := 57) (a := 0) (d1 := 5) dX10_ahead_54 rfl rfl rfl rfl rfl rfl (by decide) rfl (by decide) (ok_X10_lookAhead hR  g18) ?_
          show mr X _ _ 57 _ [] (MM RR q17) _
          refine mr_iload (pc' := 59) dX10_ahead_57 rfl rfl ?_
          by_cases c20 : v4 = (0 : Int32)
          · rw [if_pos c20] at h19
            refine mr_if_ne_f (t := 90) (pc' := 62) dX10_ahead_59 (by decide) rfl (not_not_intro c20) ?_
            refine mr_aload_n (pc' := 63) dX10_ahead_62 rfl rfl ?_
            refine mr_getR (pc' := 66) (ci := 10) (j := 5) (b := 31) hR dX10_ahead_63 rfl rfl rfl (by decide) (by decide) (by decide) rfl rfl ?_
            refine mr_iload_n (pc' := 67) dX10_ahead_66 rfl rfl ?_
            obtain ⟨q31, g32, h33⟩ := Option.bind_eq_some_iff.mp h19
            refine mr_cv (pc' := 70) (a := 31) (d1 := 0) dX10_ahead_67 rfl rfl rfl rfl rfl rfl (by decide) rfl (by decide) (ok_X0_isStanding hR rfl g32) ?_
            show mr X _ _ 70 _ [.int q31] (MM RR q17) _
            by_cases c34 : q31 = (0 : Int32)
            · rw [if_pos c34] at h33
              refine mr_if_eq_t (t := 86) dX10_ahead_70 (by decide) c34 ?_
              refine mr_ldc2 (pc' := 89) (v := (-2 : Int64)) dX10_ahead_86 rfl rfl ?_
              obtain rfl := Option.some.inj h33
              exact mr_lreturn dX10_ahead_89 rfl
            · rw [if_neg c34] at h33
              refine mr_if_eq_f (t := 86) (pc' := 73) dX10_ahead_70 (by decide) rfl c34 ?_
              refine mr_aload_n (pc' := 74) dX10_ahead_73 rfl rfl ?_
              refine mr_getR (pc' := 77) (ci := 10) (j := 5) (b := 31) hR dX10_ahead_74 rfl rfl rfl (by decide) (by decide) (by decide) rfl rfl ?_
              refine mr_getR (pc' := 80) (ci := 0) (j := 0) (b := 32) hR dX10_ahead_77 rfl rfl rfl (by decide) (by decide) (by decide) rfl rfl ?_
              refine mr_iload_n (pc' := 81) dX10_ahead_80 rfl rfl ?_
              obtain ⟨a35, g36, h37⟩ := Option.bind_eq_some_iff.mp h33
              refine mr_iald (pc' := 82) dX10_ahead_81 rfl rfl rfl g36 ?_
              refine mr_i2l (pc' := 83) dX10_ahead_82 rfl ?_
              refine mr_goto (t := 89) dX10_ahead_83 (by decide) ?_
              obtain rfl := Option.some.inj h37
              exact mr_lreturn dX10_ahead_89 rfl
          · rw [if_neg c20] at h19
            refine mr_if_ne_t (t := 90) dX10_ahead_59 (by decide) c20 ?_
            refine mr_iload (pc' := 92) dX10_ahead_90 rfl rfl ?_
            refine mr_iconst (pc' := 93) (v := (3 : Int32)) dX10_ahead_92 rfl (by decide) ?_
            by_cases c21 : v4 = (3 : Int32)
            · rw [if_pos c21] at h19
              refine mr_icmp_ne_f (t := 105) (pc' := 96) dX10_ahead_93 (by decide) rfl (not_not_intro c21) ?_
              refine mr_aload_n (pc' := 97) dX10_ahead_96 rfl rfl ?_
              refine mr_getR (pc' := 100) (ci := 10) (j := 5) (b := 31) hR dX10_ahead_97 rfl rfl rfl (by decide) (by decide) (by decide) rfl rfl ?_
              obtain ⟨q28, g29, h30⟩ := Option.bind_eq_some_iff.mp h19
              refine mr_cv (pc' := 103) (a := 31) (d1 := 1) dX10_ahead_100 rfl rfl rfl rfl rfl rfl (by decide) rfl (by decide) (ok_X0_accompanied hR rfl g29) ?_
              show mr X _ _ 103 _ [.int q28] (MM RR q17) _
              refine mr_i2l (pc' := 104) dX10_ahead_103 rfl ?_
              obtain rfl := Option.some.inj h30
              exact mr_lreturn dX10_ahead_104 rfl
            · rw [if_neg c21] at h19
              refine mr_icmp_ne_t (t := 105) dX10_ahead_93 (by decide) c21 ?_
              refine mr_aload_n (pc' := 106) dX10_ahead_105 rfl rfl ?_
              refine mr_getR (pc' := 109) (ci := 10) (j := 5) (b := 31) hR dX10_ahead_106 rfl rfl rfl (by decide) (by decide) (by decide) rfl rfl ?_
              refine mr_getR (pc' := 112) (ci := 0) (j := 4) (b := 36) hR dX10_ahead_109 rfl rfl rfl (by decide) (by decide) (by decide) rfl rfl ?_
              refine mr_iload_n (pc' := 113) dX10_ahead_112 rfl rfl ?_
              obtain ⟨a22, g23, h24⟩ := Option.bind_eq_some_iff.mp h19
              refine mr_lald (pc' := 114) dX10_ahead_113 rfl rfl rfl g23 ?_
              refine mr_ldc2 (pc' := 117) (v := (232792560 : Int64)) dX10_ahead_114 rfl rfl ?_
              refine mr_iload (pc' := 119) dX10_ahead_117 rfl rfl ?_
              refine mr_iconst (pc' := 120) (v := (1 : Int32)) dX10_ahead_119 rfl (by decide) ?_
              refine mr_isub (pc' := 121) dX10_ahead_120 rfl ?_
              obtain ⟨q25, g26, h27⟩ := Option.bind_eq_some_iff.mp h24
              refine mr_cs (pc' := 124) (d1 := 2) dX10_ahead_121 rfl rfl rfl rfl (by decide) (Nat.le_of_ble_eq_true rfl) rfl rfl rfl (by decide) (ok_X10_lowest hR  g26) ?_
              show mr X _ _ 124 _ [.long q25] (MM RR q17) _
              obtain rfl := Option.some.inj h27
              exact mr_lreturn dX10_ahead_124 rfl
def f_X10_far (v1 : Int32) (v2 : Int32) (S : fS) : Option (Int32) :=
  (f_X10_isFloor v1 S).bind fun q1 =>
  if q1 = (0 : Int32) then (some (-1 : Int32)) else
  ((f_X10_isFloor v2 S).bind fun q5 =>
  if q5 = (0 : Int32) then (some (-1 : Int32)) else
  ((f_X8_hoursBetween 4 v1 v2 S).bind fun q9 =>
  if (0 : Int32) ≤ q9 then (some q9) else
  (some (-2 : Int32))))
set_option maxHeartbeats 4000000 in
set_option maxRecDepth 100000 in
theorem ok_X10_far {X : mm_C} {RR : Nat → Nat → Option Nat} (hR : RRok RR) {v1 : Int32} {v2 : Int32}  {S : fS} {r : Int32} (h : f_X10_far v1 v2 S = some r) : mr X 2 mY_X10_far 0 (lv_args 0 [.ref 0, .int v1, .int v2]) [] (MM RR S) (some (.int r), MM RR S) := by
  unfold f_X10_far at h
  show mr X _ _ 0 [(0, .ref 0), (1, .int v1), (2, .int v2)] [] (MM RR S) _
  refine mr_aload_n (pc' := 1) dX10_far_0 rfl rfl ?_
  refine mr_iload_n (pc' := 2) dX10_far_1 rfl rfl ?_
  obtain ⟨q1, g2, h3⟩ := Option.bind_eq_some_iff.mp h
  refine mr_cv (pc' := 5) (a := 0) (d1 := 1) dX10_far_2 rfl rfl rfl rfl rfl rfl (by decide) rfl (by decide) (ok_X10_isFloor hR  g2) ?_
  show mr X _ _ 5 _ [.int q1] (MM RR S) _
  by_cases c4 : q1 = (0 : Int32)
  · rw [if_pos c4] at h3
    refine mr_if_eq_t (t := 16) dX10_far_5 (by decide) c4 ?_
    refine mr_iconst (pc' := 17) (v := (-1 : Int32)) dX10_far_16 rfl (by decide) ?_
    obtain rfl := Option.some.inj h3
    exact mr_ireturn dX10_far_17 rfl
  · rw [if_neg c4] at h3
    refine mr_if_eq_f (t := 16) (pc' := 8) dX10_far_5 (by decide) rfl c4 ?_
    refine mr_aload_n (pc' := 9) dX10_far_8 rfl rfl ?_
    refine mr_iload_n (pc' := 10) dX10_far_9 rfl rfl ?_
    obtain ⟨q5, g6, h7⟩ := Option.bind_eq_some_iff.mp h3
    refine mr_cv (pc' := 13) (a := 0) (d1 := 1) dX10_far_10 rfl rfl rfl rfl rfl rfl (by decide) rfl (by decide) (ok_X10_isFloor hR  g6) ?_
    show mr X _ _ 13 _ [.int q5] (MM RR S) _
    by_cases c8 : q5 = (0 : Int32)
    · rw [if_pos c8] at h7
      refine mr_if_ne_f (t := 18) (pc' := 16) dX10_far_13 (by decide) rfl (not_not_intro c8) ?_
      refine mr_iconst (pc' := 17) (v := (-1 : Int32)) dX10_far_16 rfl (by decide) ?_
      obtain rfl := Option.some.inj h7
      exact mr_ireturn dX10_far_17 rfl
    · rw [if_neg c8] at h7
      refine mr_if_ne_t (t := 18) dX10_far_13 (by decide) c8 ?_
      refine mr_aload_n (pc' := 19) dX10_far_18 rfl rfl ?_
      refine mr_getR (pc' := 22) (ci := 10) (j := 1) (b := 3) hR dX10_far_19 rfl rfl rfl (by decide) (by decide) (by decide) rfl rfl ?_
      refine mr_getR (pc' := 25) (ci := 6) (j := 0) (b := 4) hR dX10_far_22 rfl rfl rfl (by decide) (by decide) (by decide) rfl rfl ?_
      refine mr_iload_n (pc' := 26) dX10_far_25 rfl rfl ?_
      refine mr_iload_n (pc' := 27) dX10_far_26 rfl rfl ?_
      obtain ⟨q9, g10, h11⟩ := Option.bind_eq_some_iff.mp h7
      refine mr_cv (pc' := 30) (a := 4) (d1 := 0) dX10_far_27 rfl rfl rfl rfl rfl rfl (by decide) rfl (by decide) (ok_X8_hoursBetween hR rfl g10) ?_
      show mr X _ _ 30 _ [.int q9] (MM RR S) _
      refine mr_istore_n (pc' := 31) (lv' := [(3, .int q9), (0, .ref 0), (1, .int v1), (2, .int v2)]) dX10_far_30 rfl (by decide) rfl ?_
      refine mr_iload_n (pc' := 32) dX10_far_31 rfl rfl ?_
      by_cases c12 : (0 : Int32) ≤ q9
      · rw [if_pos c12] at h11
        refine mr_if_ge_t (t := 40) dX10_far_32 (by decide) c12 ?_
        refine mr_iload_n (pc' := 41) dX10_far_40 rfl rfl ?_
        obtain rfl := Option.some.inj h11
        exact mr_ireturn dX10_far_41 rfl
      · rw [if_neg c12] at h11
        refine mr_if_ge_f (t := 40) (pc' := 35) dX10_far_32 (by decide) rfl c12 ?_
        refine mr_bipush (pc' := 37) (v := (-2 : Int32)) dX10_far_35 rfl (by decide) ?_
        refine mr_goto (t := 41) dX10_far_37 (by decide) ?_
        obtain rfl := Option.some.inj h11
        exact mr_ireturn dX10_far_41 rfl
def f_X10_next (v1 : Int32) (v2 : Int32) (S : fS) : Option (Int32) :=
  (f_X10_isFloor v1 S).bind fun q1 =>
  if q1 = (0 : Int32) then (some (-1 : Int32)) else
  ((f_X10_isFloor v2 S).bind fun q5 =>
  if q5 = (0 : Int32) then (some (-1 : Int32)) else
  ((f_X8_firstStair 4 v1 v2 S).bind fun q9 =>
  if (0 : Int32) ≤ q9 then (some q9) else
  (some (-2 : Int32))))
set_option maxHeartbeats 4000000 in
set_option maxRecDepth 100000 in
theorem ok_X10_next {X : mm_C} {RR : Nat → Nat → Option Nat} (hR : RRok RR) {v1 : Int32} {v2 : Int32}  {S : fS} {r : Int32} (h : f_X10_next v1 v2 S = some r) : mr X 2 mY_X10_next 0 (lv_args 0 [.ref 0, .int v1, .int v2]) [] (MM RR S) (some (.int r), MM RR S) := by
  unfold f_X10_next at h
  show mr X _ _ 0 [(0, .ref 0), (1, .int v1), (2, .int v2)] [] (MM RR S) _
  refine mr_aload_n (pc' := 1) dX10_next_0 rfl rfl ?_
  refine mr_iload_n (pc' := 2) dX10_next_1 rfl rfl ?_
  obtain ⟨q1, g2, h3⟩ := Option.bind_eq_some_iff.mp h
  refine mr_cv (pc' := 5) (a := 0) (d1 := 1) dX10_next_2 rfl rfl rfl rfl rfl rfl (by decide) rfl (by decide) (ok_X10_isFloor hR  g2) ?_
  show mr X _ _ 5 _ [.int q1] (MM RR S) _
  by_cases c4 : q1 = (0 : Int32)
  · rw [if_pos c4] at h3
    refine mr_if_eq_t (t := 16) dX10_next_5 (by decide) c4 ?_
    refine mr_iconst (pc' := 17) (v := (-1 : Int32)) dX10_next_16 rfl (by decide) ?_
    obtain rfl := Option.some.inj h3
    exact mr_ireturn dX10_next_17 rfl
  · rw [if_neg c4] at h3
    refine mr_if_eq_f (t := 16) (pc' := 8) dX10_next_5 (by decide) rfl c4 ?_
    refine mr_aload_n (pc' := 9) dX10_next_8 rfl rfl ?_
    refine mr_iload_n (pc' := 10) dX10_next_9 rfl rfl ?_
    obtain ⟨q5, g6, h7⟩ := Option.bind_eq_some_iff.mp h3
    refine mr_cv (pc' := 13) (a := 0) (d1 := 1) dX10_next_10 rfl rfl rfl rfl rfl rfl (by decide) rfl (by decide) (ok_X10_isFloor hR  g6) ?_
    show mr X _ _ 13 _ [.int q5] (MM RR S) _
    by_cases c8 : q5 = (0 : Int32)
    · rw [if_pos c8] at h7
      refine mr_if_ne_f (t := 18) (pc' := 16) dX10_next_13 (by decide) rfl (not_not_intro c8) ?_
      refine mr_iconst (pc' := 17) (v := (-1 : Int32)) dX10_next_16 rfl (by decide) ?_
      obtain rfl := Option.some.inj h7
      exact mr_ireturn dX10_next_17 rfl
    · rw [if_neg c8] at h7
      refine mr_if_ne_t (t := 18) dX10_next_13 (by decide) c8 ?_
      refine mr_aload_n (pc' := 19) dX10_next_18 rfl rfl ?_
      refine mr_getR (pc' := 22) (ci := 10) (j := 1) (b := 3) hR dX10_next_19 rfl rfl rfl (by decide) (by decide) (by decide) rfl rfl ?_
      refine mr_getR (pc' := 25) (ci := 6) (j := 0) (b := 4) hR dX10_next_22 rfl rfl rfl (by decide) (by decide) (by decide) rfl rfl ?_
      refine mr_iload_n (pc' := 26) dX10_next_25 rfl rfl ?_
      refine mr_iload_n (pc' := 27) dX10_next_26 rfl rfl ?_
      obtain ⟨q9, g10, h11⟩ := Option.bind_eq_some_iff.mp h7
      refine mr_cv (pc' := 30) (a := 4) (d1 := 1) dX10_next_27 rfl rfl rfl rfl rfl rfl (by decide) rfl (by decide) (ok_X8_firstStair hR rfl g10) ?_
      show mr X _ _ 30 _ [.int q9] (MM RR S) _
      refine mr_istore_n (pc' := 31) (lv' := [(3, .int q9), (0, .ref 0), (1, .int v1), (2, .int v2)]) dX10_next_30 rfl (by decide) rfl ?_
      refine mr_iload_n (pc' := 32) dX10_next_31 rfl rfl ?_
      by_cases c12 : (0 : Int32) ≤ q9
      · rw [if_pos c12] at h11
        refine mr_if_ge_t (t := 40) dX10_next_32 (by decide) c12 ?_
        refine mr_iload_n (pc' := 41) dX10_next_40 rfl rfl ?_
        obtain rfl := Option.some.inj h11
        exact mr_ireturn dX10_next_41 rfl
      · rw [if_neg c12] at h11
        refine mr_if_ge_f (t := 40) (pc' := 35) dX10_next_32 (by decide) rfl c12 ?_
        refine mr_bipush (pc' := 37) (v := (-2 : Int32)) dX10_next_35 rfl (by decide) ?_
        refine mr_goto (t := 41) dX10_next_37 (by decide) ?_
        obtain rfl := Option.some.inj h11
        exact mr_ireturn dX10_next_41 rfl
def f_X10_isHour (v0 : Int32) (S : fS) : Option (Int32) :=
  (f_X10_isFrom v0 (0 : Int32) (9999 : Int32) S).bind fun q1 =>
  (bZ q1).bind fun z4 => some z4
set_option maxHeartbeats 4000000 in
set_option maxRecDepth 100000 in
theorem ok_X10_isHour {X : mm_C} {RR : Nat → Nat → Option Nat} (hR : RRok RR) {v0 : Int32}  {S : fS} {r : Int32} (h : f_X10_isHour v0 S = some r) : mr X 1 mY_X10_isHour 0 (lv_args 0 [.int v0]) [] (MM RR S) (some (.int r), MM RR S) := by
  unfold f_X10_isHour at h
  show mr X _ _ 0 [(0, .int v0)] [] (MM RR S) _
  refine mr_iload_n (pc' := 1) dX10_isHour_0 rfl rfl ?_
  refine mr_iconst (pc' := 2) (v := (0 : Int32)) dX10_isHour_1 rfl (by decide) ?_
  refine mr_sipush (pc' := 5) (v := (9999 : Int32)) dX10_isHour_2 rfl (by decide) ?_
  obtain ⟨q1, g2, h3⟩ := Option.bind_eq_some_iff.mp h
  refine mr_cs (pc' := 8) (d1 := 0) dX10_isHour_5 rfl rfl rfl rfl (by decide) (Nat.le_of_ble_eq_true rfl) rfl rfl rfl (by decide) (ok_X10_isFrom hR  g2) ?_
  show mr X _ _ 8 _ [.int q1] (MM RR S) _
  obtain ⟨z4, g5, h6⟩ := Option.bind_eq_some_iff.mp h3
  obtain ⟨g7, e8⟩ := mm_ifs g5
  cases e8
  cases h6
  exact mr_zreturn dX10_isHour_8 rfl g7
def f_X8_clockAt (v0 : Nat) (v1 : Int32) (v2 : Int32) (S : fS) : Option (Int64) :=
  (gL S (v0 + 1) 10 v1).bind fun a1 =>
  some ((Int32.toInt64 v2) * a1)
set_option maxHeartbeats 4000000 in
set_option maxRecDepth 100000 in
theorem ok_X8_clockAt {X : mm_C} {RR : Nat → Nat → Option Nat} (hR : RRok RR) {v0 : Nat} {v1 : Int32} {v2 : Int32} (t0 : tg v0 = 8) {S : fS} {r : Int64} (h : f_X8_clockAt v0 v1 v2 S = some r) : mr X 0 mY_X8_clockAt 0 (lv_args 0 [.ref v0, .int v1, .int v2]) [] (MM RR S) (some (.long r), MM RR S) := by
  unfold f_X8_clockAt at h
  show mr X _ _ 0 [(0, .ref v0), (1, .int v1), (2, .int v2)] [] (MM RR S) _
  refine mr_iload_n (pc' := 1) dX8_clockAt_0 rfl rfl ?_
  refine mr_i2l (pc' := 2) dX8_clockAt_1 rfl ?_
  refine mr_aload_n (pc' := 3) dX8_clockAt_2 rfl rfl ?_
  refine mr_getR (pc' := 6) (ci := 8) (j := 0) (b := (v0 + 1)) hR dX8_clockAt_3 rfl rfl t0 (by decide) (by decide) (by decide) rfl (ly8_0 t0).1 ?_
  refine mr_iload_n (pc' := 7) dX8_clockAt_6 rfl rfl ?_
  obtain ⟨a1, g2, h3⟩ := Option.bind_eq_some_iff.mp h
  refine mr_lald (pc' := 8) dX8_clockAt_7 rfl (ly8_0 t0).2.1 (ly8_0 t0).2.2 g2 ?_
  refine mr_lmul (pc' := 9) dX8_clockAt_8 rfl ?_
  obtain rfl := Option.some.inj h3
  exact mr_lreturn dX8_clockAt_9 rfl
def f_X10_clock (v1 : Int32) (v2 : Int32) (v3 : Int32) (S : fS) : Option (Int64) :=
  (f_X10_isFloor v1 S).bind fun q1 =>
  if q1 = (0 : Int32) then (some (-1 : Int64)) else
  ((f_X10_isHour v2 S).bind fun q5 =>
  if q5 = (0 : Int32) then (some (-1 : Int64)) else
  ((f_X10_isPart v3 S).bind fun q9 =>
  if q9 = (0 : Int32) then (some (-1 : Int64)) else
  ((f_X8_clockAt 4 v1 v2 S).bind fun q13 =>
  (f_X10_lowest q13 (232792560 : Int64) v3 S).bind fun q16 =>
  some q16)))
set_option maxHeartbeats 4000000 in
set_option maxRecDepth 100000 in
theorem ok_X10_clock {X : mm_C} {RR : Nat → Nat → Option Nat} (hR : RRok RR) {v1 : Int32} {v2 : Int32} {v3 : Int32}  {S : fS} {r : Int64} (h : f_X10_clock v1 v2 v3 S = some r) : mr X 3 mY_X10_clock 0 (lv_args 0 [.ref 0, .int v1, .int v2, .int v3]) [] (MM RR S) (some (.long r), MM RR S) := by
  unfold f_X10_clock at h
  show mr X _ _ 0 [(0, .ref 0), (1, .int v1), (2, .int v2), (3, .int v3)] [] (MM RR S) _
  refine mr_aload_n (pc' := 1) dX10_clock_0 rfl rfl ?_
  refine mr_iload_n (pc' := 2) dX10_clock_1 rfl rfl ?_
  obtain ⟨q1, g2, h3⟩ := Option.bind_eq_some_iff.mp h
  refine mr_cv (pc' := 5) (a := 0) (d1 := 1) dX10_clock_2 rfl rfl rfl rfl rfl rfl (by decide) rfl (by decide) (ok_X10_isFloor hR  g2) ?_
  show mr X _ _ 5 _ [.int q1] (MM RR S) _
  by_cases c4 : q1 = (0 : Int32)
  · rw [if_pos c4] at h3
    refine mr_if_eq_t (t := 22) dX10_clock_5 (by decide) c4 ?_
    refine mr_ldc2 (pc' := 25) (v := (-1 : Int64)) dX10_clock_22 rfl rfl ?_
    obtain rfl := Option.some.inj h3
    exact mr_lreturn dX10_clock_25 rfl
  · rw [if_neg c4] at h3
    refine mr_if_eq_f (t := 22) (pc' := 8) dX10_clock_5 (by decide) rfl c4 ?_
    refine mr_iload_n (pc' := 9) dX10_clock_8 rfl rfl ?_
    obtain ⟨q5, g6, h7⟩ := Option.bind_eq_some_iff.mp h3
    refine mr_cs (pc' := 12) (d1 := 1) dX10_clock_9 rfl rfl rfl rfl (by decide) (Nat.le_of_ble_eq_true rfl) rfl rfl rfl (by decide) (ok_X10_isHour hR  g6) ?_
    show mr X _ _ 12 _ [.int q5] (MM RR S) _
    by_cases c8 : q5 = (0 : Int32)
    · rw [if_pos c8] at h7
      refine mr_if_eq_t (t := 22) dX10_clock_12 (by decide) c8 ?_
      refine mr_ldc2 (pc' := 25) (v := (-1 : Int64)) dX10_clock_22 rfl rfl ?_
      obtain rfl := Option.some.inj h7
      exact mr_lreturn dX10_clock_25 rfl
    · rw [if_neg c8] at h7
      refine mr_if_eq_f (t := 22) (pc' := 15) dX10_clock_12 (by decide) rfl c8 ?_
      refine mr_iload_n (pc' := 16) dX10_clock_15 rfl rfl ?_
      obtain ⟨q9, g10, h11⟩ := Option.bind_eq_some_iff.mp h7
      refine mr_cs (pc' := 19) (d1 := 1) dX10_clock_16 rfl rfl rfl rfl (by decide) (Nat.le_of_ble_eq_true rfl) rfl rfl rfl (by decide) (ok_X10_isPart hR  g10) ?_
      show mr X _ _ 19 _ [.int q9] (MM RR S) _
      by_cases c12 : q9 = (0 : Int32)
      · rw [if_pos c12] at h11
        refine mr_if_ne_f (t := 26) (pc' := 22) dX10_clock_19 (by decide) rfl (not_not_intro c12) ?_
        refine mr_ldc2 (pc' := 25) (v := (-1 : Int64)) dX10_clock_22 rfl rfl ?_
        obtain rfl := Option.some.inj h11
        exact mr_lreturn dX10_clock_25 rfl
      · rw [if_neg c12] at h11
        refine mr_if_ne_t (t := 26) dX10_clock_19 (by decide) c12 ?_
        refine mr_aload_n (pc' := 27) dX10_clock_26 rfl rfl ?_
        refine mr_getR (pc' := 30) (ci := 10) (j := 1) (b := 3) hR dX10_clock_27 rfl rfl rfl (by decide) (by decide) (by decide) rfl rfl ?_
        refine mr_getR (pc' := 33) (ci := 6) (j := 0) (b := 4) hR dX10_clock_30 rfl rfl rfl (by decide) (by decide) (by decide) rfl rfl ?_
        refine mr_iload_n (pc' := 34) dX10_clock_33 rfl rfl ?_
        refine mr_iload_n (pc' := 35) dX10_clock_34 rfl rfl ?_
        obtain ⟨q13, g14, h15⟩ := Option.bind_eq_some_iff.mp h11
        refine mr_cv (pc' := 38) (a := 4) (d1 := 0) dX10_clock_35 rfl rfl rfl rfl rfl rfl (by decide) rfl (by decide) (ok_X8_clockAt hR rfl g14) ?_
        show mr X _ _ 38 _ [.long q13] (MM RR S) _
        refine mr_ldc2 (pc' := 41) (v := (232792560 : Int64)) dX10_clock_38 rfl rfl ?_
        refine mr_iload_n (pc' := 42) dX10_clock_41 rfl rfl ?_
        obtain ⟨q16, g17, h18⟩ := Option.bind_eq_some_iff.mp h15
        refine mr_cs (pc' := 45) (d1 := 2) dX10_clock_42 rfl rfl rfl rfl (by decide) (Nat.le_of_ble_eq_true rfl) rfl rfl rfl (by decide) (ok_X10_lowest hR  g17) ?_
        show mr X _ _ 45 _ [.long q16] (MM RR S) _
        obtain rfl := Option.some.inj h18
        exact mr_lreturn dX10_clock_45 rfl
def f_X10_noons (v1 : Int32) (v2 : Int32) (v3 : Int32) (S : fS) : Option (Int64) :=
  (f_X10_isFloor v1 S).bind fun q1 =>
  if q1 = (0 : Int32) then (some (-1 : Int64)) else
  ((f_X10_isFloor v2 S).bind fun q5 =>
  if q5 = (0 : Int32) then (some (-1 : Int64)) else
  ((f_X10_isPart v3 S).bind fun q9 =>
  if q9 = (0 : Int32) then (some (-1 : Int64)) else
  ((gL S 5 10 v1).bind fun a13 =>
  (gL S 5 10 v2).bind fun a16 =>
  (f_X10_commonDivisor a13 a16 S).bind fun q19 =>
  if q19 = (0 : Int64) then (some (-2 : Int64)) else
  ((dL a13 q19).bind fun a23 =>
  (rL a23 (2 : Int64)).bind fun a26 =>
  if a26 = (0 : Int64) then (some (-2 : Int64)) else
  ((dL a16 q19).bind fun a30 =>
  (rL a30 (2 : Int64)).bind fun a33 =>
  if a33 = (0 : Int64) then (some (-2 : Int64)) else
  ((f_X10_lowest (2793510720 : Int64) q19 v3 S).bind fun q37 =>
  some q37))))))
set_option maxHeartbeats 4000000 in
set_option maxRecDepth 100000 in
theorem ok_X10_noons {X : mm_C} {RR : Nat → Nat → Option Nat} (hR : RRok RR) {v1 : Int32} {v2 : Int32} {v3 : Int32}  {S : fS} {r : Int64} (h : f_X10_noons v1 v2 v3 S = some r) : mr X 3 mY_X10_noons 0 (lv_args 0 [.ref 0, .int v1, .int v2, .int v3]) [] (MM RR S) (some (.long r), MM RR S) := by
  unfold f_X10_noons at h
  show mr X _ _ 0 [(0, .ref 0), (1, .int v1), (2, .int v2), (3, .int v3)] [] (MM RR S) _
  refine mr_aload_n (pc' := 1) dX10_noons_0 rfl rfl ?_
  refine mr_iload_n (pc' := 2) dX10_noons_1 rfl rfl ?_
  obtain ⟨q1, g2, h3⟩ := Option.bind_eq_some_iff.mp h
  refine mr_cv (pc' := 5) (a := 0) (d1 := 1) dX10_noons_2 rfl rfl rfl rfl rfl rfl (by decide) rfl (by decide) (ok_X10_isFloor hR  g2) ?_
  show mr X _ _ 5 _ [.int q1] (MM RR S) _
  by_cases c4 : q1 = (0 : Int32)
  · rw [if_pos c4] at h3
    refine mr_if_eq_t (t := 23) dX10_noons_5 (by decide) c4 ?_
    refine mr_ldc2 (pc' := 26) (v := (-1 : Int64)) dX10_noons_23 rfl rfl ?_
    obtain rfl := Option.some.inj h3
    exact mr_lreturn dX10_noons_26 rfl
  · rw [if_neg c4] at h3
    refine mr_if_eq_f (t := 23) (pc' := 8) dX10_noons_5 (by decide) rfl c4 ?_
    refine mr_aload_n (pc' := 9) dX10_noons_8 rfl rfl ?_
    refine mr_iload_n (pc' := 10) dX10_noons_9 rfl rfl ?_
    obtain ⟨q5, g6, h7⟩ := Option.bind_eq_some_iff.mp h3
    refine mr_cv (pc' := 13) (a := 0) (d1 := 1) dX10_noons_10 rfl rfl rfl rfl rfl rfl (by decide) rfl (by decide) (ok_X10_isFloor hR  g6) ?_
    show mr X _ _ 13 _ [.int q5] (MM RR S) _
    by_cases c8 : q5 = (0 : Int32)
    · rw [if_pos c8] at h7
      refine mr_if_eq_t (t := 23) dX10_noons_13 (by decide) c8 ?_
      refine mr_ldc2 (pc' := 26) (v := (-1 : Int64)) dX10_noons_23 rfl rfl ?_
      obtain rfl := Option.some.inj h7
      exact mr_lreturn dX10_noons_26 rfl
    · rw [if_neg c8] at h7
      refine mr_if_eq_f (t := 23) (pc' := 16) dX10_noons_13 (by decide) rfl c8 ?_
      refine mr_iload_n (pc' := 17) dX10_noons_16 rfl rfl ?_
      obtain ⟨q9, g10, h11⟩ := Option.bind_eq_some_iff.mp h7
      refine mr_cs (pc' := 20) (d1 := 1) dX10_noons_17 rfl rfl rfl rfl (by decide) (Nat.le_of_ble_eq_true rfl) rfl rfl rfl (by decide) (ok_X10_isPart hR  g10) ?_
      show mr X _ _ 20 _ [.int q9] (MM RR S) _
      by_cases c12 : q9 = (0 : Int32)
      · rw [if_pos c12] at h11
        refine mr_if_ne_f (t := 27) (pc' := 23) dX10_noons_20 (by decide) rfl (not_not_intro c12) ?_
        refine mr_ldc2 (pc' := 26) (v := (-1 : Int64)) dX10_noons_23 rfl rfl ?_
        obtain rfl := Option.some.inj h11
        exact mr_lreturn dX10_noons_26 rfl
      · rw [if_neg c12] at h11
        refine mr_if_ne_t (t := 27) dX10_noons_20 (by decide) c12 ?_
        refine mr_aload_n (pc' := 28) dX10_noons_27 rfl rfl ?_
        refine mr_getR (pc' := 31) (ci := 10) (j := 1) (b := 3) hR dX10_noons_28 rfl rfl rfl (by decide) (by decide) (by decide) rfl rfl ?_
        refine mr_getR (pc' := 34) (ci := 6) (j := 0) (b := 4) hR dX10_noons_31 rfl rfl rfl (by decide) (by decide) (by decide) rfl rfl ?_
        refine mr_getR (pc' := 37) (ci := 8) (j := 0) (b := 5) hR dX10_noons_34 rfl rfl rfl (by decide) (by decide) (by decide) rfl rfl ?_
        refine mr_iload_n (pc' := 38) dX10_noons_37 rfl rfl ?_
        obtain ⟨a13, g14, h15⟩ := Option.bind_eq_some_iff.mp h11
        refine mr_lald (pc' := 39) dX10_noons_38 rfl rfl rfl g14 ?_
        refine mr_lstore (pc' := 41) (lv' := [(4, .long a13), (0, .ref 0), (1, .int v1), (2, .int v2), (3, .int v3)]) dX10_noons_39 rfl (by decide) rfl ?_
        refine mr_aload_n (pc' := 42) dX10_noons_41 rfl rfl ?_
        refine mr_getR (pc' := 45) (ci := 10) (j := 1) (b := 3) hR dX10_noons_42 rfl rfl rfl (by decide) (by decide) (by decide) rfl rfl ?_
        refine mr_getR (pc' := 48) (ci := 6) (j := 0) (b := 4) hR dX10_noons_45 rfl rfl rfl (by decide) (by decide) (by decide) rfl rfl ?_
        refine mr_getR (pc' := 51) (ci := 8) (j := 0) (b := 5) hR dX10_noons_48 rfl rfl rfl (by decide) (by decide) (by decide) rfl rfl ?_
        refine mr_iload_n (pc' := 52) dX10_noons_51 rfl rfl ?_
        obtain ⟨a16, g17, h18⟩ := Option.bind_eq_some_iff.mp h15
        refine mr_lald (pc' := 53) dX10_noons_52 rfl rfl rfl g17 ?_
        refine mr_lstore (pc' := 55) (lv' := [(6, .long a16), (4, .long a13), (0, .ref 0), (1, .int v1), (2, .int v2), (3, .int v3)]) dX10_noons_53 rfl (by decide) rfl ?_
        refine mr_lload (pc' := 57) dX10_noons_55 rfl rfl ?_
        refine mr_lload (pc' := 59) dX10_noons_57 rfl rfl ?_
        obtain ⟨q19, g20, h21⟩ := Option.bind_eq_some_iff.mp h18
        refine mr_cs (pc' := 62) (d1 := 1) dX10_noons_59 rfl rfl rfl rfl (by decide) (Nat.le_of_ble_eq_true rfl) rfl rfl rfl (by decide) (ok_X10_commonDivisor hR  g20) ?_
        show mr X _ _ 62 _ [.long q19] (MM RR S) _
        refine mr_lstore (pc' := 64) (lv' := [(8, .long q19), (6, .long a16), (4, .long a13), (0, .ref 0), (1, .int v1), (2, .int v2), (3, .int v3)]) dX10_noons_62 rfl (by decide) rfl ?_
        refine mr_lload (pc' := 66) dX10_noons_64 rfl rfl ?_
        refine mr_lconst (pc' := 67) (v := (0 : Int64)) dX10_noons_66 rfl (by decide) ?_
        by_cases c22 : q19 = (0 : Int64)
        · rw [if_pos c22] at h21
          refine mr_lcmp_eq_t (t := 99) dX10_noons_67 rfl dX10_noons_68 (by decide) c22 ?_
          refine mr_ldc2 (pc' := 102) (v := (-2 : Int64)) dX10_noons_99 rfl rfl ?_
          obtain rfl := Option.some.inj h21
          exact mr_lreturn dX10_noons_102 rfl
        · rw [if_neg c22] at h21
          refine mr_lcmp_eq_f (t := 99) (pc' := 71) dX10_noons_67 rfl dX10_noons_68 (by decide) rfl c22 ?_
          refine mr_lload (pc' := 73) dX10_noons_71 rfl rfl ?_
          refine mr_lload (pc' := 75) dX10_noons_73 rfl rfl ?_
          obtain ⟨a23, g24, h25⟩ := Option.bind_eq_some_iff.mp h21
          refine mr_ldiv (pc' := 76) dX10_noons_75 rfl g24 ?_
          refine mr_ldc2 (pc' := 79) (v := (2 : Int64)) dX10_noons_76 rfl rfl ?_
          obtain ⟨a26, g27, h28⟩ := Option.bind_eq_some_iff.mp h25
          refine mr_lrem (pc' := 80) dX10_noons_79 rfl g27 ?_
          refine mr_lconst (pc' := 81) (v := (0 : Int64)) dX10_noons_80 rfl (by decide) ?_
          by_cases c29 : a26 = (0 : Int64)
          · rw [if_pos c29] at h28
            refine mr_lcmp_eq_t (t := 99) dX10_noons_81 rfl dX10_noons_82 (by decide) c29 ?_
            refine mr_ldc2 (pc' := 102) (v := (-2 : Int64)) dX10_noons_99 rfl rfl ?_
            obtain rfl := Option.some.inj h28
            exact mr_lreturn dX10_noons_102 rfl
          · rw [if_neg c29] at h28
            refine mr_lcmp_eq_f (t := 99) (pc' := 85) dX10_noons_81 rfl dX10_noons_82 (by decide) rfl c29 ?_
            refine mr_lload (pc' := 87) dX10_noons_85 rfl rfl ?_
            refine mr_lload (pc' := 89) dX10_noons_87 rfl rfl ?_
            obtain ⟨a30, g31, h32⟩ := Option.bind_eq_some_iff.mp h28
            refine mr_ldiv (pc' := 90) dX10_noons_89 rfl g31 ?_
            refine mr_ldc2 (pc' := 93) (v := (2 : Int64)) dX10_noons_90 rfl rfl ?_
            obtain ⟨a33, g34, h35⟩ := Option.bind_eq_some_iff.mp h32
            refine mr_lrem (pc' := 94) dX10_noons_93 rfl g34 ?_
            refine mr_lconst (pc' := 95) (v := (0 : Int64)) dX10_noons_94 rfl (by decide) ?_
            by_cases c36 : a33 = (0 : Int64)
            · rw [if_pos c36] at h35
              refine mr_lcmp_ne_f (t := 103) (pc' := 99) dX10_noons_95 rfl dX10_noons_96 (by decide) rfl (not_not_intro c36) ?_
              refine mr_ldc2 (pc' := 102) (v := (-2 : Int64)) dX10_noons_99 rfl rfl ?_
              obtain rfl := Option.some.inj h35
              exact mr_lreturn dX10_noons_102 rfl
            · rw [if_neg c36] at h35
              refine mr_lcmp_ne_t (t := 103) dX10_noons_95 rfl dX10_noons_96 (by decide) c36 ?_
              refine mr_ldc2 (pc' := 106) (v := (2793510720 : Int64)) dX10_noons_103 rfl rfl ?_
              refine mr_lload (pc' := 108) dX10_noons_106 rfl rfl ?_
              refine mr_iload_n (pc' := 109) dX10_noons_108 rfl rfl ?_
              obtain ⟨q37, g38, h39⟩ := Option.bind_eq_some_iff.mp h35
              refine mr_cs (pc' := 112) (d1 := 2) dX10_noons_109 rfl rfl rfl rfl (by decide) (Nat.le_of_ble_eq_true rfl) rfl rfl rfl (by decide) (ok_X10_lowest hR  g38) ?_
              show mr X _ _ 112 _ [.long q37] (MM RR S) _
              obtain rfl := Option.some.inj h39
              exact mr_lreturn dX10_noons_112 rfl
def f_X1_gainOf (v1 : Int32) (v2 : Int32) (S : fS) : Option (Int64) :=
  if v1 < (0 : Int32) then (some (-1 : Int64)) else
  (if v1 ≤ (120 : Int32) then ((gL S 44 1210 ((v1 * (10 : Int32)) + v2)).bind fun a3 =>
  some a3) else
  (some (-1 : Int64)))
set_option maxHeartbeats 4000000 in
set_option maxRecDepth 100000 in
theorem ok_X1_gainOf {X : mm_C} {RR : Nat → Nat → Option Nat} (hR : RRok RR) {v1 : Int32} {v2 : Int32}  {S : fS} {r : Int64} (h : f_X1_gainOf v1 v2 S = some r) : mr X 0 mY_X1_gainOf 0 (lv_args 0 [.ref 43, .int v1, .int v2]) [] (MM RR S) (some (.long r), MM RR S) := by
  unfold f_X1_gainOf at h
  show mr X _ _ 0 [(0, .ref 43), (1, .int v1), (2, .int v2)] [] (MM RR S) _
  refine mr_iload_n (pc' := 1) dX1_gainOf_0 rfl rfl ?_
  by_cases c1 : v1 < (0 : Int32)
  · rw [if_pos c1] at h
    refine mr_if_lt_t (t := 10) dX1_gainOf_1 (by decide) c1 ?_
    refine mr_ldc2 (pc' := 13) (v := (-1 : Int64)) dX1_gainOf_10 rfl rfl ?_
    refine mr_goto (t := 27) dX1_gainOf_13 (by decide) ?_
    obtain rfl := Option.some.inj h
    exact mr_lreturn dX1_gainOf_27 rfl
  · rw [if_neg c1] at h
    refine mr_if_lt_f (t := 10) (pc' := 4) dX1_gainOf_1 (by decide) rfl c1 ?_
    refine mr_iload_n (pc' := 5) dX1_gainOf_4 rfl rfl ?_
    refine mr_bipush (pc' := 7) (v := (120 : Int32)) dX1_gainOf_5 rfl (by decide) ?_
    by_cases c2 : v1 ≤ (120 : Int32)
    · rw [if_pos c2] at h
      refine mr_icmp_le_t (t := 16) dX1_gainOf_7 (by decide) c2 ?_
      refine mr_aload_n (pc' := 17) dX1_gainOf_16 rfl rfl ?_
      refine mr_getR (pc' := 20) (ci := 1) (j := 0) (b := 44) hR dX1_gainOf_17 rfl rfl rfl (by decide) (by decide) (by decide) rfl rfl ?_
      refine mr_iload_n (pc' := 21) dX1_gainOf_20 rfl rfl ?_
      refine mr_bipush (pc' := 23) (v := (10 : Int32)) dX1_gainOf_21 rfl (by decide) ?_
      refine mr_imul (pc' := 24) dX1_gainOf_23 rfl ?_
      refine mr_iload_n (pc' := 25) dX1_gainOf_24 rfl rfl ?_
      refine mr_iadd (pc' := 26) dX1_gainOf_25 rfl ?_
      obtain ⟨a3, g4, h5⟩ := Option.bind_eq_some_iff.mp h
      refine mr_lald (pc' := 27) dX1_gainOf_26 rfl rfl rfl g4 ?_
      obtain rfl := Option.some.inj h5
      exact mr_lreturn dX1_gainOf_27 rfl
    · rw [if_neg c2] at h
      refine mr_icmp_le_f (t := 16) (pc' := 10) dX1_gainOf_7 (by decide) rfl c2 ?_
      refine mr_ldc2 (pc' := 13) (v := (-1 : Int64)) dX1_gainOf_10 rfl rfl ?_
      refine mr_goto (t := 27) dX1_gainOf_13 (by decide) ?_
      obtain rfl := Option.some.inj h
      exact mr_lreturn dX1_gainOf_27 rfl
def f_X1_gainByStaying (v1 : Nat) (v2 : Int32) (v3 : Int32) (S : fS) : Option (Int64) :=
  (f_X1_gainOf (v2 - (1 : Int32)) v3 S).bind fun q1 =>
  if (0 : Int64) ≤ q1 then ((gL S (v1 + 1) 10 v3).bind fun a5 =>
  some (q1 + a5)) else
  (some (-1 : Int64))
set_option maxHeartbeats 4000000 in
set_option maxRecDepth 100000 in
theorem ok_X1_gainByStaying {X : mm_C} {RR : Nat → Nat → Option Nat} (hR : RRok RR) {v1 : Nat} {v2 : Int32} {v3 : Int32} (t1 : tg v1 = 8) {S : fS} {r : Int64} (h : f_X1_gainByStaying v1 v2 v3 S = some r) : mr X 1 mY_X1_gainByStaying 0 (lv_args 0 [.ref 43, .ref v1, .int v2, .int v3]) [] (MM RR S) (some (.long r), MM RR S) := by
  unfold f_X1_gainByStaying at h
  show mr X _ _ 0 [(0, .ref 43), (1, .ref v1), (2, .int v2), (3, .int v3)] [] (MM RR S) _
  refine mr_aload_n (pc' := 1) dX1_gainByStaying_0 rfl rfl ?_
  refine mr_iload_n (pc' := 2) dX1_gainByStaying_1 rfl rfl ?_
  refine mr_iconst (pc' := 3) (v := (1 : Int32)) dX1_gainByStaying_2 rfl (by decide) ?_
  refine mr_isub (pc' := 4) dX1_gainByStaying_3 rfl ?_
  refine mr_iload_n (pc' := 5) dX1_gainByStaying_4 rfl rfl ?_
  obtain ⟨q1, g2, h3⟩ := Option.bind_eq_some_iff.mp h
  refine mr_cv (pc' := 8) (a := 43) (d1 := 0) dX1_gainByStaying_5 rfl rfl rfl rfl rfl rfl (by decide) rfl (by decide) (ok_X1_gainOf hR  g2) ?_
  show mr X _ _ 8 _ [.long q1] (MM RR S) _
  refine mr_lstore (pc' := 10) (lv' := [(4, .long q1), (0, .ref 43), (1, .ref v1), (2, .int v2), (3, .int v3)]) dX1_gainByStaying_8 rfl (by decide) rfl ?_
  refine mr_lload (pc' := 12) dX1_gainByStaying_10 rfl rfl ?_
  refine mr_lconst (pc' := 13) (v := (0 : Int64)) dX1_gainByStaying_12 rfl (by decide) ?_
  by_cases c4 : (0 : Int64) ≤ q1
  · rw [if_pos c4] at h3
    refine mr_lcmp_ge_t (t := 23) dX1_gainByStaying_13 rfl dX1_gainByStaying_14 (by decide) c4 ?_
    refine mr_lload (pc' := 25) dX1_gainByStaying_23 rfl rfl ?_
    refine mr_aload_n (pc' := 26) dX1_gainByStaying_25 rfl rfl ?_
    refine mr_getR (pc' := 29) (ci := 8) (j := 0) (b := (v1 + 1)) hR dX1_gainByStaying_26 rfl rfl t1 (by decide) (by decide) (by decide) rfl (ly8_0 t1).1 ?_
    refine mr_iload_n (pc' := 30) dX1_gainByStaying_29 rfl rfl ?_
    obtain ⟨a5, g6, h7⟩ := Option.bind_eq_some_iff.mp h3
    refine mr_lald (pc' := 31) dX1_gainByStaying_30 rfl (ly8_0 t1).2.1 (ly8_0 t1).2.2 g6 ?_
    refine mr_ladd (pc' := 32) dX1_gainByStaying_31 rfl ?_
    obtain rfl := Option.some.inj h7
    exact mr_lreturn dX1_gainByStaying_32 rfl
  · rw [if_neg c4] at h3
    refine mr_lcmp_ge_f (t := 23) (pc' := 17) dX1_gainByStaying_13 rfl dX1_gainByStaying_14 (by decide) rfl c4 ?_
    refine mr_ldc2 (pc' := 20) (v := (-1 : Int64)) dX1_gainByStaying_17 rfl rfl ?_
    refine mr_goto (t := 32) dX1_gainByStaying_20 (by decide) ?_
    obtain rfl := Option.some.inj h3
    exact mr_lreturn dX1_gainByStaying_32 rfl
def f_X1_gainByStair (v1 : Nat) (v2 : Int32) (v3 : Int32) (v4 : Int32) (S : fS) : Option (Int64) :=
  (f_X8_otherEnd v1 v4 v3 S).bind fun q1 =>
  (gI S (v1 + 4) 12 v4).bind fun a4 =>
  if (0 : Int32) ≤ q1 then ((f_X1_gainOf (v2 - a4) q1 S).bind fun q8 =>
  if (0 : Int64) ≤ q8 then ((gL S (v1 + 5) 12 v4).bind fun a12 =>
  some (q8 + ((Int32.toInt64 a4) * a12))) else
  (some (-1 : Int64))) else
  (if (0 : Int64) ≤ (-1 : Int64) then ((gL S (v1 + 5) 12 v4).bind fun a16 =>
  some ((-1 : Int64) + ((Int32.toInt64 a4) * a16))) else
  (some (-1 : Int64)))
set_option maxHeartbeats 4000000 in
set_option maxRecDepth 100000 in
theorem ok_X1_gainByStair {X : mm_C} {RR : Nat → Nat → Option Nat} (hR : RRok RR) {v1 : Nat} {v2 : Int32} {v3 : Int32} {v4 : Int32} (t1 : tg v1 = 8) {S : fS} {r : Int64} (h : f_X1_gainByStair v1 v2 v3 v4 S = some r) : mr X 1 mY_X1_gainByStair 0 (lv_args 0 [.ref 43, .ref v1, .int v2, .int v3, .int v4]) [] (MM RR S) (some (.long r), MM RR S) := by
  unfold f_X1_gainByStair at h
  show mr X _ _ 0 [(0, .ref 43), (1, .ref v1), (2, .int v2), (3, .int v3), (4, .int v4)] [] (MM RR S) _
  refine mr_aload_n (pc' := 1) dX1_gainByStair_0 rfl rfl ?_
  refine mr_iload (pc' := 3) dX1_gainByStair_1 rfl rfl ?_
  refine mr_iload_n (pc' := 4) dX1_gainByStair_3 rfl rfl ?_
  obtain ⟨q1, g2, h3⟩ := Option.bind_eq_some_iff.mp h
  refine mr_cv (pc' := 7) (a := v1) (d1 := 0) dX1_gainByStair_4 rfl rfl rfl rfl rfl t1 (by decide) rfl (by decide) (ok_X8_otherEnd hR t1 g2) ?_
  show mr X _ _ 7 _ [.int q1] (MM RR S) _
  refine mr_istore (pc' := 9) (lv' := [(5, .int q1), (0, .ref 43), (1, .ref v1), (2, .int v2), (3, .int v3), (4, .int v4)]) dX1_gainByStair_7 rfl (by decide) rfl ?_
  refine mr_aload_n (pc' := 10) dX1_gainByStair_9 rfl rfl ?_
  refine mr_getR (pc' := 13) (ci := 8) (j := 3) (b := (v1 + 4)) hR dX1_gainByStair_10 rfl rfl t1 (by decide) (by decide) (by decide) rfl (ly8_3 t1).1 ?_
  refine mr_iload (pc' := 15) dX1_gainByStair_13 rfl rfl ?_
  obtain ⟨a4, g5, h6⟩ := Option.bind_eq_some_iff.mp h3
  refine mr_iald (pc' := 16) dX1_gainByStair_15 rfl (ly8_3 t1).2.1 (ly8_3 t1).2.2 g5 ?_
  refine mr_istore (pc' := 18) (lv' := [(6, .int a4), (5, .int q1), (0, .ref 43), (1, .ref v1), (2, .int v2), (3, .int v3), (4, .int v4)]) dX1_gainByStair_16 rfl (by decide) rfl ?_
  refine mr_iload (pc' := 20) dX1_gainByStair_18 rfl rfl ?_
  by_cases c7 : (0 : Int32) ≤ q1
  · rw [if_pos c7] at h6
    refine mr_if_ge_t (t := 29) dX1_gainByStair_20 (by decide) c7 ?_
    refine mr_aload_n (pc' := 30) dX1_gainByStair_29 rfl rfl ?_
    refine mr_iload_n (pc' := 31) dX1_gainByStair_30 rfl rfl ?_
    refine mr_iload (pc' := 33) dX1_gainByStair_31 rfl rfl ?_
    refine mr_isub (pc' := 34) dX1_gainByStair_33 rfl ?_
    refine mr_iload (pc' := 36) dX1_gainByStair_34 rfl rfl ?_
    obtain ⟨q8, g9, h10⟩ := Option.bind_eq_some_iff.mp h6
    refine mr_cv (pc' := 39) (a := 43) (d1 := 0) dX1_gainByStair_36 rfl rfl rfl rfl rfl rfl (by decide) rfl (by decide) (ok_X1_gainOf hR  g9) ?_
    show mr X _ _ 39 _ [.long q8] (MM RR S) _
    refine mr_lstore (pc' := 41) (lv' := [(7, .long q8), (6, .int a4), (5, .int q1), (0, .ref 43), (1, .ref v1), (2, .int v2), (3, .int v3), (4, .int v4)]) dX1_gainByStair_39 rfl (by decide) rfl ?_
    refine mr_lload (pc' := 43) dX1_gainByStair_41 rfl rfl ?_
    refine mr_lconst (pc' := 44) (v := (0 : Int64)) dX1_gainByStair_43 rfl (by decide) ?_
    by_cases c11 : (0 : Int64) ≤ q8
    · rw [if_pos c11] at h10
      refine mr_lcmp_ge_t (t := 54) dX1_gainByStair_44 rfl dX1_gainByStair_45 (by decide) c11 ?_
      refine mr_lload (pc' := 56) dX1_gainByStair_54 rfl rfl ?_
      refine mr_iload (pc' := 58) dX1_gainByStair_56 rfl rfl ?_
      refine mr_i2l (pc' := 59) dX1_gainByStair_58 rfl ?_
      refine mr_aload_n (pc' := 60) dX1_gainByStair_59 rfl rfl ?_
      refine mr_getR (pc' := 63) (ci := 8) (j := 4) (b := (v1 + 5)) hR dX1_gainByStair_60 rfl rfl t1 (by decide) (by decide) (by decide) rfl (ly8_4 t1).1 ?_
      refine mr_iload (pc' := 65) dX1_gainByStair_63 rfl rfl ?_
      obtain ⟨a12, g13, h14⟩ := Option.bind_eq_some_iff.mp h10
      refine mr_lald (pc' := 66) dX1_gainByStair_65 rfl (ly8_4 t1).2.1 (ly8_4 t1).2.2 g13 ?_
      refine mr_lmul (pc' := 67) dX1_gainByStair_66 rfl ?_
      refine mr_ladd (pc' := 68) dX1_gainByStair_67 rfl ?_
      obtain rfl := Option.some.inj h14
      exact mr_lreturn dX1_gainByStair_68 rfl
    · rw [if_neg c11] at h10
      refine mr_lcmp_ge_f (t := 54) (pc' := 48) dX1_gainByStair_44 rfl dX1_gainByStair_45 (by decide) rfl c11 ?_
      refine mr_ldc2 (pc' := 51) (v := (-1 : Int64)) dX1_gainByStair_48 rfl rfl ?_
      refine mr_goto (t := 68) dX1_gainByStair_51 (by decide) ?_
      obtain rfl := Option.some.inj h10
      exact mr_lreturn dX1_gainByStair_68 rfl
  · rw [if_neg c7] at h6
    refine mr_if_ge_f (t := 29) (pc' := 23) dX1_gainByStair_20 (by decide) rfl c7 ?_
    refine mr_ldc2 (pc' := 26) (v := (-1 : Int64)) dX1_gainByStair_23 rfl rfl ?_
    refine mr_goto (t := 39) dX1_gainByStair_26 (by decide) ?_
    refine mr_lstore (pc' := 41) (lv' := [(7, .long (-1 : Int64)), (6, .int a4), (5, .int q1), (0, .ref 43), (1, .ref v1), (2, .int v2), (3, .int v3), (4, .int v4)]) dX1_gainByStair_39 rfl (by decide) rfl ?_
    refine mr_lload (pc' := 43) dX1_gainByStair_41 rfl rfl ?_
    refine mr_lconst (pc' := 44) (v := (0 : Int64)) dX1_gainByStair_43 rfl (by decide) ?_
    by_cases c15 : (0 : Int64) ≤ (-1 : Int64)
    · rw [if_pos c15] at h6
      refine mr_lcmp_ge_t (t := 54) dX1_gainByStair_44 rfl dX1_gainByStair_45 (by decide) c15 ?_
      refine mr_lload (pc' := 56) dX1_gainByStair_54 rfl rfl ?_
      refine mr_iload (pc' := 58) dX1_gainByStair_56 rfl rfl ?_
      refine mr_i2l (pc' := 59) dX1_gainByStair_58 rfl ?_
      refine mr_aload_n (pc' := 60) dX1_gainByStair_59 rfl rfl ?_
      refine mr_getR (pc' := 63) (ci := 8) (j := 4) (b := (v1 + 5)) hR dX1_gainByStair_60 rfl rfl t1 (by decide) (by decide) (by decide) rfl (ly8_4 t1).1 ?_
      refine mr_iload (pc' := 65) dX1_gainByStair_63 rfl rfl ?_
      obtain ⟨a16, g17, h18⟩ := Option.bind_eq_some_iff.mp h6
      refine mr_lald (pc' := 66) dX1_gainByStair_65 rfl (ly8_4 t1).2.1 (ly8_4 t1).2.2 g17 ?_
      refine mr_lmul (pc' := 67) dX1_gainByStair_66 rfl ?_
      refine mr_ladd (pc' := 68) dX1_gainByStair_67 rfl ?_
      obtain rfl := Option.some.inj h18
      exact mr_lreturn dX1_gainByStair_68 rfl
    · rw [if_neg c15] at h6
      refine mr_lcmp_ge_f (t := 54) (pc' := 48) dX1_gainByStair_44 rfl dX1_gainByStair_45 (by decide) rfl c15 ?_
      refine mr_ldc2 (pc' := 51) (v := (-1 : Int64)) dX1_gainByStair_48 rfl rfl ?_
      refine mr_goto (t := 68) dX1_gainByStair_51 (by decide) ?_
      obtain rfl := Option.some.inj h6
      exact mr_lreturn dX1_gainByStair_68 rfl
def f_X1_isBetter (v0 : Int64) (v2 : Int64) (v4 : Int32) (S : fS) : Option (Int32) :=
  if v0 < (0 : Int64) then (if v0 < (0 : Int64) then (some (0 : Int32)) else
  (some (1 : Int32))) else
  (if (0 : Int64) ≤ v2 then (if v4 = (0 : Int32) then (if v2 ≤ v0 then (some (0 : Int32)) else
  (some (1 : Int32))) else
  (if v0 ≤ v2 then (some (0 : Int32)) else
  (some (1 : Int32)))) else
  (if v0 < (0 : Int64) then (some (0 : Int32)) else
  (some (1 : Int32))))
set_option maxHeartbeats 4000000 in
set_option maxRecDepth 100000 in
theorem ok_X1_isBetter {X : mm_C} {RR : Nat → Nat → Option Nat} (hR : RRok RR) {v0 : Int64} {v2 : Int64} {v4 : Int32}  {S : fS} {r : Int32} (h : f_X1_isBetter v0 v2 v4 S = some r) : mr X 0 mY_X1_isBetter 0 (lv_args 0 [.long v0, .long v2, .int v4]) [] (MM RR S) (some (.int r), MM RR S) := by
  unfold f_X1_isBetter at h
  show mr X _ _ 0 [(0, .long v0), (2, .long v2), (4, .int v4)] [] (MM RR S) _
  refine mr_lload_n (pc' := 1) dX1_isBetter_0 rfl rfl ?_
  refine mr_lconst (pc' := 2) (v := (0 : Int64)) dX1_isBetter_1 rfl (by decide) ?_
  by_cases c1 : v0 < (0 : Int64)
  · rw [if_pos c1] at h
    refine mr_lcmp_lt_t (t := 12) dX1_isBetter_2 rfl dX1_isBetter_3 (by decide) c1 ?_
    refine mr_lload_n (pc' := 13) dX1_isBetter_12 rfl rfl ?_
    refine mr_lconst (pc' := 14) (v := (0 : Int64)) dX1_isBetter_13 rfl (by decide) ?_
    by_cases c2 : v0 < (0 : Int64)
    · rw [if_pos c2] at h
      refine mr_lcmp_lt_t (t := 22) dX1_isBetter_14 rfl dX1_isBetter_15 (by decide) c2 ?_
      refine mr_iconst (pc' := 23) (v := (0 : Int32)) dX1_isBetter_22 rfl (by decide) ?_
      obtain rfl := Option.some.inj h
      exact mr_zreturn dX1_isBetter_23 rfl (by decide)
    · rw [if_neg c2] at h
      refine mr_lcmp_lt_f (t := 22) (pc' := 18) dX1_isBetter_14 rfl dX1_isBetter_15 (by decide) rfl c2 ?_
      refine mr_iconst (pc' := 19) (v := (1 : Int32)) dX1_isBetter_18 rfl (by decide) ?_
      refine mr_goto (t := 23) dX1_isBetter_19 (by decide) ?_
      obtain rfl := Option.some.inj h
      exact mr_zreturn dX1_isBetter_23 rfl (by decide)
  · rw [if_neg c1] at h
    refine mr_lcmp_lt_f (t := 12) (pc' := 6) dX1_isBetter_2 rfl dX1_isBetter_3 (by decide) rfl c1 ?_
    refine mr_lload_n (pc' := 7) dX1_isBetter_6 rfl rfl ?_
    refine mr_lconst (pc' := 8) (v := (0 : Int64)) dX1_isBetter_7 rfl (by decide) ?_
    by_cases c3 : (0 : Int64) ≤ v2
    · rw [if_pos c3] at h
      refine mr_lcmp_ge_t (t := 24) dX1_isBetter_8 rfl dX1_isBetter_9 (by decide) c3 ?_
      refine mr_iload (pc' := 26) dX1_isBetter_24 rfl rfl ?_
      by_cases c4 : v4 = (0 : Int32)
      · rw [if_pos c4] at h
        refine mr_if_eq_t (t := 43) dX1_isBetter_26 (by decide) c4 ?_
        refine mr_lload_n (pc' := 44) dX1_isBetter_43 rfl rfl ?_
        refine mr_lload_n (pc' := 45) dX1_isBetter_44 rfl rfl ?_
        by_cases c5 : v2 ≤ v0
        · rw [if_pos c5] at h
          refine mr_lcmp_ge_t (t := 53) dX1_isBetter_45 rfl dX1_isBetter_46 (by decide) c5 ?_
          refine mr_iconst (pc' := 54) (v := (0 : Int32)) dX1_isBetter_53 rfl (by decide) ?_
          obtain rfl := Option.some.inj h
          exact mr_zreturn dX1_isBetter_54 rfl (by decide)
        · rw [if_neg c5] at h
          refine mr_lcmp_ge_f (t := 53) (pc' := 49) dX1_isBetter_45 rfl dX1_isBetter_46 (by decide) rfl c5 ?_
          refine mr_iconst (pc' := 50) (v := (1 : Int32)) dX1_isBetter_49 rfl (by decide) ?_
          refine mr_goto (t := 54) dX1_isBetter_50 (by decide) ?_
          obtain rfl := Option.some.inj h
          exact mr_zreturn dX1_isBetter_54 rfl (by decide)
      · rw [if_neg c4] at h
        refine mr_if_eq_f (t := 43) (pc' := 29) dX1_isBetter_26 (by decide) rfl c4 ?_
        refine mr_lload_n (pc' := 30) dX1_isBetter_29 rfl rfl ?_
        refine mr_lload_n (pc' := 31) dX1_isBetter_30 rfl rfl ?_
        by_cases c6 : v0 ≤ v2
        · rw [if_pos c6] at h
          refine mr_lcmp_le_t (t := 39) dX1_isBetter_31 rfl dX1_isBetter_32 (by decide) c6 ?_
          refine mr_iconst (pc' := 40) (v := (0 : Int32)) dX1_isBetter_39 rfl (by decide) ?_
          refine mr_goto (t := 54) dX1_isBetter_40 (by decide) ?_
          obtain rfl := Option.some.inj h
          exact mr_zreturn dX1_isBetter_54 rfl (by decide)
        · rw [if_neg c6] at h
          refine mr_lcmp_le_f (t := 39) (pc' := 35) dX1_isBetter_31 rfl dX1_isBetter_32 (by decide) rfl c6 ?_
          refine mr_iconst (pc' := 36) (v := (1 : Int32)) dX1_isBetter_35 rfl (by decide) ?_
          refine mr_goto (t := 54) dX1_isBetter_36 (by decide) ?_
          obtain rfl := Option.some.inj h
          exact mr_zreturn dX1_isBetter_54 rfl (by decide)
    · rw [if_neg c3] at h
      refine mr_lcmp_ge_f (t := 24) (pc' := 12) dX1_isBetter_8 rfl dX1_isBetter_9 (by decide) rfl c3 ?_
      refine mr_lload_n (pc' := 13) dX1_isBetter_12 rfl rfl ?_
      refine mr_lconst (pc' := 14) (v := (0 : Int64)) dX1_isBetter_13 rfl (by decide) ?_
      by_cases c7 : v0 < (0 : Int64)
      · rw [if_pos c7] at h
        refine mr_lcmp_lt_t (t := 22) dX1_isBetter_14 rfl dX1_isBetter_15 (by decide) c7 ?_
        refine mr_iconst (pc' := 23) (v := (0 : Int32)) dX1_isBetter_22 rfl (by decide) ?_
        obtain rfl := Option.some.inj h
        exact mr_zreturn dX1_isBetter_23 rfl (by decide)
      · rw [if_neg c7] at h
        refine mr_lcmp_lt_f (t := 22) (pc' := 18) dX1_isBetter_14 rfl dX1_isBetter_15 (by decide) rfl c7 ?_
        refine mr_iconst (pc' := 19) (v := (1 : Int32)) dX1_isBetter_18 rfl (by decide) ?_
        refine mr_goto (t := 23) dX1_isBetter_19 (by decide) ?_
        obtain rfl := Option.some.inj h
        exact mr_zreturn dX1_isBetter_23 rfl (by decide)
def lp_X1_bestGain_12 (p1 : Nat) (p2 : Int32) (p3 : Int32) (p4 : Int32) (S : fS) (K : Int64 → Option (Int64)) : Nat → Int64 → Int32 → Option (Int64)
  | 0, _, _ => none
  | n + 1, p5, p7 =>
    if (S.1 p1 7) ≤ p7 then (K p5) else
    ((f_X1_gainByStair p1 p2 p3 p7 S).bind fun q5 =>
    (f_X1_isBetter q5 p5 p4 S).bind fun q8 =>
    if q8 = (0 : Int32) then (lp_X1_bestGain_12 p1 p2 p3 p4 S K n p5 (p7 + (1 : Int32))) else
    (lp_X1_bestGain_12 p1 p2 p3 p4 S K n q5 (p7 + (1 : Int32))))
set_option maxHeartbeats 4000000 in
set_option maxRecDepth 100000 in
theorem ok_lp_X1_bestGain_12 {X : mm_C} {RR : Nat → Nat → Option Nat} (hR : RRok RR) {p1 : Nat} {p2 : Int32} {p3 : Int32} {p4 : Int32} (t1 : tg p1 = 8) {S : fS} {K : Int64 → Option (Int64)} {r : Int64} (hK : ∀ (k5 : Int64), K k5 = some r → mr X 2 mY_X1_bestGain 59 [(5, .long k5)] [] (MM RR S) (some (.long r), MM RR S)) : ∀ (n : Nat) (p5 : Int64) (p7 : Int32), lp_X1_bestGain_12 p1 p2 p3 p4 S K n p5 p7 = some r → mr X 2 mY_X1_bestGain 12 [(0, .ref 43), (1, .ref p1), (2, .int p2), (3, .int p3), (4, .int p4), (5, .long p5), (7, .int p7)] [] (MM RR S) (some (.long r), MM RR S) := by
  intro n
  induction n with
  | zero => intro p5 p7 h; exact mm_no h
  | succ n ih =>
    intro p5 p7 h
    unfold lp_X1_bestGain_12 at h
    refine mr_iload (pc' := 14) dX1_bestGain_12 rfl rfl ?_
    refine mr_aload_n (pc' := 15) dX1_bestGain_14 rfl rfl ?_
    refine mr_getI (pc' := 18) (ci := 8) (j := 7) dX1_bestGain_15 rfl rfl t1 (by decide) (by decide) rfl ?_
    by_cases c4 : (S.1 p1 7) ≤ p7
    · rw [if_pos c4] at h
      refine mr_icmp_ge_t (t := 59) dX1_bestGain_18 (by decide) c4 ?_
      exact mr_sub [(5, .long p5)] ⟨rfl, trivial⟩ rfl (hK _  h)
    · rw [if_neg c4] at h
      refine mr_icmp_ge_f (t := 59) (pc' := 21) dX1_bestGain_18 (by decide) rfl c4 ?_
      refine mr_aload_n (pc' := 22) dX1_bestGain_21 rfl rfl ?_
      refine mr_aload_n (pc' := 23) dX1_bestGain_22 rfl rfl ?_
      refine mr_iload_n (pc' := 24) dX1_bestGain_23 rfl rfl ?_
      refine mr_iload_n (pc' := 25) dX1_bestGain_24 rfl rfl ?_
      refine mr_iload (pc' := 27) dX1_bestGain_25 rfl rfl ?_
      obtain ⟨q5, g6, h7⟩ := Option.bind_eq_some_iff.mp h
      refine mr_cv (pc' := 30) (a := 43) (d1 := 1) dX1_bestGain_27 rfl rfl rfl rfl rfl rfl (by decide) rfl (by decide) (ok_X1_gainByStair hR t1 g6) ?_
      show mr X _ _ 30 _ [.long q5] (MM RR S) _
      refine mr_lstore (pc' := 32) (lv' := [(8, .long q5), (0, .ref 43), (1, .ref p1), (2, .int p2), (3, .int p3), (4, .int p4), (5, .long p5), (7, .int p7)]) dX1_bestGain_30 rfl (by decide) rfl ?_
      refine mr_lload (pc' := 34) dX1_bestGain_32 rfl rfl ?_
      refine mr_lload (pc' := 36) dX1_bestGain_34 rfl rfl ?_
      refine mr_iload (pc' := 38) dX1_bestGain_36 rfl rfl ?_
      obtain ⟨q8, g9, h10⟩ := Option.bind_eq_some_iff.mp h7
      refine mr_cs (pc' := 41) (d1 := 0) dX1_bestGain_38 rfl rfl rfl rfl (by decide) (Nat.le_of_ble_eq_true rfl) rfl rfl rfl (by decide) (ok_X1_isBetter hR  g9) ?_
      show mr X _ _ 41 _ [.int q8] (MM RR S) _
      by_cases c11 : q8 = (0 : Int32)
      · rw [if_pos c11] at h10
        refine mr_if_eq_t (t := 49) dX1_bestGain_41 (by decide) c11 ?_
        refine mr_lload (pc' := 51) dX1_bestGain_49 rfl rfl ?_
        refine mr_lstore (pc' := 53) (lv' := [(5, .long p5), (8, .long q5), (0, .ref 43), (1, .ref p1), (2, .int p2), (3, .int p3), (4, .int p4), (7, .int p7)]) dX1_bestGain_51 rfl (by decide) rfl ?_
        refine mr_iinc (pc' := 56) (x' := (p7 + (1 : Int32))) (lv' := [(7, .int (p7 + (1 : Int32))), (5, .long p5), (8, .long q5), (0, .ref 43), (1, .ref p1), (2, .int p2), (3, .int p3), (4, .int p4)]) dX1_bestGain_53 rfl (by decide) rfl rfl rfl ?_
        refine mr_goto (t := 12) dX1_bestGain_56 (by decide) ?_
        exact mr_sub [(0, .ref 43), (1, .ref p1), (2, .int p2), (3, .int p3), (4, .int p4), (5, .long p5), (7, .int (p7 + (1 : Int32)))] ⟨rfl, rfl, rfl, rfl, rfl, rfl, rfl, trivial⟩ rfl (ih _ _  h10)
      · rw [if_neg c11] at h10
        refine mr_if_eq_f (t := 49) (pc' := 44) dX1_bestGain_41 (by decide) rfl c11 ?_
        refine mr_lload (pc' := 46) dX1_bestGain_44 rfl rfl ?_
        refine mr_goto (t := 51) dX1_bestGain_46 (by decide) ?_
        refine mr_lstore (pc' := 53) (lv' := [(5, .long q5), (8, .long q5), (0, .ref 43), (1, .ref p1), (2, .int p2), (3, .int p3), (4, .int p4), (7, .int p7)]) dX1_bestGain_51 rfl (by decide) rfl ?_
        refine mr_iinc (pc' := 56) (x' := (p7 + (1 : Int32))) (lv' := [(7, .int (p7 + (1 : Int32))), (5, .long q5), (8, .long q5), (0, .ref 43), (1, .ref p1), (2, .int p2), (3, .int p3), (4, .int p4)]) dX1_bestGain_53 rfl (by decide) rfl rfl rfl ?_
        refine mr_goto (t := 12) dX1_bestGain_56 (by decide) ?_
        exact mr_sub [(0, .ref 43), (1, .ref p1), (2, .int p2), (3, .int p3), (4, .int p4), (5, .long q5), (7, .int (p7 + (1 : Int32)))] ⟨rfl, rfl, rfl, rfl, rfl, rfl, rfl, trivial⟩ rfl (ih _ _  h10)
def f_X1_bestGain (v1 : Nat) (v2 : Int32) (v3 : Int32) (v4 : Int32) (S : fS) : Option (Int64) :=
  (f_X1_gainByStaying v1 v2 v3 S).bind fun q1 =>
  lp_X1_bestGain_12 v1 v2 v3 v4 S (fun u12 => some u12) FU q1 (0 : Int32)
set_option maxHeartbeats 4000000 in
set_option maxRecDepth 100000 in
theorem ok_X1_bestGain {X : mm_C} {RR : Nat → Nat → Option Nat} (hR : RRok RR) {v1 : Nat} {v2 : Int32} {v3 : Int32} {v4 : Int32} (t1 : tg v1 = 8) {S : fS} {r : Int64} (h : f_X1_bestGain v1 v2 v3 v4 S = some r) : mr X 2 mY_X1_bestGain 0 (lv_args 0 [.ref 43, .ref v1, .int v2, .int v3, .int v4]) [] (MM RR S) (some (.long r), MM RR S) := by
  unfold f_X1_bestGain at h
  show mr X _ _ 0 [(0, .ref 43), (1, .ref v1), (2, .int v2), (3, .int v3), (4, .int v4)] [] (MM RR S) _
  refine mr_aload_n (pc' := 1) dX1_bestGain_0 rfl rfl ?_
  refine mr_aload_n (pc' := 2) dX1_bestGain_1 rfl rfl ?_
  refine mr_iload_n (pc' := 3) dX1_bestGain_2 rfl rfl ?_
  refine mr_iload_n (pc' := 4) dX1_bestGain_3 rfl rfl ?_
  obtain ⟨q1, g2, h3⟩ := Option.bind_eq_some_iff.mp h
  refine mr_cv (pc' := 7) (a := 43) (d1 := 1) dX1_bestGain_4 rfl rfl rfl rfl rfl rfl (by decide) rfl (by decide) (ok_X1_gainByStaying hR t1 g2) ?_
  show mr X _ _ 7 _ [.long q1] (MM RR S) _
  refine mr_lstore (pc' := 9) (lv' := [(5, .long q1), (0, .ref 43), (1, .ref v1), (2, .int v2), (3, .int v3), (4, .int v4)]) dX1_bestGain_7 rfl (by decide) rfl ?_
  refine mr_iconst (pc' := 10) (v := (0 : Int32)) dX1_bestGain_9 rfl (by decide) ?_
  refine mr_istore (pc' := 12) (lv' := [(7, .int (0 : Int32)), (5, .long q1), (0, .ref 43), (1, .ref v1), (2, .int v2), (3, .int v3), (4, .int v4)]) dX1_bestGain_10 rfl (by decide) rfl ?_
  refine mr_sub [(0, .ref 43), (1, .ref v1), (2, .int v2), (3, .int v3), (4, .int v4), (5, .long q1), (7, .int (0 : Int32))] ⟨rfl, rfl, rfl, rfl, rfl, rfl, rfl, trivial⟩ rfl ?_
  refine ok_lp_X1_bestGain_12 hR t1 (fun u12 h13 => ?_) FU _ _  h3
  refine mr_lload (pc' := 61) dX1_bestGain_59 rfl rfl ?_
  obtain rfl := Option.some.inj h13
  exact mr_lreturn dX1_bestGain_61 rfl
def lp_X1_measure_3 (p1 : Nat) (p2 : Int32) (p3 : Int32) (p4 : Int32) (K : fS → Option (fS)) : Nat → Int32 → fS → Option (fS)
  | 0, _, _ => none
  | n + 1, p5, S0 =>
    if (10 : Int32) ≤ p5 then (K S0) else
    (if p5 = p2 then ((sL S0 44 1210 p5 (0 : Int64)).bind fun S6 =>
    lp_X1_measure_3 p1 p2 p3 p4 K n (p5 + (1 : Int32)) S6) else
    ((sL S0 44 1210 p5 (-1 : Int64)).bind fun S3 =>
    lp_X1_measure_3 p1 p2 p3 p4 K n (p5 + (1 : Int32)) S3))
set_option maxHeartbeats 4000000 in
set_option maxRecDepth 100000 in
theorem ok_lp_X1_measure_3 {X : mm_C} {RR : Nat → Nat → Option Nat} (hR : RRok RR) {p1 : Nat} {p2 : Int32} {p3 : Int32} {p4 : Int32} (t1 : tg p1 = 8) {K : fS → Option (fS)} {r : fS} (hK : ∀ (Sk : fS), K Sk = some r → mr X 3 mY_X1_measure 36 [(0, .ref 43), (1, .ref p1), (3, .int p3), (4, .int p4)] [] (MM RR Sk) (none, MM RR r)) : ∀ (n : Nat) (p5 : Int32) (S0 : fS), lp_X1_measure_3 p1 p2 p3 p4 K n p5 S0 = some r → mr X 3 mY_X1_measure 3 [(0, .ref 43), (1, .ref p1), (2, .int p2), (3, .int p3), (4, .int p4), (5, .int p5)] [] (MM RR S0) (none, MM RR r) := by
  intro n
  induction n with
  | zero => intro p5 S0 h; exact mm_no h
  | succ n ih =>
    intro p5 S0 h
    unfold lp_X1_measure_3 at h
    refine mr_iload (pc' := 5) dX1_measure_3 rfl rfl ?_
    refine mr_bipush (pc' := 7) (v := (10 : Int32)) dX1_measure_5 rfl (by decide) ?_
    by_cases c1 : (10 : Int32) ≤ p5
    · rw [if_pos c1] at h
      refine mr_icmp_ge_t (t := 36) dX1_measure_7 (by decide) c1 ?_
      exact mr_sub [(0, .ref 43), (1, .ref p1), (3, .int p3), (4, .int p4)] ⟨rfl, rfl, rfl, rfl, trivial⟩ rfl (hK _  h)
    · rw [if_neg c1] at h
      refine mr_icmp_ge_f (t := 36) (pc' := 10) dX1_measure_7 (by decide) rfl c1 ?_
      refine mr_aload_n (pc' := 11) dX1_measure_10 rfl rfl ?_
      refine mr_getR (pc' := 14) (ci := 1) (j := 0) (b := 44) hR dX1_measure_11 rfl rfl rfl (by decide) (by decide) (by decide) rfl rfl ?_
      refine mr_iload (pc' := 16) dX1_measure_14 rfl rfl ?_
      refine mr_iload (pc' := 18) dX1_measure_16 rfl rfl ?_
      refine mr_iload_n (pc' := 19) dX1_measure_18 rfl rfl ?_
      by_cases c2 : p5 = p2
      · rw [if_pos c2] at h
        refine mr_icmp_ne_f (t := 26) (pc' := 22) dX1_measure_19 (by decide) rfl (not_not_intro c2) ?_
        refine mr_lconst (pc' := 23) (v := (0 : Int64)) dX1_measure_22 rfl (by decide) ?_
        refine mr_goto (t := 29) dX1_measure_23 (by decide) ?_
        obtain ⟨S6, g7, h8⟩ := Option.bind_eq_some_iff.mp h
        refine mr_last (pc' := 30) dX1_measure_29 rfl rfl rfl g7 ?_
        refine mr_iinc (pc' := 33) (x' := (p5 + (1 : Int32))) (lv' := [(5, .int (p5 + (1 : Int32))), (0, .ref 43), (1, .ref p1), (2, .int p2), (3, .int p3), (4, .int p4)]) dX1_measure_30 rfl (by decide) rfl rfl rfl ?_
        refine mr_goto (t := 3) dX1_measure_33 (by decide) ?_
        exact mr_sub [(0, .ref 43), (1, .ref p1), (2, .int p2), (3, .int p3), (4, .int p4), (5, .int (p5 + (1 : Int32)))] ⟨rfl, rfl, rfl, rfl, rfl, rfl, trivial⟩ rfl (ih _ _  h8)
      · rw [if_neg c2] at h
        refine mr_icmp_ne_t (t := 26) dX1_measure_19 (by decide) c2 ?_
        refine mr_ldc2 (pc' := 29) (v := (-1 : Int64)) dX1_measure_26 rfl rfl ?_
        obtain ⟨S3, g4, h5⟩ := Option.bind_eq_some_iff.mp h
        refine mr_last (pc' := 30) dX1_measure_29 rfl rfl rfl g4 ?_
        refine mr_iinc (pc' := 33) (x' := (p5 + (1 : Int32))) (lv' := [(5, .int (p5 + (1 : Int32))), (0, .ref 43), (1, .ref p1), (2, .int p2), (3, .int p3), (4, .int p4)]) dX1_measure_30 rfl (by decide) rfl rfl rfl ?_
        refine mr_goto (t := 3) dX1_measure_33 (by decide) ?_
        exact mr_sub [(0, .ref 43), (1, .ref p1), (2, .int p2), (3, .int p3), (4, .int p4), (5, .int (p5 + (1 : Int32)))] ⟨rfl, rfl, rfl, rfl, rfl, rfl, trivial⟩ rfl (ih _ _  h5)
def lp_X1_measure_55 (p1 : Nat) (p3 : Int32) (p4 : Int32) (p5 : Int32) (K : fS → Option (fS)) : Nat → Int32 → fS → Option (fS)
  | 0, _, _ => none
  | n + 1, p6, S0 =>
    if (S0.1 p1 6) ≤ p6 then (K S0) else
    ((f_X1_bestGain p1 p5 p6 p4 S0).bind fun q14 =>
    (sL S0 44 1210 ((p5 * (10 : Int32)) + p6) q14).bind fun S17 =>
    lp_X1_measure_55 p1 p3 p4 p5 K n (p6 + (1 : Int32)) S17)
set_option maxHeartbeats 4000000 in
set_option maxRecDepth 100000 in
theorem ok_lp_X1_measure_55 {X : mm_C} {RR : Nat → Nat → Option Nat} (hR : RRok RR) {p1 : Nat} {p3 : Int32} {p4 : Int32} {p5 : Int32} (t1 : tg p1 = 8) {K : fS → Option (fS)} {r : fS} (hK : ∀ (Sk : fS), K Sk = some r → mr X 3 mY_X1_measure 94 [(0, .ref 43), (1, .ref p1), (3, .int p3), (4, .int p4), (5, .int p5)] [] (MM RR Sk) (none, MM RR r)) : ∀ (n : Nat) (p6 : Int32) (S0 : fS), lp_X1_measure_55 p1 p3 p4 p5 K n p6 S0 = some r → mr X 3 mY_X1_measure 55 [(0, .ref 43), (1, .ref p1), (3, .int p3), (4, .int p4), (5, .int p5), (6, .int p6)] [] (MM RR S0) (none, MM RR r) := by
  intro n
  induction n with
  | zero => intro p6 S0 h; exact mm_no h
  | succ n ih =>
    intro p6 S0 h
    unfold lp_X1_measure_55 at h
    refine mr_iload (pc' := 57) dX1_measure_55 rfl rfl ?_
    refine mr_aload_n (pc' := 58) dX1_measure_57 rfl rfl ?_
    refine mr_getI (pc' := 61) (ci := 8) (j := 6) dX1_measure_58 rfl rfl t1 (by decide) (by decide) rfl ?_
    by_cases c13 : (S0.1 p1 6) ≤ p6
    · rw [if_pos c13] at h
      refine mr_icmp_ge_t (t := 94) dX1_measure_61 (by decide) c13 ?_
      exact mr_sub [(0, .ref 43), (1, .ref p1), (3, .int p3), (4, .int p4), (5, .int p5)] ⟨rfl, rfl, rfl, rfl, rfl, trivial⟩ rfl (hK _  h)
    · rw [if_neg c13] at h
      refine mr_icmp_ge_f (t := 94) (pc' := 64) dX1_measure_61 (by decide) rfl c13 ?_
      refine mr_aload_n (pc' := 65) dX1_measure_64 rfl rfl ?_
      refine mr_getR (pc' := 68) (ci := 1) (j := 0) (b := 44) hR dX1_measure_65 rfl rfl rfl (by decide) (by decide) (by decide) rfl rfl ?_
      refine mr_iload (pc' := 70) dX1_measure_68 rfl rfl ?_
      refine mr_bipush (pc' := 72) (v := (10 : Int32)) dX1_measure_70 rfl (by decide) ?_
      refine mr_imul (pc' := 73) dX1_measure_72 rfl ?_
      refine mr_iload (pc' := 75) dX1_measure_73 rfl rfl ?_
      refine mr_iadd (pc' := 76) dX1_measure_75 rfl ?_
      refine mr_aload_n (pc' := 77) dX1_measure_76 rfl rfl ?_
      refine mr_aload_n (pc' := 78) dX1_measure_77 rfl rfl ?_
      refine mr_iload (pc' := 80) dX1_measure_78 rfl rfl ?_
      refine mr_iload (pc' := 82) dX1_measure_80 rfl rfl ?_
      refine mr_iload (pc' := 84) dX1_measure_82 rfl rfl ?_
      obtain ⟨q14, g15, h16⟩ := Option.bind_eq_some_iff.mp h
      refine mr_cv (pc' := 87) (a := 43) (d1 := 2) dX1_measure_84 rfl rfl rfl rfl rfl rfl (by decide) rfl (by decide) (ok_X1_bestGain hR t1 g15) ?_
      show mr X _ _ 87 _ [.long q14, .int ((p5 * (10 : Int32)) + p6), .ref 44] (MM RR S0) _
      obtain ⟨S17, g18, h19⟩ := Option.bind_eq_some_iff.mp h16
      refine mr_last (pc' := 88) dX1_measure_87 rfl rfl rfl g18 ?_
      refine mr_iinc (pc' := 91) (x' := (p6 + (1 : Int32))) (lv' := [(6, .int (p6 + (1 : Int32))), (0, .ref 43), (1, .ref p1), (3, .int p3), (4, .int p4), (5, .int p5)]) dX1_measure_88 rfl (by decide) rfl rfl rfl ?_
      refine mr_goto (t := 55) dX1_measure_91 (by decide) ?_
      exact mr_sub [(0, .ref 43), (1, .ref p1), (3, .int p3), (4, .int p4), (5, .int p5), (6, .int (p6 + (1 : Int32)))] ⟨rfl, rfl, rfl, rfl, rfl, rfl, trivial⟩ rfl (ih _ _  h19)
def lp_X1_measure_39 (p1 : Nat) (p3 : Int32) (p4 : Int32) (K : fS → Option (fS)) : Nat → Int32 → fS → Option (fS)
  | 0, _, _ => none
  | n + 1, p5, S0 =>
    if p3 < p5 then (K S0) else
    (if (120 : Int32) < p5 then (K S0) else
    (lp_X1_measure_55 p1 p3 p4 p5 (fun S20 => lp_X1_measure_39 p1 p3 p4 K n (p5 + (1 : Int32)) S20) FU (0 : Int32) S0))
set_option maxHeartbeats 4000000 in
set_option maxRecDepth 100000 in
theorem ok_lp_X1_measure_39 {X : mm_C} {RR : Nat → Nat → Option Nat} (hR : RRok RR) {p1 : Nat} {p3 : Int32} {p4 : Int32} (t1 : tg p1 = 8) {K : fS → Option (fS)} {r : fS} (hK : ∀ (Sk : fS), K Sk = some r → mr X 3 mY_X1_measure 100 [] [] (MM RR Sk) (none, MM RR r)) : ∀ (n : Nat) (p5 : Int32) (S0 : fS), lp_X1_measure_39 p1 p3 p4 K n p5 S0 = some r → mr X 3 mY_X1_measure 39 [(0, .ref 43), (1, .ref p1), (3, .int p3), (4, .int p4), (5, .int p5)] [] (MM RR S0) (none, MM RR r) := by
  intro n
  induction n with
  | zero => intro p5 S0 h; exact mm_no h
  | succ n ih =>
    intro p5 S0 h
    unfold lp_X1_measure_39 at h
    refine mr_iload (pc' := 41) dX1_measure_39 rfl rfl ?_
    refine mr_iload_n (pc' := 42) dX1_measure_41 rfl rfl ?_
    by_cases c11 : p3 < p5
    · rw [if_pos c11] at h
      refine mr_icmp_gt_t (t := 100) dX1_measure_42 (by decide) c11 ?_
      exact mr_sub [] trivial rfl (hK _  h)
    · rw [if_neg c11] at h
      refine mr_icmp_gt_f (t := 100) (pc' := 45) dX1_measure_42 (by decide) rfl c11 ?_
      refine mr_iload (pc' := 47) dX1_measure_45 rfl rfl ?_
      refine mr_bipush (pc' := 49) (v := (120 : Int32)) dX1_measure_47 rfl (by decide) ?_
      by_cases c12 : (120 : Int32) < p5
      · rw [if_pos c12] at h
        refine mr_icmp_gt_t (t := 100) dX1_measure_49 (by decide) c12 ?_
        exact mr_sub [] trivial rfl (hK _  h)
      · rw [if_neg c12] at h
        refine mr_icmp_gt_f (t := 100) (pc' := 52) dX1_measure_49 (by decide) rfl c12 ?_
        refine mr_iconst (pc' := 53) (v := (0 : Int32)) dX1_measure_52 rfl (by decide) ?_
        refine mr_istore (pc' := 55) (lv' := [(6, .int (0 : Int32)), (0, .ref 43), (1, .ref p1), (3, .int p3), (4, .int p4), (5, .int p5)]) dX1_measure_53 rfl (by decide) rfl ?_
        refine mr_sub [(0, .ref 43), (1, .ref p1), (3, .int p3), (4, .int p4), (5, .int p5), (6, .int (0 : Int32))] ⟨rfl, rfl, rfl, rfl, rfl, rfl, trivial⟩ rfl ?_
        refine ok_lp_X1_measure_55 hR t1 (fun S20 h21 => ?_) FU _ _  h
        refine mr_iinc (pc' := 97) (x' := (p5 + (1 : Int32))) (lv' := [(5, .int (p5 + (1 : Int32))), (0, .ref 43), (1, .ref p1), (3, .int p3), (4, .int p4)]) dX1_measure_94 rfl (by decide) rfl rfl rfl ?_
        refine mr_goto (t := 39) dX1_measure_97 (by decide) ?_
        exact mr_sub [(0, .ref 43), (1, .ref p1), (3, .int p3), (4, .int p4), (5, .int (p5 + (1 : Int32)))] ⟨rfl, rfl, rfl, rfl, rfl, trivial⟩ rfl (ih _ _  h21)
def f_X1_measure (v1 : Nat) (v2 : Int32) (v3 : Int32) (v4 : Int32) (S : fS) : Option (fS) :=
  lp_X1_measure_3 v1 v2 v3 v4 (fun S9 => lp_X1_measure_39 v1 v3 v4 (fun S22 => some S22) FU (1 : Int32) S9) FU (0 : Int32) S
set_option maxHeartbeats 4000000 in
set_option maxRecDepth 100000 in
theorem ok_X1_measure {X : mm_C} {RR : Nat → Nat → Option Nat} (hR : RRok RR) {v1 : Nat} {v2 : Int32} {v3 : Int32} {v4 : Int32} (t1 : tg v1 = 8) {S : fS} {r : fS} (h : f_X1_measure v1 v2 v3 v4 S = some r) : mr X 3 mY_X1_measure 0 (lv_args 0 [.ref 43, .ref v1, .int v2, .int v3, .int v4]) [] (MM RR S) (none, MM RR r) := by
  unfold f_X1_measure at h
  show mr X _ _ 0 [(0, .ref 43), (1, .ref v1), (2, .int v2), (3, .int v3), (4, .int v4)] [] (MM RR S) _
  refine mr_iconst (pc' := 1) (v := (0 : Int32)) dX1_measure_0 rfl (by decide) ?_
  refine mr_istore (pc' := 3) (lv' := [(5, .int (0 : Int32)), (0, .ref 43), (1, .ref v1), (2, .int v2), (3, .int v3), (4, .int v4)]) dX1_measure_1 rfl (by decide) rfl ?_
  refine mr_sub [(0, .ref 43), (1, .ref v1), (2, .int v2), (3, .int v3), (4, .int v4), (5, .int (0 : Int32))] ⟨rfl, rfl, rfl, rfl, rfl, rfl, trivial⟩ rfl ?_
  refine ok_lp_X1_measure_3 hR t1 (fun S9 h10 => ?_) FU _ _  h
  refine mr_iconst (pc' := 37) (v := (1 : Int32)) dX1_measure_36 rfl (by decide) ?_
  refine mr_istore (pc' := 39) (lv' := [(5, .int (1 : Int32)), (0, .ref 43), (1, .ref v1), (3, .int v3), (4, .int v4)]) dX1_measure_37 rfl (by decide) rfl ?_
  refine mr_sub [(0, .ref 43), (1, .ref v1), (3, .int v3), (4, .int v4), (5, .int (1 : Int32))] ⟨rfl, rfl, rfl, rfl, rfl, trivial⟩ rfl ?_
  refine ok_lp_X1_measure_39 hR t1 (fun S22 h23 => ?_) FU _ _  h10
  obtain rfl := Option.some.inj h23
  exact mr_return dX1_measure_100 rfl
def lp_X1_firstStep_34 (p1 : Nat) (p2 : Int32) (p3 : Int32) (p4 : Int64) (S : fS) (K : Unit → Option (Int32)) : Nat → Int32 → Option (Int32)
  | 0, _ => none
  | n + 1, p6 =>
    if (S.1 p1 7) ≤ p6 then (K ()) else
    ((f_X1_gainByStair p1 p2 p3 p6 S).bind fun q10 =>
    if q10 = p4 then (some p6) else
    (lp_X1_firstStep_34 p1 p2 p3 p4 S K n (p6 + (1 : Int32))))
set_option maxHeartbeats 4000000 in
set_option maxRecDepth 100000 in
theorem ok_lp_X1_firstStep_34 {X : mm_C} {RR : Nat → Nat → Option Nat} (hR : RRok RR) {p1 : Nat} {p2 : Int32} {p3 : Int32} {p4 : Int64} (t1 : tg p1 = 8) {S : fS} {K : Unit → Option (Int32)} {r : Int32} (hK : ∀ (_ : Unit), K () = some r → mr X 2 mY_X1_firstStep 67 [] [] (MM RR S) (some (.int r), MM RR S)) : ∀ (n : Nat) (p6 : Int32), lp_X1_firstStep_34 p1 p2 p3 p4 S K n p6 = some r → mr X 2 mY_X1_firstStep 34 [(0, .ref 43), (1, .ref p1), (2, .int p2), (3, .int p3), (4, .long p4), (6, .int p6)] [] (MM RR S) (some (.int r), MM RR S) := by
  intro n
  induction n with
  | zero => intro p6 h; exact mm_no h
  | succ n ih =>
    intro p6 h
    unfold lp_X1_firstStep_34 at h
    refine mr_iload (pc' := 36) dX1_firstStep_34 rfl rfl ?_
    refine mr_aload_n (pc' := 37) dX1_firstStep_36 rfl rfl ?_
    refine mr_getI (pc' := 40) (ci := 8) (j := 7) dX1_firstStep_37 rfl rfl t1 (by decide) (by decide) rfl ?_
    by_cases c9 : (S.1 p1 7) ≤ p6
    · rw [if_pos c9] at h
      refine mr_icmp_ge_t (t := 67) dX1_firstStep_40 (by decide) c9 ?_
      exact mr_sub [] trivial rfl (hK () h)
    · rw [if_neg c9] at h
      refine mr_icmp_ge_f (t := 67) (pc' := 43) dX1_firstStep_40 (by decide) rfl c9 ?_
      refine mr_aload_n (pc' := 44) dX1_firstStep_43 rfl rfl ?_
      refine mr_aload_n (pc' := 45) dX1_firstStep_44 rfl rfl ?_
      refine mr_iload_n (pc' := 46) dX1_firstStep_45 rfl rfl ?_
      refine mr_iload_n (pc' := 47) dX1_firstStep_46 rfl rfl ?_
      refine mr_iload (pc' := 49) dX1_firstStep_47 rfl rfl ?_
      obtain ⟨q10, g11, h12⟩ := Option.bind_eq_some_iff.mp h
      refine mr_cv (pc' := 52) (a := 43) (d1 := 1) dX1_firstStep_49 rfl rfl rfl rfl rfl rfl (by decide) rfl (by decide) (ok_X1_gainByStair hR t1 g11) ?_
      show mr X _ _ 52 _ [.long q10] (MM RR S) _
      refine mr_lload (pc' := 54) dX1_firstStep_52 rfl rfl ?_
      by_cases c13 : q10 = p4
      · rw [if_pos c13] at h12
        refine mr_lcmp_ne_f (t := 61) (pc' := 58) dX1_firstStep_54 rfl dX1_firstStep_55 (by decide) rfl (not_not_intro c13) ?_
        refine mr_iload (pc' := 60) dX1_firstStep_58 rfl rfl ?_
        obtain rfl := Option.some.inj h12
        exact mr_ireturn dX1_firstStep_60 rfl
      · rw [if_neg c13] at h12
        refine mr_lcmp_ne_t (t := 61) dX1_firstStep_54 rfl dX1_firstStep_55 (by decide) c13 ?_
        refine mr_iinc (pc' := 64) (x' := (p6 + (1 : Int32))) (lv' := [(6, .int (p6 + (1 : Int32))), (0, .ref 43), (1, .ref p1), (2, .int p2), (3, .int p3), (4, .long p4)]) dX1_firstStep_61 rfl (by decide) rfl rfl rfl ?_
        refine mr_goto (t := 34) dX1_firstStep_64 (by decide) ?_
        exact mr_sub [(0, .ref 43), (1, .ref p1), (2, .int p2), (3, .int p3), (4, .long p4), (6, .int (p6 + (1 : Int32)))] ⟨rfl, rfl, rfl, rfl, rfl, rfl, trivial⟩ rfl (ih _  h12)
def f_X1_firstStep (v1 : Nat) (v2 : Int32) (v3 : Int32) (S : fS) : Option (Int32) :=
  if v2 = (0 : Int32) then (some (-4 : Int32)) else
  ((f_X1_gainOf v2 v3 S).bind fun q2 =>
  (f_X1_gainByStaying v1 v2 v3 S).bind fun q5 =>
  if q5 = q2 then (some (-3 : Int32)) else
  (lp_X1_firstStep_34 v1 v2 v3 q2 S (fun (_ : Unit) => some (-2 : Int32)) FU (0 : Int32)))
set_option maxHeartbeats 4000000 in
set_option maxRecDepth 100000 in
theorem ok_X1_firstStep {X : mm_C} {RR : Nat → Nat → Option Nat} (hR : RRok RR) {v1 : Nat} {v2 : Int32} {v3 : Int32} (t1 : tg v1 = 8) {S : fS} {r : Int32} (h : f_X1_firstStep v1 v2 v3 S = some r) : mr X 2 mY_X1_firstStep 0 (lv_args 0 [.ref 43, .ref v1, .int v2, .int v3]) [] (MM RR S) (some (.int r), MM RR S) := by
  unfold f_X1_firstStep at h
  show mr X _ _ 0 [(0, .ref 43), (1, .ref v1), (2, .int v2), (3, .int v3)] [] (MM RR S) _
  refine mr_iload_n (pc' := 1) dX1_firstStep_0 rfl rfl ?_
  by_cases c1 : v2 = (0 : Int32)
  · rw [if_pos c1] at h
    refine mr_if_ne_f (t := 7) (pc' := 4) dX1_firstStep_1 (by decide) rfl (not_not_intro c1) ?_
    refine mr_bipush (pc' := 6) (v := (-4 : Int32)) dX1_firstStep_4 rfl (by decide) ?_
    obtain rfl := Option.some.inj h
    exact mr_ireturn dX1_firstStep_6 rfl
  · rw [if_neg c1] at h
    refine mr_if_ne_t (t := 7) dX1_firstStep_1 (by decide) c1 ?_
    refine mr_aload_n (pc' := 8) dX1_firstStep_7 rfl rfl ?_
    refine mr_iload_n (pc' := 9) dX1_firstStep_8 rfl rfl ?_
    refine mr_iload_n (pc' := 10) dX1_firstStep_9 rfl rfl ?_
    obtain ⟨q2, g3, h4⟩ := Option.bind_eq_some_iff.mp h
    refine mr_cv (pc' := 13) (a := 43) (d1 := 0) dX1_firstStep_10 rfl rfl rfl rfl rfl rfl (by decide) rfl (by decide) (ok_X1_gainOf hR  g3) ?_
    show mr X _ _ 13 _ [.long q2] (MM RR S) _
    refine mr_lstore (pc' := 15) (lv' := [(4, .long q2), (0, .ref 43), (1, .ref v1), (2, .int v2), (3, .int v3)]) dX1_firstStep_13 rfl (by decide) rfl ?_
    refine mr_aload_n (pc' := 16) dX1_firstStep_15 rfl rfl ?_
    refine mr_aload_n (pc' := 17) dX1_firstStep_16 rfl rfl ?_
    refine mr_iload_n (pc' := 18) dX1_firstStep_17 rfl rfl ?_
    refine mr_iload_n (pc' := 19) dX1_firstStep_18 rfl rfl ?_
    obtain ⟨q5, g6, h7⟩ := Option.bind_eq_some_iff.mp h4
    refine mr_cv (pc' := 22) (a := 43) (d1 := 1) dX1_firstStep_19 rfl rfl rfl rfl rfl rfl (by decide) rfl (by decide) (ok_X1_gainByStaying hR t1 g6) ?_
    show mr X _ _ 22 _ [.long q5] (MM RR S) _
    refine mr_lload (pc' := 24) dX1_firstStep_22 rfl rfl ?_
    by_cases c8 : q5 = q2
    · rw [if_pos c8] at h7
      refine mr_lcmp_ne_f (t := 31) (pc' := 28) dX1_firstStep_24 rfl dX1_firstStep_25 (by decide) rfl (not_not_intro c8) ?_
      refine mr_bipush (pc' := 30) (v := (-3 : Int32)) dX1_firstStep_28 rfl (by decide) ?_
      obtain rfl := Option.some.inj h7
      exact mr_ireturn dX1_firstStep_30 rfl
    · rw [if_neg c8] at h7
      refine mr_lcmp_ne_t (t := 31) dX1_firstStep_24 rfl dX1_firstStep_25 (by decide) c8 ?_
      refine mr_iconst (pc' := 32) (v := (0 : Int32)) dX1_firstStep_31 rfl (by decide) ?_
      refine mr_istore (pc' := 34) (lv' := [(6, .int (0 : Int32)), (4, .long q2), (0, .ref 43), (1, .ref v1), (2, .int v2), (3, .int v3)]) dX1_firstStep_32 rfl (by decide) rfl ?_
      refine mr_sub [(0, .ref 43), (1, .ref v1), (2, .int v2), (3, .int v3), (4, .long q2), (6, .int (0 : Int32))] ⟨rfl, rfl, rfl, rfl, rfl, rfl, trivial⟩ rfl ?_
      refine ok_lp_X1_firstStep_34 hR t1 (fun _ h14 => ?_) FU _  h7
      refine mr_bipush (pc' := 69) (v := (-2 : Int32)) dX1_firstStep_67 rfl (by decide) ?_
      obtain rfl := Option.some.inj h14
      exact mr_ireturn dX1_firstStep_69 rfl
def f_X10_plan (v1 : Int32) (v2 : Int32) (v3 : Int32) (v4 : Int32) (v5 : Int32) (S : fS) : Option (Int64 × fS) :=
  (f_X10_isStanding v1 S).bind fun q1 =>
  if q1 = (0 : Int32) then (some ((-1 : Int64), S)) else
  ((f_X10_isFloor v2 S).bind fun q5 =>
  if q5 = (0 : Int32) then (some ((-1 : Int64), S)) else
  ((f_X10_isFrom v3 (0 : Int32) (120 : Int32) S).bind fun q9 =>
  if q9 = (0 : Int32) then (some ((-1 : Int64), S)) else
  ((f_X10_isFrom v5 (0 : Int32) (2 : Int32) S).bind fun q13 =>
  if q13 = (0 : Int32) then (some ((-1 : Int64), S)) else
  ((gI S 12 8 v1).bind fun a17 =>
  (f_X1_measure 4 v2 v3 v4 S).bind fun q20 =>
  (f_X1_gainOf v3 a17 q20).bind fun q23 =>
  if (0 : Int64) ≤ q23 then (if v5 = (2 : Int32) then ((f_X1_firstStep 4 v3 a17 q20).bind fun q34 =>
  some ((Int32.toInt64 q34), q20)) else
  ((gL q20 16 8 v1).bind fun a28 =>
  (f_X10_lowest (a28 + q23) (232792560 : Int64) v5 q20).bind fun q31 =>
  some (q31, q20))) else
  (some ((-2 : Int64), q20))))))
set_option maxHeartbeats 4000000 in
set_option maxRecDepth 100000 in
theorem ok_X10_plan {X : mm_C} {RR : Nat → Nat → Option Nat} (hR : RRok RR) {v1 : Int32} {v2 : Int32} {v3 : Int32} {v4 : Int32} {v5 : Int32}  {S : fS} {r : Int64 × fS} (h : f_X10_plan v1 v2 v3 v4 v5 S = some r) : mr X 4 mY_X10_plan 0 (lv_args 0 [.ref 0, .int v1, .int v2, .int v3, .int v4, .int v5]) [] (MM RR S) (some (.long r.1), MM RR r.2) := by
  unfold f_X10_plan at h
  show mr X _ _ 0 [(0, .ref 0), (1, .int v1), (2, .int v2), (3, .int v3), (4, .int v4), (5, .int v5)] [] (MM RR S) _
  refine mr_aload_n (pc' := 1) dX10_plan_0 rfl rfl ?_
  refine mr_iload_n (pc' := 2) dX10_plan_1 rfl rfl ?_
  obtain ⟨q1, g2, h3⟩ := Option.bind_eq_some_iff.mp h
  refine mr_cv (pc' := 5) (a := 0) (d1 := 2) dX10_plan_2 rfl rfl rfl rfl rfl rfl (by decide) rfl (by decide) (ok_X10_isStanding hR  g2) ?_
  show mr X _ _ 5 _ [.int q1] (MM RR S) _
  by_cases c4 : q1 = (0 : Int32)
  · rw [if_pos c4] at h3
    refine mr_if_eq_t (t := 16) dX10_plan_5 (by decide) c4 ?_
    refine mr_ldc2 (pc' := 19) (v := (-1 : Int64)) dX10_plan_16 rfl rfl ?_
    obtain rfl := Option.some.inj h3
    exact mr_lreturn dX10_plan_19 rfl
  · rw [if_neg c4] at h3
    refine mr_if_eq_f (t := 16) (pc' := 8) dX10_plan_5 (by decide) rfl c4 ?_
    refine mr_aload_n (pc' := 9) dX10_plan_8 rfl rfl ?_
    refine mr_iload_n (pc' := 10) dX10_plan_9 rfl rfl ?_
    obtain ⟨q5, g6, h7⟩ := Option.bind_eq_some_iff.mp h3
    refine mr_cv (pc' := 13) (a := 0) (d1 := 1) dX10_plan_10 rfl rfl rfl rfl rfl rfl (by decide) rfl (by decide) (ok_X10_isFloor hR  g6) ?_
    show mr X _ _ 13 _ [.int q5] (MM RR S) _
    by_cases c8 : q5 = (0 : Int32)
    · rw [if_pos c8] at h7
      refine mr_if_ne_f (t := 20) (pc' := 16) dX10_plan_13 (by decide) rfl (not_not_intro c8) ?_
      refine mr_ldc2 (pc' := 19) (v := (-1 : Int64)) dX10_plan_16 rfl rfl ?_
      obtain rfl := Option.some.inj h7
      exact mr_lreturn dX10_plan_19 rfl
    · rw [if_neg c8] at h7
      refine mr_if_ne_t (t := 20) dX10_plan_13 (by decide) c8 ?_
      refine mr_iload_n (pc' := 21) dX10_plan_20 rfl rfl ?_
      refine mr_iconst (pc' := 22) (v := (0 : Int32)) dX10_plan_21 rfl (by decide) ?_
      refine mr_bipush (pc' := 24) (v := (120 : Int32)) dX10_plan_22 rfl (by decide) ?_
      obtain ⟨q9, g10, h11⟩ := Option.bind_eq_some_iff.mp h7
      refine mr_cs (pc' := 27) (d1 := 0) dX10_plan_24 rfl rfl rfl rfl (by decide) (Nat.le_of_ble_eq_true rfl) rfl rfl rfl (by decide) (ok_X10_isFrom hR  g10) ?_
      show mr X _ _ 27 _ [.int q9] (MM RR S) _
      by_cases c12 : q9 = (0 : Int32)
      · rw [if_pos c12] at h11
        refine mr_if_eq_t (t := 40) dX10_plan_27 (by decide) c12 ?_
        refine mr_ldc2 (pc' := 43) (v := (-1 : Int64)) dX10_plan_40 rfl rfl ?_
        obtain rfl := Option.some.inj h11
        exact mr_lreturn dX10_plan_43 rfl
      · rw [if_neg c12] at h11
        refine mr_if_eq_f (t := 40) (pc' := 30) dX10_plan_27 (by decide) rfl c12 ?_
        refine mr_iload (pc' := 32) dX10_plan_30 rfl rfl ?_
        refine mr_iconst (pc' := 33) (v := (0 : Int32)) dX10_plan_32 rfl (by decide) ?_
        refine mr_iconst (pc' := 34) (v := (2 : Int32)) dX10_plan_33 rfl (by decide) ?_
        obtain ⟨q13, g14, h15⟩ := Option.bind_eq_some_iff.mp h11
        refine mr_cs (pc' := 37) (d1 := 0) dX10_plan_34 rfl rfl rfl rfl (by decide) (Nat.le_of_ble_eq_true rfl) rfl rfl rfl (by decide) (ok_X10_isFrom hR  g14) ?_
        show mr X _ _ 37 _ [.int q13] (MM RR S) _
        by_cases c16 : q13 = (0 : Int32)
        · rw [if_pos c16] at h15
          refine mr_if_ne_f (t := 44) (pc' := 40) dX10_plan_37 (by decide) rfl (not_not_intro c16) ?_
          refine mr_ldc2 (pc' := 43) (v := (-1 : Int64)) dX10_plan_40 rfl rfl ?_
          obtain rfl := Option.some.inj h15
          exact mr_lreturn dX10_plan_43 rfl
        · rw [if_neg c16] at h15
          refine mr_if_ne_t (t := 44) dX10_plan_37 (by decide) c16 ?_
          refine mr_aload_n (pc' := 45) dX10_plan_44 rfl rfl ?_
          refine mr_getR (pc' := 48) (ci := 10) (j := 1) (b := 3) hR dX10_plan_45 rfl rfl rfl (by decide) (by decide) (by decide) rfl rfl ?_
          refine mr_getR (pc' := 51) (ci := 6) (j := 1) (b := 11) hR dX10_plan_48 rfl rfl rfl (by decide) (by decide) (by decide) rfl rfl ?_
          refine mr_getR (pc' := 54) (ci := 0) (j := 0) (b := 12) hR dX10_plan_51 rfl rfl rfl (by decide) (by decide) (by decide) rfl rfl ?_
          refine mr_iload_n (pc' := 55) dX10_plan_54 rfl rfl ?_
          obtain ⟨a17, g18, h19⟩ := Option.bind_eq_some_iff.mp h15
          refine mr_iald (pc' := 56) dX10_plan_55 rfl rfl rfl g18 ?_
          refine mr_istore (pc' := 58) (lv' := [(6, .int a17), (0, .ref 0), (1, .int v1), (2, .int v2), (3, .int v3), (4, .int v4), (5, .int v5)]) dX10_plan_56 rfl (by decide) rfl ?_
          refine mr_aload_n (pc' := 59) dX10_plan_58 rfl rfl ?_
          refine mr_getR (pc' := 62) (ci := 10) (j := 8) (b := 43) hR dX10_plan_59 rfl rfl rfl (by decide) (by decide) (by decide) rfl rfl ?_
          refine mr_aload_n (pc' := 63) dX10_plan_62 rfl rfl ?_
          refine mr_getR (pc' := 66) (ci := 10) (j := 1) (b := 3) hR dX10_plan_63 rfl rfl rfl (by decide) (by decide) (by decide) rfl rfl ?_
          refine mr_getR (pc' := 69) (ci := 6) (j := 0) (b := 4) hR dX10_plan_66 rfl rfl rfl (by decide) (by decide) (by decide) rfl rfl ?_
          refine mr_iload_n (pc' := 70) dX10_plan_69 rfl rfl ?_
          refine mr_iload_n (pc' := 71) dX10_plan_70 rfl rfl ?_
          refine mr_iload (pc' := 73) dX10_plan_71 rfl rfl ?_
          obtain ⟨q20, g21, h22⟩ := Option.bind_eq_some_iff.mp h19
          refine mr_cv (pc' := 76) (a := 43) (d1 := 3) dX10_plan_73 rfl rfl rfl rfl rfl rfl (by decide) rfl (by decide) (ok_X1_measure hR rfl g21) ?_
          show mr X _ _ 76 _ [] (MM RR q20) _
          refine mr_aload_n (pc' := 77) dX10_plan_76 rfl rfl ?_
          refine mr_getR (pc' := 80) (ci := 10) (j := 8) (b := 43) hR dX10_plan_77 rfl rfl rfl (by decide) (by decide) (by decide) rfl rfl ?_
          refine mr_iload_n (pc' := 81) dX10_plan_80 rfl rfl ?_
          refine mr_iload (pc' := 83) dX10_plan_81 rfl rfl ?_
          obtain ⟨q23, g24, h25⟩ := Option.bind_eq_some_iff.mp h22
          refine mr_cv (pc' := 86) (a := 43) (d1 := 0) dX10_plan_83 rfl rfl rfl rfl rfl rfl (by decide) rfl (by decide) (ok_X1_gainOf hR  g24) ?_
          show mr X _ _ 86 _ [.long q23] (MM RR q20) _
          refine mr_lstore (pc' := 88) (lv' := [(7, .long q23), (6, .int a17), (0, .ref 0), (1, .int v1), (2, .int v2), (3, .int v3), (4, .int v4), (5, .int v5)]) dX10_plan_86 rfl (by decide) rfl ?_
          refine mr_lload (pc' := 90) dX10_plan_88 rfl rfl ?_
          refine mr_lconst (pc' := 91) (v := (0 : Int64)) dX10_plan_90 rfl (by decide) ?_
          by_cases c26 : (0 : Int64) ≤ q23
          · rw [if_pos c26] at h25
            refine mr_lcmp_ge_t (t := 99) dX10_plan_91 rfl dX10_plan_92 (by decide) c26 ?_
            refine mr_iload (pc' := 101) dX10_plan_99 rfl rfl ?_
            refine mr_iconst (pc' := 102) (v := (2 : Int32)) dX10_plan_101 rfl (by decide) ?_
            by_cases c27 : v5 = (2 : Int32)
            · rw [if_pos c27] at h25
              refine mr_icmp_ne_f (t := 124) (pc' := 105) dX10_plan_102 (by decide) rfl (not_not_intro c27) ?_
              refine mr_aload_n (pc' := 106) dX10_plan_105 rfl rfl ?_
              refine mr_getR (pc' := 109) (ci := 10) (j := 8) (b := 43) hR dX10_plan_106 rfl rfl rfl (by decide) (by decide) (by decide) rfl rfl ?_
              refine mr_aload_n (pc' := 110) dX10_plan_109 rfl rfl ?_
              refine mr_getR (pc' := 113) (ci := 10) (j := 1) (b := 3) hR dX10_plan_110 rfl rfl rfl (by decide) (by decide) (by decide) rfl rfl ?_
              refine mr_getR (pc' := 116) (ci := 6) (j := 0) (b := 4) hR dX10_plan_113 rfl rfl rfl (by decide) (by decide) (by decide) rfl rfl ?_
              refine mr_iload_n (pc' := 117) dX10_plan_116 rfl rfl ?_
              refine mr_iload (pc' := 119) dX10_plan_117 rfl rfl ?_
              obtain ⟨q34, g35, h36⟩ := Option.bind_eq_some_iff.mp h25
              refine mr_cv (pc' := 122) (a := 43) (d1 := 2) dX10_plan_119 rfl rfl rfl rfl rfl rfl (by decide) rfl (by decide) (ok_X1_firstStep hR rfl g35) ?_
              show mr X _ _ 122 _ [.int q34] (MM RR q20) _
              refine mr_i2l (pc' := 123) dX10_plan_122 rfl ?_
              obtain rfl := Option.some.inj h36
              exact mr_lreturn dX10_plan_123 rfl
            · rw [if_neg c27] at h25
              refine mr_icmp_ne_t (t := 124) dX10_plan_102 (by decide) c27 ?_
              refine mr_aload_n (pc' := 125) dX10_plan_124 rfl rfl ?_
              refine mr_getR (pc' := 128) (ci := 10) (j := 1) (b := 3) hR dX10_plan_125 rfl rfl rfl (by decide) (by decide) (by decide) rfl rfl ?_
              refine mr_getR (pc' := 131) (ci := 6) (j := 1) (b := 11) hR dX10_plan_128 rfl rfl rfl (by decide) (by decide) (by decide) rfl rfl ?_
              refine mr_getR (pc' := 134) (ci := 0) (j := 4) (b := 16) hR dX10_plan_131 rfl rfl rfl (by decide) (by decide) (by decide) rfl rfl ?_
              refine mr_iload_n (pc' := 135) dX10_plan_134 rfl rfl ?_
              obtain ⟨a28, g29, h30⟩ := Option.bind_eq_some_iff.mp h25
              refine mr_lald (pc' := 136) dX10_plan_135 rfl rfl rfl g29 ?_
              refine mr_lload (pc' := 138) dX10_plan_136 rfl rfl ?_
              refine mr_ladd (pc' := 139) dX10_plan_138 rfl ?_
              refine mr_ldc2 (pc' := 142) (v := (232792560 : Int64)) dX10_plan_139 rfl rfl ?_
              refine mr_iload (pc' := 144) dX10_plan_142 rfl rfl ?_
              obtain ⟨q31, g32, h33⟩ := Option.bind_eq_some_iff.mp h30
              refine mr_cs (pc' := 147) (d1 := 2) dX10_plan_144 rfl rfl rfl rfl (by decide) (Nat.le_of_ble_eq_true rfl) rfl rfl rfl (by decide) (ok_X10_lowest hR  g32) ?_
              show mr X _ _ 147 _ [.long q31] (MM RR q20) _
              obtain rfl := Option.some.inj h33
              exact mr_lreturn dX10_plan_147 rfl
          · rw [if_neg c26] at h25
            refine mr_lcmp_ge_f (t := 99) (pc' := 95) dX10_plan_91 rfl dX10_plan_92 (by decide) rfl c26 ?_
            refine mr_ldc2 (pc' := 98) (v := (-2 : Int64)) dX10_plan_95 rfl rfl ?_
            obtain rfl := Option.some.inj h25
            exact mr_lreturn dX10_plan_98 rfl
def f_X10_even (v1 : Int32) (v2 : Int32) (v3 : Int32) (v4 : Int32) (v5 : Int32) (S : fS) : Option (Int64) :=
  (f_X10_isThing v1 S).bind fun q1 =>
  if q1 = (0 : Int32) then (some (-1 : Int64)) else
  ((f_X10_isThing v2 S).bind fun q5 =>
  if q5 = (0 : Int32) then (some (-1 : Int64)) else
  (if v1 = v2 then (some (-1 : Int64)) else
  ((f_X10_isFloor v3 S).bind fun q10 =>
  if q10 = (0 : Int32) then (some (-1 : Int64)) else
  ((f_X10_isFloor v4 S).bind fun q14 =>
  if q14 = (0 : Int32) then (some (-1 : Int64)) else
  ((f_X10_isPart v5 S).bind fun q18 =>
  if q18 = (0 : Int32) then (some (-1 : Int64)) else
  ((gL S 16 8 v2).bind fun a22 =>
  (gL S 16 8 v1).bind fun a25 =>
  (gL S 5 10 v3).bind fun a28 =>
  (gL S 5 10 v4).bind fun a31 =>
  if (a22 - a25) = (0 : Int64) then ((f_X10_lowest (0 : Int64) (1 : Int64) v5 S).bind fun q79 =>
  some q79) else
  (if (a28 - a31) = (0 : Int64) then (some (-2 : Int64)) else
  (if (0 : Int64) ≤ (a22 - a25) then (if (0 : Int64) ≤ (a28 - a31) then (if (0 : Int32) = (0 : Int32) then ((f_J9_abs_067f4 (a22 - a25) S).bind fun q39 =>
  (f_J9_abs_067f4 (a28 - a31) S).bind fun q42 =>
  (f_X10_lowest q39 q42 v5 S).bind fun q45 =>
  some q45) else
  (some (-2 : Int64))) else
  (if (0 : Int32) = (1 : Int32) then ((f_J9_abs_067f4 (a22 - a25) S).bind fun q49 =>
  (f_J9_abs_067f4 (a28 - a31) S).bind fun q52 =>
  (f_X10_lowest q49 q52 v5 S).bind fun q55 =>
  some q55) else
  (some (-2 : Int64)))) else
  (if (0 : Int64) ≤ (a28 - a31) then (if (1 : Int32) = (0 : Int32) then ((f_J9_abs_067f4 (a22 - a25) S).bind fun q60 =>
  (f_J9_abs_067f4 (a28 - a31) S).bind fun q63 =>
  (f_X10_lowest q60 q63 v5 S).bind fun q66 =>
  some q66) else
  (some (-2 : Int64))) else
  (if (1 : Int32) = (1 : Int32) then ((f_J9_abs_067f4 (a22 - a25) S).bind fun q70 =>
  (f_J9_abs_067f4 (a28 - a31) S).bind fun q73 =>
  (f_X10_lowest q70 q73 v5 S).bind fun q76 =>
  some q76) else
  (some (-2 : Int64))))))))))))
set_option maxHeartbeats 4000000 in
set_option maxRecDepth 100000 in
theorem ok_X10_even {X : mm_C} {RR : Nat → Nat → Option Nat} (hR : RRok RR) {v1 : Int32} {v2 : Int32} {v3 : Int32} {v4 : Int32} {v5 : Int32}  {S : fS} {r : Int64} (h : f_X10_even v1 v2 v3 v4 v5 S = some r) : mr X 3 mY_X10_even 0 (lv_args 0 [.ref 0, .int v1, .int v2, .int v3, .int v4, .int v5]) [] (MM RR S) (some (.long r), MM RR S) := by
  unfold f_X10_even at h
  show mr X _ _ 0 [(0, .ref 0), (1, .int v1), (2, .int v2), (3, .int v3), (4, .int v4), (5, .int v5)] [] (MM RR S) _
  refine mr_aload_n (pc' := 1) dX10_even_0 rfl rfl ?_
  refine mr_iload_n (pc' := 2) dX10_even_1 rfl rfl ?_
  obtain ⟨q1, g2, h3⟩ := Option.bind_eq_some_iff.mp h
  refine mr_cv (pc' := 5) (a := 0) (d1 := 1) dX10_even_2 rfl rfl rfl rfl rfl rfl (by decide) rfl (by decide) (ok_X10_isThing hR  g2) ?_
  show mr X _ _ 5 _ [.int q1] (MM RR S) _
  by_cases c4 : q1 = (0 : Int32)
  · rw [if_pos c4] at h3
    refine mr_if_eq_t (t := 21) dX10_even_5 (by decide) c4 ?_
    refine mr_ldc2 (pc' := 24) (v := (-1 : Int64)) dX10_even_21 rfl rfl ?_
    obtain rfl := Option.some.inj h3
    exact mr_lreturn dX10_even_24 rfl
  · rw [if_neg c4] at h3
    refine mr_if_eq_f (t := 21) (pc' := 8) dX10_even_5 (by decide) rfl c4 ?_
    refine mr_aload_n (pc' := 9) dX10_even_8 rfl rfl ?_
    refine mr_iload_n (pc' := 10) dX10_even_9 rfl rfl ?_
    obtain ⟨q5, g6, h7⟩ := Option.bind_eq_some_iff.mp h3
    refine mr_cv (pc' := 13) (a := 0) (d1 := 1) dX10_even_10 rfl rfl rfl rfl rfl rfl (by decide) rfl (by decide) (ok_X10_isThing hR  g6) ?_
    show mr X _ _ 13 _ [.int q5] (MM RR S) _
    by_cases c8 : q5 = (0 : Int32)
    · rw [if_pos c8] at h7
      refine mr_if_eq_t (t := 21) dX10_even_13 (by decide) c8 ?_
      refine mr_ldc2 (pc' := 24) (v := (-1 : Int64)) dX10_even_21 rfl rfl ?_
      obtain rfl := Option.some.inj h7
      exact mr_lreturn dX10_even_24 rfl
    · rw [if_neg c8] at h7
      refine mr_if_eq_f (t := 21) (pc' := 16) dX10_even_13 (by decide) rfl c8 ?_
      refine mr_iload_n (pc' := 17) dX10_even_16 rfl rfl ?_
      refine mr_iload_n (pc' := 18) dX10_even_17 rfl rfl ?_
      by_cases c9 : v1 = v2
      · rw [if_pos c9] at h7
        refine mr_icmp_ne_f (t := 25) (pc' := 21) dX10_even_18 (by decide) rfl (not_not_intro c9) ?_
        refine mr_ldc2 (pc' := 24) (v := (-1 : Int64)) dX10_even_21 rfl rfl ?_
        obtain rfl := Option.some.inj h7
        exact mr_lreturn dX10_even_24 rfl
      · rw [if_neg c9] at h7
        refine mr_icmp_ne_t (t := 25) dX10_even_18 (by decide) c9 ?_
        refine mr_aload_n (pc' := 26) dX10_even_25 rfl rfl ?_
        refine mr_iload_n (pc' := 27) dX10_even_26 rfl rfl ?_
        obtain ⟨q10, g11, h12⟩ := Option.bind_eq_some_iff.mp h7
        refine mr_cv (pc' := 30) (a := 0) (d1 := 1) dX10_even_27 rfl rfl rfl rfl rfl rfl (by decide) rfl (by decide) (ok_X10_isFloor hR  g11) ?_
        show mr X _ _ 30 _ [.int q10] (MM RR S) _
        by_cases c13 : q10 = (0 : Int32)
        · rw [if_pos c13] at h12
          refine mr_if_eq_t (t := 50) dX10_even_30 (by decide) c13 ?_
          refine mr_ldc2 (pc' := 53) (v := (-1 : Int64)) dX10_even_50 rfl rfl ?_
          obtain rfl := Option.some.inj h12
          exact mr_lreturn dX10_even_53 rfl
        · rw [if_neg c13] at h12
          refine mr_if_eq_f (t := 50) (pc' := 33) dX10_even_30 (by decide) rfl c13 ?_
          refine mr_aload_n (pc' := 34) dX10_even_33 rfl rfl ?_
          refine mr_iload (pc' := 36) dX10_even_34 rfl rfl ?_
          obtain ⟨q14, g15, h16⟩ := Option.bind_eq_some_iff.mp h12
          refine mr_cv (pc' := 39) (a := 0) (d1 := 1) dX10_even_36 rfl rfl rfl rfl rfl rfl (by decide) rfl (by decide) (ok_X10_isFloor hR  g15) ?_
          show mr X _ _ 39 _ [.int q14] (MM RR S) _
          by_cases c17 : q14 = (0 : Int32)
          · rw [if_pos c17] at h16
            refine mr_if_eq_t (t := 50) dX10_even_39 (by decide) c17 ?_
            refine mr_ldc2 (pc' := 53) (v := (-1 : Int64)) dX10_even_50 rfl rfl ?_
            obtain rfl := Option.some.inj h16
            exact mr_lreturn dX10_even_53 rfl
          · rw [if_neg c17] at h16
            refine mr_if_eq_f (t := 50) (pc' := 42) dX10_even_39 (by decide) rfl c17 ?_
            refine mr_iload (pc' := 44) dX10_even_42 rfl rfl ?_
            obtain ⟨q18, g19, h20⟩ := Option.bind_eq_some_iff.mp h16
            refine mr_cs (pc' := 47) (d1 := 1) dX10_even_44 rfl rfl rfl rfl (by decide) (Nat.le_of_ble_eq_true rfl) rfl rfl rfl (by decide) (ok_X10_isPart hR  g19) ?_
            show mr X _ _ 47 _ [.int q18] (MM RR S) _
            by_cases c21 : q18 = (0 : Int32)
            · rw [if_pos c21] at h20
              refine mr_if_ne_f (t := 54) (pc' := 50) dX10_even_47 (by decide) rfl (not_not_intro c21) ?_
              refine mr_ldc2 (pc' := 53) (v := (-1 : Int64)) dX10_even_50 rfl rfl ?_
              obtain rfl := Option.some.inj h20
              exact mr_lreturn dX10_even_53 rfl
            · rw [if_neg c21] at h20
              refine mr_if_ne_t (t := 54) dX10_even_47 (by decide) c21 ?_
              refine mr_aload_n (pc' := 55) dX10_even_54 rfl rfl ?_
              refine mr_getR (pc' := 58) (ci := 10) (j := 1) (b := 3) hR dX10_even_55 rfl rfl rfl (by decide) (by decide) (by decide) rfl rfl ?_
              refine mr_getR (pc' := 61) (ci := 6) (j := 1) (b := 11) hR dX10_even_58 rfl rfl rfl (by decide) (by decide) (by decide) rfl rfl ?_
              refine mr_getR (pc' := 64) (ci := 0) (j := 4) (b := 16) hR dX10_even_61 rfl rfl rfl (by decide) (by decide) (by decide) rfl rfl ?_
              refine mr_iload_n (pc' := 65) dX10_even_64 rfl rfl ?_
              obtain ⟨a22, g23, h24⟩ := Option.bind_eq_some_iff.mp h20
              refine mr_lald (pc' := 66) dX10_even_65 rfl rfl rfl g23 ?_
              refine mr_aload_n (pc' := 67) dX10_even_66 rfl rfl ?_
              refine mr_getR (pc' := 70) (ci := 10) (j := 1) (b := 3) hR dX10_even_67 rfl rfl rfl (by decide) (by decide) (by decide) rfl rfl ?_
              refine mr_getR (pc' := 73) (ci := 6) (j := 1) (b := 11) hR dX10_even_70 rfl rfl rfl (by decide) (by decide) (by decide) rfl rfl ?_
              refine mr_getR (pc' := 76) (ci := 0) (j := 4) (b := 16) hR dX10_even_73 rfl rfl rfl (by decide) (by decide) (by decide) rfl rfl ?_
              refine mr_iload_n (pc' := 77) dX10_even_76 rfl rfl ?_
              obtain ⟨a25, g26, h27⟩ := Option.bind_eq_some_iff.mp h24
              refine mr_lald (pc' := 78) dX10_even_77 rfl rfl rfl g26 ?_
              refine mr_lsub (pc' := 79) dX10_even_78 rfl ?_
              refine mr_lstore (pc' := 81) (lv' := [(6, .long (a22 - a25)), (0, .ref 0), (1, .int v1), (2, .int v2), (3, .int v3), (4, .int v4), (5, .int v5)]) dX10_even_79 rfl (by decide) rfl ?_
              refine mr_aload_n (pc' := 82) dX10_even_81 rfl rfl ?_
              refine mr_getR (pc' := 85) (ci := 10) (j := 1) (b := 3) hR dX10_even_82 rfl rfl rfl (by decide) (by decide) (by decide) rfl rfl ?_
              refine mr_getR (pc' := 88) (ci := 6) (j := 0) (b := 4) hR dX10_even_85 rfl rfl rfl (by decide) (by decide) (by decide) rfl rfl ?_
              refine mr_getR (pc' := 91) (ci := 8) (j := 0) (b := 5) hR dX10_even_88 rfl rfl rfl (by decide) (by decide) (by decide) rfl rfl ?_
              refine mr_iload_n (pc' := 92) dX10_even_91 rfl rfl ?_
              obtain ⟨a28, g29, h30⟩ := Option.bind_eq_some_iff.mp h27
              refine mr_lald (pc' := 93) dX10_even_92 rfl rfl rfl g29 ?_
              refine mr_aload_n (pc' := 94) dX10_even_93 rfl rfl ?_
              refine mr_getR (pc' := 97) (ci := 10) (j := 1) (b := 3) hR dX10_even_94 rfl rfl rfl (by decide) (by decide) (by decide) rfl rfl ?_
              refine mr_getR (pc' := 100) (ci := 6) (j := 0) (b := 4) hR dX10_even_97 rfl rfl rfl (by decide) (by decide) (by decide) rfl rfl ?_
              refine mr_getR (pc' := 103) (ci := 8) (j := 0) (b := 5) hR dX10_even_100 rfl rfl rfl (by decide) (by decide) (by decide) rfl rfl ?_
              refine mr_iload (pc' := 105) dX10_even_103 rfl rfl ?_
              obtain ⟨a31, g32, h33⟩ := Option.bind_eq_some_iff.mp h30
              refine mr_lald (pc' := 106) dX10_even_105 rfl rfl rfl g32 ?_
              refine mr_lsub (pc' := 107) dX10_even_106 rfl ?_
              refine mr_lstore (pc' := 109) (lv' := [(8, .long (a28 - a31)), (6, .long (a22 - a25)), (0, .ref 0), (1, .int v1), (2, .int v2), (3, .int v3), (4, .int v4), (5, .int v5)]) dX10_even_107 rfl (by decide) rfl ?_
              refine mr_lload (pc' := 111) dX10_even_109 rfl rfl ?_
              refine mr_lconst (pc' := 112) (v := (0 : Int64)) dX10_even_111 rfl (by decide) ?_
              by_cases c34 : (a22 - a25) = (0 : Int64)
              · rw [if_pos c34] at h33
                refine mr_lcmp_ne_f (t := 124) (pc' := 116) dX10_even_112 rfl dX10_even_113 (by decide) rfl (not_not_intro c34) ?_
                refine mr_lconst (pc' := 117) (v := (0 : Int64)) dX10_even_116 rfl (by decide) ?_
                refine mr_lconst (pc' := 118) (v := (1 : Int64)) dX10_even_117 rfl (by decide) ?_
                refine mr_iload (pc' := 120) dX10_even_118 rfl rfl ?_
                obtain ⟨q79, g80, h81⟩ := Option.bind_eq_some_iff.mp h33
                refine mr_cs (pc' := 123) (d1 := 2) dX10_even_120 rfl rfl rfl rfl (by decide) (Nat.le_of_ble_eq_true rfl) rfl rfl rfl (by decide) (ok_X10_lowest hR  g80) ?_
                show mr X _ _ 123 _ [.long q79] (MM RR S) _
                obtain rfl := Option.some.inj h81
                exact mr_lreturn dX10_even_123 rfl
              · rw [if_neg c34] at h33
                refine mr_lcmp_ne_t (t := 124) dX10_even_112 rfl dX10_even_113 (by decide) c34 ?_
                refine mr_lload (pc' := 126) dX10_even_124 rfl rfl ?_
                refine mr_lconst (pc' := 127) (v := (0 : Int64)) dX10_even_126 rfl (by decide) ?_
                by_cases c35 : (a28 - a31) = (0 : Int64)
                · rw [if_pos c35] at h33
                  refine mr_lcmp_eq_t (t := 158) dX10_even_127 rfl dX10_even_128 (by decide) c35 ?_
                  refine mr_ldc2 (pc' := 161) (v := (-2 : Int64)) dX10_even_158 rfl rfl ?_
                  obtain rfl := Option.some.inj h33
                  exact mr_lreturn dX10_even_161 rfl
                · rw [if_neg c35] at h33
                  refine mr_lcmp_eq_f (t := 158) (pc' := 131) dX10_even_127 rfl dX10_even_128 (by decide) rfl c35 ?_
                  refine mr_lload (pc' := 133) dX10_even_131 rfl rfl ?_
                  refine mr_lconst (pc' := 134) (v := (0 : Int64)) dX10_even_133 rfl (by decide) ?_
                  by_cases c36 : (0 : Int64) ≤ (a22 - a25)
                  · rw [if_pos c36] at h33
                    refine mr_lcmp_ge_t (t := 142) dX10_even_134 rfl dX10_even_135 (by decide) c36 ?_
                    refine mr_iconst (pc' := 143) (v := (0 : Int32)) dX10_even_142 rfl (by decide) ?_
                    refine mr_lload (pc' := 145) dX10_even_143 rfl rfl ?_
                    refine mr_lconst (pc' := 146) (v := (0 : Int64)) dX10_even_145 rfl (by decide) ?_
                    by_cases c37 : (0 : Int64) ≤ (a28 - a31)
                    · rw [if_pos c37] at h33
                      refine mr_lcmp_ge_t (t := 154) dX10_even_146 rfl dX10_even_147 (by decide) c37 ?_
                      refine mr_iconst (pc' := 155) (v := (0 : Int32)) dX10_even_154 rfl (by decide) ?_
                      by_cases c38 : (0 : Int32) = (0 : Int32)
                      · rw [if_pos c38] at h33
                        refine mr_icmp_eq_t (t := 162) dX10_even_155 (by decide) c38 ?_
                        refine mr_lload (pc' := 164) dX10_even_162 rfl rfl ?_
                        obtain ⟨q39, g40, h41⟩ := Option.bind_eq_some_iff.mp h33
                        refine mr_cs (pc' := 167) (d1 := 0) dX10_even_164 rfl rfl rfl rfl (by decide) (Nat.le_of_ble_eq_true rfl) rfl rfl rfl (by decide) (ok_J9_abs_067f4 hR  g40) ?_
                        show mr X _ _ 167 _ [.long q39] (MM RR S) _
                        refine mr_lload (pc' := 169) dX10_even_167 rfl rfl ?_
                        obtain ⟨q42, g43, h44⟩ := Option.bind_eq_some_iff.mp h41
                        refine mr_cs (pc' := 172) (d1 := 0) dX10_even_169 rfl rfl rfl rfl (by decide) (Nat.le_of_ble_eq_true rfl) rfl rfl rfl (by decide) (ok_J9_abs_067f4 hR  g43) ?_
                        show mr X _ _ 172 _ [.long q42, .long q39] (MM RR S) _
                        refine mr_iload (pc' := 174) dX10_even_172 rfl rfl ?_
                        obtain ⟨q45, g46, h47⟩ := Option.bind_eq_some_iff.mp h44
                        refine mr_cs (pc' := 177) (d1 := 2) dX10_even_174 rfl rfl rfl rfl (by decide) (Nat.le_of_ble_eq_true rfl) rfl rfl rfl (by decide) (ok_X10_lowest hR  g46) ?_
                        show mr X _ _ 177 _ [.long q45] (MM RR S) _
                        obtain rfl := Option.some.inj h47
                        exact mr_lreturn dX10_even_177 rfl
                      · rw [if_neg c38] at h33
                        refine mr_icmp_eq_f (t := 162) (pc' := 158) dX10_even_155 (by decide) rfl c38 ?_
                        refine mr_ldc2 (pc' := 161) (v := (-2 : Int64)) dX10_even_158 rfl rfl ?_
                        obtain rfl := Option.some.inj h33
                        exact mr_lreturn dX10_even_161 rfl
                    · rw [if_neg c37] at h33
                      refine mr_lcmp_ge_f (t := 154) (pc' := 150) dX10_even_146 rfl dX10_even_147 (by decide) rfl c37 ?_
                      refine mr_iconst (pc' := 151) (v := (1 : Int32)) dX10_even_150 rfl (by decide) ?_
                      refine mr_goto (t := 155) dX10_even_151 (by decide) ?_
                      by_cases c48 : (0 : Int32) = (1 : Int32)
                      · rw [if_pos c48] at h33
                        refine mr_icmp_eq_t (t := 162) dX10_even_155 (by decide) c48 ?_
                        refine mr_lload (pc' := 164) dX10_even_162 rfl rfl ?_
                        obtain ⟨q49, g50, h51⟩ := Option.bind_eq_some_iff.mp h33
                        refine mr_cs (pc' := 167) (d1 := 0) dX10_even_164 rfl rfl rfl rfl (by decide) (Nat.le_of_ble_eq_true rfl) rfl rfl rfl (by decide) (ok_J9_abs_067f4 hR  g50) ?_
                        show mr X _ _ 167 _ [.long q49] (MM RR S) _
                        refine mr_lload (pc' := 169) dX10_even_167 rfl rfl ?_
                        obtain ⟨q52, g53, h54⟩ := Option.bind_eq_some_iff.mp h51
                        refine mr_cs (pc' := 172) (d1 := 0) dX10_even_169 rfl rfl rfl rfl (by decide) (Nat.le_of_ble_eq_true rfl) rfl rfl rfl (by decide) (ok_J9_abs_067f4 hR  g53) ?_
                        show mr X _ _ 172 _ [.long q52, .long q49] (MM RR S) _
                        refine mr_iload (pc' := 174) dX10_even_172 rfl rfl ?_
                        obtain ⟨q55, g56, h57⟩ := Option.bind_eq_some_iff.mp h54
                        refine mr_cs (pc' := 177) (d1 := 2) dX10_even_174 rfl rfl rfl rfl (by decide) (Nat.le_of_ble_eq_true rfl) rfl rfl rfl (by decide) (ok_X10_lowest hR  g56) ?_
                        show mr X _ _ 177 _ [.long q55] (MM RR S) _
                        obtain rfl := Option.some.inj h57
                        exact mr_lreturn dX10_even_177 rfl
                      · rw [if_neg c48] at h33
                        refine mr_icmp_eq_f (t := 162) (pc' := 158) dX10_even_155 (by decide) rfl c48 ?_
                        refine mr_ldc2 (pc' := 161) (v := (-2 : Int64)) dX10_even_158 rfl rfl ?_
                        obtain rfl := Option.some.inj h33
                        exact mr_lreturn dX10_even_161 rfl
                  · rw [if_neg c36] at h33
                    refine mr_lcmp_ge_f (t := 142) (pc' := 138) dX10_even_134 rfl dX10_even_135 (by decide) rfl c36 ?_
                    refine mr_iconst (pc' := 139) (v := (1 : Int32)) dX10_even_138 rfl (by decide) ?_
                    refine mr_goto (t := 143) dX10_even_139 (by decide) ?_
                    refine mr_lload (pc' := 145) dX10_even_143 rfl rfl ?_
                    refine mr_lconst (pc' := 146) (v := (0 : Int64)) dX10_even_145 rfl (by decide) ?_
                    by_cases c58 : (0 : Int64) ≤ (a28 - a31)
                    · rw [if_pos c58] at h33
                      refine mr_lcmp_ge_t (t := 154) dX10_even_146 rfl dX10_even_147 (by decide) c58 ?_
                      refine mr_iconst (pc' := 155) (v := (0 : Int32)) dX10_even_154 rfl (by decide) ?_
                      by_cases c59 : (1 : Int32) = (0 : Int32)
                      · rw [if_pos c59] at h33
                        refine mr_icmp_eq_t (t := 162) dX10_even_155 (by decide) c59 ?_
                        refine mr_lload (pc' := 164) dX10_even_162 rfl rfl ?_
                        obtain ⟨q60, g61, h62⟩ := Option.bind_eq_some_iff.mp h33
                        refine mr_cs (pc' := 167) (d1 := 0) dX10_even_164 rfl rfl rfl rfl (by decide) (Nat.le_of_ble_eq_true rfl) rfl rfl rfl (by decide) (ok_J9_abs_067f4 hR  g61) ?_
                        show mr X _ _ 167 _ [.long q60] (MM RR S) _
                        refine mr_lload (pc' := 169) dX10_even_167 rfl rfl ?_
                        obtain ⟨q63, g64, h65⟩ := Option.bind_eq_some_iff.mp h62
                        refine mr_cs (pc' := 172) (d1 := 0) dX10_even_169 rfl rfl rfl rfl (by decide) (Nat.le_of_ble_eq_true rfl) rfl rfl rfl (by decide) (ok_J9_abs_067f4 hR  g64) ?_
                        show mr X _ _ 172 _ [.long q63, .long q60] (MM RR S) _
                        refine mr_iload (pc' := 174) dX10_even_172 rfl rfl ?_
                        obtain ⟨q66, g67, h68⟩ := Option.bind_eq_some_iff.mp h65
                        refine mr_cs (pc' := 177) (d1 := 2) dX10_even_174 rfl rfl rfl rfl (by decide) (Nat.le_of_ble_eq_true rfl) rfl rfl rfl (by decide) (ok_X10_lowest hR  g67) ?_
                        show mr X _ _ 177 _ [.long q66] (MM RR S) _
                        obtain rfl := Option.some.inj h68
                        exact mr_lreturn dX10_even_177 rfl
                      · rw [if_neg c59] at h33
                        refine mr_icmp_eq_f (t := 162) (pc' := 158) dX10_even_155 (by decide) rfl c59 ?_
                        refine mr_ldc2 (pc' := 161) (v := (-2 : Int64)) dX10_even_158 rfl rfl ?_
                        obtain rfl := Option.some.inj h33
                        exact mr_lreturn dX10_even_161 rfl
                    · rw [if_neg c58] at h33
                      refine mr_lcmp_ge_f (t := 154) (pc' := 150) dX10_even_146 rfl dX10_even_147 (by decide) rfl c58 ?_
                      refine mr_iconst (pc' := 151) (v := (1 : Int32)) dX10_even_150 rfl (by decide) ?_
                      refine mr_goto (t := 155) dX10_even_151 (by decide) ?_
                      by_cases c69 : (1 : Int32) = (1 : Int32)
                      · rw [if_pos c69] at h33
                        refine mr_icmp_eq_t (t := 162) dX10_even_155 (by decide) c69 ?_
                        refine mr_lload (pc' := 164) dX10_even_162 rfl rfl ?_
                        obtain ⟨q70, g71, h72⟩ := Option.bind_eq_some_iff.mp h33
                        refine mr_cs (pc' := 167) (d1 := 0) dX10_even_164 rfl rfl rfl rfl (by decide) (Nat.le_of_ble_eq_true rfl) rfl rfl rfl (by decide) (ok_J9_abs_067f4 hR  g71) ?_
                        show mr X _ _ 167 _ [.long q70] (MM RR S) _
                        refine mr_lload (pc' := 169) dX10_even_167 rfl rfl ?_
                        obtain ⟨q73, g74, h75⟩ := Option.bind_eq_some_iff.mp h72
                        refine mr_cs (pc' := 172) (d1 := 0) dX10_even_169 rfl rfl rfl rfl (by decide) (Nat.le_of_ble_eq_true rfl) rfl rfl rfl (by decide) (ok_J9_abs_067f4 hR  g74) ?_
                        show mr X _ _ 172 _ [.long q73, .long q70] (MM RR S) _
                        refine mr_iload (pc' := 174) dX10_even_172 rfl rfl ?_
                        obtain ⟨q76, g77, h78⟩ := Option.bind_eq_some_iff.mp h75
                        refine mr_cs (pc' := 177) (d1 := 2) dX10_even_174 rfl rfl rfl rfl (by decide) (Nat.le_of_ble_eq_true rfl) rfl rfl rfl (by decide) (ok_X10_lowest hR  g77) ?_
                        show mr X _ _ 177 _ [.long q76] (MM RR S) _
                        obtain rfl := Option.some.inj h78
                        exact mr_lreturn dX10_even_177 rfl
                      · rw [if_neg c69] at h33
                        refine mr_icmp_eq_f (t := 162) (pc' := 158) dX10_even_155 (by decide) rfl c69 ?_
                        refine mr_ldc2 (pc' := 161) (v := (-2 : Int64)) dX10_even_158 rfl rfl ?_
                        obtain rfl := Option.some.inj h33
                        exact mr_lreturn dX10_even_161 rfl
def f_X3_stateOf (v0 : Int64) (v2 : Int32) (S : fS) : Option (Int64) :=
  some ((v0 <<< (Int32.toInt64 (5 : Int32) &&& 63)) ||| (Int32.toInt64 v2))
set_option maxHeartbeats 4000000 in
set_option maxRecDepth 100000 in
theorem ok_X3_stateOf {X : mm_C} {RR : Nat → Nat → Option Nat} (hR : RRok RR) {v0 : Int64} {v2 : Int32}  {S : fS} {r : Int64} (h : f_X3_stateOf v0 v2 S = some r) : mr X 0 mY_X3_stateOf 0 (lv_args 0 [.long v0, .int v2]) [] (MM RR S) (some (.long r), MM RR S) := by
  unfold f_X3_stateOf at h
  show mr X _ _ 0 [(0, .long v0), (2, .int v2)] [] (MM RR S) _
  refine mr_lload_n (pc' := 1) dX3_stateOf_0 rfl rfl ?_
  refine mr_iconst (pc' := 2) (v := (5 : Int32)) dX3_stateOf_1 rfl (by decide) ?_
  refine mr_lshl (pc' := 3) dX3_stateOf_2 rfl ?_
  refine mr_iload_n (pc' := 4) dX3_stateOf_3 rfl rfl ?_
  refine mr_i2l (pc' := 5) dX3_stateOf_4 rfl ?_
  refine mr_lor (pc' := 6) dX3_stateOf_5 rfl ?_
  obtain rfl := Option.some.inj h
  exact mr_lreturn dX3_stateOf_6 rfl
def f_X3_ageOf (v0 : Int64) (S : fS) : Option (Int64) :=
  some (v0 >>> (Int32.toInt64 (5 : Int32) &&& 63))
set_option maxHeartbeats 4000000 in
set_option maxRecDepth 100000 in
theorem ok_X3_ageOf {X : mm_C} {RR : Nat → Nat → Option Nat} (hR : RRok RR) {v0 : Int64}  {S : fS} {r : Int64} (h : f_X3_ageOf v0 S = some r) : mr X 0 mY_X3_ageOf 0 (lv_args 0 [.long v0]) [] (MM RR S) (some (.long r), MM RR S) := by
  unfold f_X3_ageOf at h
  show mr X _ _ 0 [(0, .long v0)] [] (MM RR S) _
  refine mr_lload_n (pc' := 1) dX3_ageOf_0 rfl rfl ?_
  refine mr_iconst (pc' := 2) (v := (5 : Int32)) dX3_ageOf_1 rfl (by decide) ?_
  refine mr_lshr (pc' := 3) dX3_ageOf_2 rfl ?_
  obtain rfl := Option.some.inj h
  exact mr_lreturn dX3_ageOf_3 rfl
def f_X3_keep (v1 : Int32) (v2 : Int64) (S : fS) : Option (Int32 × fS) :=
  if (S.1 45 5) ≤ v1 then (if (S.1 45 5) < (4000 : Int32) then ((sL S 46 4000 (S.1 45 5) v2).bind fun S3 =>
  (some (pI S3 45 5 ((S3.1 45 5) + (1 : Int32)))).bind fun S6 =>
  some ((1 : Int32), S6)) else
  (some ((0 : Int32), S))) else
  ((gL S 46 4000 ((S.1 45 5) - (1 : Int32))).bind fun a9 =>
  (f_X3_ageOf a9 S).bind fun q12 =>
  (f_X3_ageOf v2 S).bind fun q15 =>
  if q12 = q15 then (some ((1 : Int32), S)) else
  (if (S.1 45 5) < (4000 : Int32) then ((sL S 46 4000 (S.1 45 5) v2).bind fun S20 =>
  (some (pI S20 45 5 ((S20.1 45 5) + (1 : Int32)))).bind fun S23 =>
  some ((1 : Int32), S23)) else
  (some ((0 : Int32), S))))
set_option maxHeartbeats 4000000 in
set_option maxRecDepth 100000 in
theorem ok_X3_keep {X : mm_C} {RR : Nat → Nat → Option Nat} (hR : RRok RR) {v1 : Int32} {v2 : Int64}  {S : fS} {r : Int32 × fS} (h : f_X3_keep v1 v2 S = some r) : mr X 1 mY_X3_keep 0 (lv_args 0 [.ref 45, .int v1, .long v2]) [] (MM RR S) (some (.int r.1), MM RR r.2) := by
  unfold f_X3_keep at h
  show mr X _ _ 0 [(0, .ref 45), (1, .int v1), (2, .long v2)] [] (MM RR S) _
  refine mr_aload_n (pc' := 1) dX3_keep_0 rfl rfl ?_
  refine mr_getI (pc' := 4) (ci := 3) (j := 5) dX3_keep_1 rfl rfl rfl (by decide) (by decide) rfl ?_
  refine mr_iload_n (pc' := 5) dX3_keep_4 rfl rfl ?_
  by_cases c1 : (S.1 45 5) ≤ v1
  · rw [if_pos c1] at h
    refine mr_icmp_le_t (t := 32) dX3_keep_5 (by decide) c1 ?_
    refine mr_aload_n (pc' := 33) dX3_keep_32 rfl rfl ?_
    refine mr_getI (pc' := 36) (ci := 3) (j := 5) dX3_keep_33 rfl rfl rfl (by decide) (by decide) rfl ?_
    refine mr_sipush (pc' := 39) (v := (4000 : Int32)) dX3_keep_36 rfl (by decide) ?_
    by_cases c2 : (S.1 45 5) < (4000 : Int32)
    · rw [if_pos c2] at h
      refine mr_icmp_lt_t (t := 44) dX3_keep_39 (by decide) c2 ?_
      refine mr_aload_n (pc' := 45) dX3_keep_44 rfl rfl ?_
      refine mr_getR (pc' := 48) (ci := 3) (j := 0) (b := 46) hR dX3_keep_45 rfl rfl rfl (by decide) (by decide) (by decide) rfl rfl ?_
      refine mr_aload_n (pc' := 49) dX3_keep_48 rfl rfl ?_
      refine mr_getI (pc' := 52) (ci := 3) (j := 5) dX3_keep_49 rfl rfl rfl (by decide) (by decide) rfl ?_
      refine mr_lload_n (pc' := 53) dX3_keep_52 rfl rfl ?_
      obtain ⟨S3, g4, h5⟩ := Option.bind_eq_some_iff.mp h
      refine mr_last (pc' := 54) dX3_keep_53 rfl rfl rfl g4 ?_
      refine mr_aload_n (pc' := 55) dX3_keep_54 rfl rfl ?_
      refine mr_dup_ref (pc' := 56) dX3_keep_55 rfl ?_
      refine mr_getI (pc' := 59) (ci := 3) (j := 5) dX3_keep_56 rfl rfl rfl (by decide) (by decide) rfl ?_
      refine mr_iconst (pc' := 60) (v := (1 : Int32)) dX3_keep_59 rfl (by decide) ?_
      refine mr_iadd (pc' := 61) dX3_keep_60 rfl ?_
      obtain ⟨S6, g7, h8⟩ := Option.bind_eq_some_iff.mp h5
      refine mr_putI (pc' := 64) (ci := 3) (j := 5) dX3_keep_61 rfl rfl rfl (by decide) (by decide) rfl rfl ?_
      rw [Option.some.inj g7]
      refine mr_iconst (pc' := 65) (v := (1 : Int32)) dX3_keep_64 rfl (by decide) ?_
      obtain rfl := Option.some.inj h8
      exact mr_zreturn dX3_keep_65 rfl (by decide)
    · rw [if_neg c2] at h
      refine mr_icmp_lt_f (t := 44) (pc' := 42) dX3_keep_39 (by decide) rfl c2 ?_
      refine mr_iconst (pc' := 43) (v := (0 : Int32)) dX3_keep_42 rfl (by decide) ?_
      obtain rfl := Option.some.inj h
      exact mr_zreturn dX3_keep_43 rfl (by decide)
  · rw [if_neg c1] at h
    refine mr_icmp_le_f (t := 32) (pc' := 8) dX3_keep_5 (by decide) rfl c1 ?_
    refine mr_aload_n (pc' := 9) dX3_keep_8 rfl rfl ?_
    refine mr_getR (pc' := 12) (ci := 3) (j := 0) (b := 46) hR dX3_keep_9 rfl rfl rfl (by decide) (by decide) (by decide) rfl rfl ?_
    refine mr_aload_n (pc' := 13) dX3_keep_12 rfl rfl ?_
    refine mr_getI (pc' := 16) (ci := 3) (j := 5) dX3_keep_13 rfl rfl rfl (by decide) (by decide) rfl ?_
    refine mr_iconst (pc' := 17) (v := (1 : Int32)) dX3_keep_16 rfl (by decide) ?_
    refine mr_isub (pc' := 18) dX3_keep_17 rfl ?_
    obtain ⟨a9, g10, h11⟩ := Option.bind_eq_some_iff.mp h
    refine mr_lald (pc' := 19) dX3_keep_18 rfl rfl rfl g10 ?_
    obtain ⟨q12, g13, h14⟩ := Option.bind_eq_some_iff.mp h11
    refine mr_cs (pc' := 22) (d1 := 0) dX3_keep_19 rfl rfl rfl rfl (by decide) (Nat.le_of_ble_eq_true rfl) rfl rfl rfl (by decide) (ok_X3_ageOf hR  g13) ?_
    show mr X _ _ 22 _ [.long q12] (MM RR S) _
    refine mr_lload_n (pc' := 23) dX3_keep_22 rfl rfl ?_
    obtain ⟨q15, g16, h17⟩ := Option.bind_eq_some_iff.mp h14
    refine mr_cs (pc' := 26) (d1 := 0) dX3_keep_23 rfl rfl rfl rfl (by decide) (Nat.le_of_ble_eq_true rfl) rfl rfl rfl (by decide) (ok_X3_ageOf hR  g16) ?_
    show mr X _ _ 26 _ [.long q15, .long q12] (MM RR S) _
    by_cases c18 : q12 = q15
    · rw [if_pos c18] at h17
      refine mr_lcmp_ne_f (t := 32) (pc' := 30) dX3_keep_26 rfl dX3_keep_27 (by decide) rfl (not_not_intro c18) ?_
      refine mr_iconst (pc' := 31) (v := (1 : Int32)) dX3_keep_30 rfl (by decide) ?_
      obtain rfl := Option.some.inj h17
      exact mr_zreturn dX3_keep_31 rfl (by decide)
    · rw [if_neg c18] at h17
      refine mr_lcmp_ne_t (t := 32) dX3_keep_26 rfl dX3_keep_27 (by decide) c18 ?_
      refine mr_aload_n (pc' := 33) dX3_keep_32 rfl rfl ?_
      refine mr_getI (pc' := 36) (ci := 3) (j := 5) dX3_keep_33 rfl rfl rfl (by decide) (by decide) rfl ?_
      refine mr_sipush (pc' := 39) (v := (4000 : Int32)) dX3_keep_36 rfl (by decide) ?_
      by_cases c19 : (S.1 45 5) < (4000 : Int32)
      · rw [if_pos c19] at h17
        refine mr_icmp_lt_t (t := 44) dX3_keep_39 (by decide) c19 ?_
        refine mr_aload_n (pc' := 45) dX3_keep_44 rfl rfl ?_
        refine mr_getR (pc' := 48) (ci := 3) (j := 0) (b := 46) hR dX3_keep_45 rfl rfl rfl (by decide) (by decide) (by decide) rfl rfl ?_
        refine mr_aload_n (pc' := 49) dX3_keep_48 rfl rfl ?_
        refine mr_getI (pc' := 52) (ci := 3) (j := 5) dX3_keep_49 rfl rfl rfl (by decide) (by decide) rfl ?_
        refine mr_lload_n (pc' := 53) dX3_keep_52 rfl rfl ?_
        obtain ⟨S20, g21, h22⟩ := Option.bind_eq_some_iff.mp h17
        refine mr_last (pc' := 54) dX3_keep_53 rfl rfl rfl g21 ?_
        refine mr_aload_n (pc' := 55) dX3_keep_54 rfl rfl ?_
        refine mr_dup_ref (pc' := 56) dX3_keep_55 rfl ?_
        refine mr_getI (pc' := 59) (ci := 3) (j := 5) dX3_keep_56 rfl rfl rfl (by decide) (by decide) rfl ?_
        refine mr_iconst (pc' := 60) (v := (1 : Int32)) dX3_keep_59 rfl (by decide) ?_
        refine mr_iadd (pc' := 61) dX3_keep_60 rfl ?_
        obtain ⟨S23, g24, h25⟩ := Option.bind_eq_some_iff.mp h22
        refine mr_putI (pc' := 64) (ci := 3) (j := 5) dX3_keep_61 rfl rfl rfl (by decide) (by decide) rfl rfl ?_
        rw [Option.some.inj g24]
        refine mr_iconst (pc' := 65) (v := (1 : Int32)) dX3_keep_64 rfl (by decide) ?_
        obtain rfl := Option.some.inj h25
        exact mr_zreturn dX3_keep_65 rfl (by decide)
      · rw [if_neg c19] at h17
        refine mr_icmp_lt_f (t := 44) (pc' := 42) dX3_keep_39 (by decide) rfl c19 ?_
        refine mr_iconst (pc' := 43) (v := (0 : Int32)) dX3_keep_42 rfl (by decide) ?_
        obtain rfl := Option.some.inj h17
        exact mr_zreturn dX3_keep_43 rfl (by decide)
def f_X3_addSource (v1 : Int32) (v2 : Int64) (S : fS) : Option (fS) :=
  if (13 : Int32) ≤ (S.1 45 6) then (some S) else
  ((gI S 47 171 v1).bind fun a2 =>
  (gI S 47 171 (v1 + (1 : Int32))).bind fun a5 =>
  if a5 ≤ a2 then (some S) else
  ((gI S 47 171 v1).bind fun a9 =>
  (sI S 48 13 (S.1 45 6) a9).bind fun S12 =>
  (gI S12 47 171 (v1 + (1 : Int32))).bind fun a15 =>
  (sI S12 49 13 (S12.1 45 6) a15).bind fun S18 =>
  (sL S18 50 13 (S18.1 45 6) v2).bind fun S21 =>
  (some (pI S21 45 6 ((S21.1 45 6) + (1 : Int32)))).bind fun S24 =>
  some S24))
set_option maxHeartbeats 4000000 in
set_option maxRecDepth 100000 in
theorem ok_X3_addSource {X : mm_C} {RR : Nat → Nat → Option Nat} (hR : RRok RR) {v1 : Int32} {v2 : Int64}  {S : fS} {r : fS} (h : f_X3_addSource v1 v2 S = some r) : mr X 0 mY_X3_addSource 0 (lv_args 0 [.ref 45, .int v1, .long v2]) [] (MM RR S) (none, MM RR r) := by
  unfold f_X3_addSource at h
  show mr X _ _ 0 [(0, .ref 45), (1, .int v1), (2, .long v2)] [] (MM RR S) _
  refine mr_aload_n (pc' := 1) dX3_addSource_0 rfl rfl ?_
  refine mr_getI (pc' := 4) (ci := 3) (j := 6) dX3_addSource_1 rfl rfl rfl (by decide) (by decide) rfl ?_
  refine mr_bipush (pc' := 6) (v := (13 : Int32)) dX3_addSource_4 rfl (by decide) ?_
  by_cases c1 : (13 : Int32) ≤ (S.1 45 6)
  · rw [if_pos c1] at h
    refine mr_icmp_ge_t (t := 78) dX3_addSource_6 (by decide) c1 ?_
    obtain rfl := Option.some.inj h
    exact mr_return dX3_addSource_78 rfl
  · rw [if_neg c1] at h
    refine mr_icmp_ge_f (t := 78) (pc' := 9) dX3_addSource_6 (by decide) rfl c1 ?_
    refine mr_aload_n (pc' := 10) dX3_addSource_9 rfl rfl ?_
    refine mr_getR (pc' := 13) (ci := 3) (j := 1) (b := 47) hR dX3_addSource_10 rfl rfl rfl (by decide) (by decide) (by decide) rfl rfl ?_
    refine mr_iload_n (pc' := 14) dX3_addSource_13 rfl rfl ?_
    obtain ⟨a2, g3, h4⟩ := Option.bind_eq_some_iff.mp h
    refine mr_iald (pc' := 15) dX3_addSource_14 rfl rfl rfl g3 ?_
    refine mr_aload_n (pc' := 16) dX3_addSource_15 rfl rfl ?_
    refine mr_getR (pc' := 19) (ci := 3) (j := 1) (b := 47) hR dX3_addSource_16 rfl rfl rfl (by decide) (by decide) (by decide) rfl rfl ?_
    refine mr_iload_n (pc' := 20) dX3_addSource_19 rfl rfl ?_
    refine mr_iconst (pc' := 21) (v := (1 : Int32)) dX3_addSource_20 rfl (by decide) ?_
    refine mr_iadd (pc' := 22) dX3_addSource_21 rfl ?_
    obtain ⟨a5, g6, h7⟩ := Option.bind_eq_some_iff.mp h4
    refine mr_iald (pc' := 23) dX3_addSource_22 rfl rfl rfl g6 ?_
    by_cases c8 : a5 ≤ a2
    · rw [if_pos c8] at h7
      refine mr_icmp_ge_t (t := 78) dX3_addSource_23 (by decide) c8 ?_
      obtain rfl := Option.some.inj h7
      exact mr_return dX3_addSource_78 rfl
    · rw [if_neg c8] at h7
      refine mr_icmp_ge_f (t := 78) (pc' := 26) dX3_addSource_23 (by decide) rfl c8 ?_
      refine mr_aload_n (pc' := 27) dX3_addSource_26 rfl rfl ?_
      refine mr_getR (pc' := 30) (ci := 3) (j := 2) (b := 48) hR dX3_addSource_27 rfl rfl rfl (by decide) (by decide) (by decide) rfl rfl ?_
      refine mr_aload_n (pc' := 31) dX3_addSource_30 rfl rfl ?_
      refine mr_getI (pc' := 34) (ci := 3) (j := 6) dX3_addSource_31 rfl rfl rfl (by decide) (by decide) rfl ?_
      refine mr_aload_n (pc' := 35) dX3_addSource_34 rfl rfl ?_
      refine mr_getR (pc' := 38) (ci := 3) (j := 1) (b := 47) hR dX3_addSource_35 rfl rfl rfl (by decide) (by decide) (by decide) rfl rfl ?_
      refine mr_iload_n (pc' := 39) dX3_addSource_38 rfl rfl ?_
      obtain ⟨a9, g10, h11⟩ := Option.bind_eq_some_iff.mp h7
      refine mr_iald (pc' := 40) dX3_addSource_39 rfl rfl rfl g10 ?_
      obtain ⟨S12, g13, h14⟩ := Option.bind_eq_some_iff.mp h11
      refine mr_iast (pc' := 41) dX3_addSource_40 rfl rfl rfl g13 ?_
      refine mr_aload_n (pc' := 42) dX3_addSource_41 rfl rfl ?_
      refine mr_getR (pc' := 45) (ci := 3) (j := 3) (b := 49) hR dX3_addSource_42 rfl rfl rfl (by decide) (by decide) (by decide) rfl rfl ?_
      refine mr_aload_n (pc' := 46) dX3_addSource_45 rfl rfl ?_
      refine mr_getI (pc' := 49) (ci := 3) (j := 6) dX3_addSource_46 rfl rfl rfl (by decide) (by decide) rfl ?_
      refine mr_aload_n (pc' := 50) dX3_addSource_49 rfl rfl ?_
      refine mr_getR (pc' := 53) (ci := 3) (j := 1) (b := 47) hR dX3_addSource_50 rfl rfl rfl (by decide) (by decide) (by decide) rfl rfl ?_
      refine mr_iload_n (pc' := 54) dX3_addSource_53 rfl rfl ?_
      refine mr_iconst (pc' := 55) (v := (1 : Int32)) dX3_addSource_54 rfl (by decide) ?_
      refine mr_iadd (pc' := 56) dX3_addSource_55 rfl ?_
      obtain ⟨a15, g16, h17⟩ := Option.bind_eq_some_iff.mp h14
      refine mr_iald (pc' := 57) dX3_addSource_56 rfl rfl rfl g16 ?_
      obtain ⟨S18, g19, h20⟩ := Option.bind_eq_some_iff.mp h17
      refine mr_iast (pc' := 58) dX3_addSource_57 rfl rfl rfl g19 ?_
      refine mr_aload_n (pc' := 59) dX3_addSource_58 rfl rfl ?_
      refine mr_getR (pc' := 62) (ci := 3) (j := 4) (b := 50) hR dX3_addSource_59 rfl rfl rfl (by decide) (by decide) (by decide) rfl rfl ?_
      refine mr_aload_n (pc' := 63) dX3_addSource_62 rfl rfl ?_
      refine mr_getI (pc' := 66) (ci := 3) (j := 6) dX3_addSource_63 rfl rfl rfl (by decide) (by decide) rfl ?_
      refine mr_lload_n (pc' := 67) dX3_addSource_66 rfl rfl ?_
      obtain ⟨S21, g22, h23⟩ := Option.bind_eq_some_iff.mp h20
      refine mr_last (pc' := 68) dX3_addSource_67 rfl rfl rfl g22 ?_
      refine mr_aload_n (pc' := 69) dX3_addSource_68 rfl rfl ?_
      refine mr_dup_ref (pc' := 70) dX3_addSource_69 rfl ?_
      refine mr_getI (pc' := 73) (ci := 3) (j := 6) dX3_addSource_70 rfl rfl rfl (by decide) (by decide) rfl ?_
      refine mr_iconst (pc' := 74) (v := (1 : Int32)) dX3_addSource_73 rfl (by decide) ?_
      refine mr_iadd (pc' := 75) dX3_addSource_74 rfl ?_
      obtain ⟨S24, g25, h26⟩ := Option.bind_eq_some_iff.mp h23
      refine mr_putI (pc' := 78) (ci := 3) (j := 6) dX3_addSource_75 rfl rfl rfl (by decide) (by decide) rfl rfl ?_
      rw [Option.some.inj g25]
      obtain rfl := Option.some.inj h26
      exact mr_return dX3_addSource_78 rfl
def lp_X3_gatherSources_37 (p1 : Nat) (p2 : Int32) (p3 : Int32) (K : fS → Option (fS)) : Nat → Int32 → fS → Option (fS)
  | 0, _, _ => none
  | n + 1, p4, S0 =>
    if (S0.1 p1 7) ≤ p4 then (K S0) else
    ((f_X8_otherEnd p1 p4 p3 S0).bind fun q6 =>
    (gI S0 (p1 + 4) 12 p4).bind fun a9 =>
    if q6 < (0 : Int32) then (lp_X3_gatherSources_37 p1 p2 p3 K n (p4 + (1 : Int32)) S0) else
    (if p2 < a9 then (lp_X3_gatherSources_37 p1 p2 p3 K n (p4 + (1 : Int32)) S0) else
    ((gL S0 (p1 + 5) 12 p4).bind fun a14 =>
    (f_X3_stateOf ((Int32.toInt64 a9) * a14) a9 S0).bind fun q17 =>
    (f_X3_addSource (((p2 - a9) * (S0.1 p1 6)) + q6) q17 S0).bind fun q20 =>
    lp_X3_gatherSources_37 p1 p2 p3 K n (p4 + (1 : Int32)) q20)))
set_option maxHeartbeats 4000000 in
set_option maxRecDepth 100000 in
theorem ok_lp_X3_gatherSources_37 {X : mm_C} {RR : Nat → Nat → Option Nat} (hR : RRok RR) {p1 : Nat} {p2 : Int32} {p3 : Int32} (t1 : tg p1 = 8) {K : fS → Option (fS)} {r : fS} (hK : ∀ (Sk : fS), K Sk = some r → mr X 1 mY_X3_gatherSources 113 [] [] (MM RR Sk) (none, MM RR r)) : ∀ (n : Nat) (p4 : Int32) (S0 : fS), lp_X3_gatherSources_37 p1 p2 p3 K n p4 S0 = some r → mr X 1 mY_X3_gatherSources 37 [(0, .ref 45), (1, .ref p1), (2, .int p2), (3, .int p3), (4, .int p4)] [] (MM RR S0) (none, MM RR r) := by
  intro n
  induction n with
  | zero => intro p4 S0 h; exact mm_no h
  | succ n ih =>
    intro p4 S0 h
    unfold lp_X3_gatherSources_37 at h
    refine mr_iload (pc' := 39) dX3_gatherSources_37 rfl rfl ?_
    refine mr_aload_n (pc' := 40) dX3_gatherSources_39 rfl rfl ?_
    refine mr_getI (pc' := 43) (ci := 8) (j := 7) dX3_gatherSources_40 rfl rfl t1 (by decide) (by decide) rfl ?_
    by_cases c5 : (S0.1 p1 7) ≤ p4
    · rw [if_pos c5] at h
      refine mr_icmp_ge_t (t := 113) dX3_gatherSources_43 (by decide) c5 ?_
      exact mr_sub [] trivial rfl (hK _  h)
    · rw [if_neg c5] at h
      refine mr_icmp_ge_f (t := 113) (pc' := 46) dX3_gatherSources_43 (by decide) rfl c5 ?_
      refine mr_aload_n (pc' := 47) dX3_gatherSources_46 rfl rfl ?_
      refine mr_iload (pc' := 49) dX3_gatherSources_47 rfl rfl ?_
      refine mr_iload_n (pc' := 50) dX3_gatherSources_49 rfl rfl ?_
      obtain ⟨q6, g7, h8⟩ := Option.bind_eq_some_iff.mp h
      refine mr_cv (pc' := 53) (a := p1) (d1 := 0) dX3_gatherSources_50 rfl rfl rfl rfl rfl t1 (by decide) rfl (by decide) (ok_X8_otherEnd hR t1 g7) ?_
      show mr X _ _ 53 _ [.int q6] (MM RR S0) _
      refine mr_istore (pc' := 55) (lv' := [(5, .int q6), (0, .ref 45), (1, .ref p1), (2, .int p2), (3, .int p3), (4, .int p4)]) dX3_gatherSources_53 rfl (by decide) rfl ?_
      refine mr_aload_n (pc' := 56) dX3_gatherSources_55 rfl rfl ?_
      refine mr_getR (pc' := 59) (ci := 8) (j := 3) (b := (p1 + 4)) hR dX3_gatherSources_56 rfl rfl t1 (by decide) (by decide) (by decide) rfl (ly8_3 t1).1 ?_
      refine mr_iload (pc' := 61) dX3_gatherSources_59 rfl rfl ?_
      obtain ⟨a9, g10, h11⟩ := Option.bind_eq_some_iff.mp h8
      refine mr_iald (pc' := 62) dX3_gatherSources_61 rfl (ly8_3 t1).2.1 (ly8_3 t1).2.2 g10 ?_
      refine mr_istore (pc' := 64) (lv' := [(6, .int a9), (5, .int q6), (0, .ref 45), (1, .ref p1), (2, .int p2), (3, .int p3), (4, .int p4)]) dX3_gatherSources_62 rfl (by decide) rfl ?_
      refine mr_iload (pc' := 66) dX3_gatherSources_64 rfl rfl ?_
      by_cases c12 : q6 < (0 : Int32)
      · rw [if_pos c12] at h11
        refine mr_if_lt_t (t := 107) dX3_gatherSources_66 (by decide) c12 ?_
        refine mr_iinc (pc' := 110) (x' := (p4 + (1 : Int32))) (lv' := [(4, .int (p4 + (1 : Int32))), (6, .int a9), (5, .int q6), (0, .ref 45), (1, .ref p1), (2, .int p2), (3, .int p3)]) dX3_gatherSources_107 rfl (by decide) rfl rfl rfl ?_
        refine mr_goto (t := 37) dX3_gatherSources_110 (by decide) ?_
        exact mr_sub [(0, .ref 45), (1, .ref p1), (2, .int p2), (3, .int p3), (4, .int (p4 + (1 : Int32)))] ⟨rfl, rfl, rfl, rfl, rfl, trivial⟩ rfl (ih _ _  h11)
      · rw [if_neg c12] at h11
        refine mr_if_lt_f (t := 107) (pc' := 69) dX3_gatherSources_66 (by decide) rfl c12 ?_
        refine mr_iload (pc' := 71) dX3_gatherSources_69 rfl rfl ?_
        refine mr_iload_n (pc' := 72) dX3_gatherSources_71 rfl rfl ?_
        by_cases c13 : p2 < a9
        · rw [if_pos c13] at h11
          refine mr_icmp_gt_t (t := 107) dX3_gatherSources_72 (by decide) c13 ?_
          refine mr_iinc (pc' := 110) (x' := (p4 + (1 : Int32))) (lv' := [(4, .int (p4 + (1 : Int32))), (6, .int a9), (5, .int q6), (0, .ref 45), (1, .ref p1), (2, .int p2), (3, .int p3)]) dX3_gatherSources_107 rfl (by decide) rfl rfl rfl ?_
          refine mr_goto (t := 37) dX3_gatherSources_110 (by decide) ?_
          exact mr_sub [(0, .ref 45), (1, .ref p1), (2, .int p2), (3, .int p3), (4, .int (p4 + (1 : Int32)))] ⟨rfl, rfl, rfl, rfl, rfl, trivial⟩ rfl (ih _ _  h11)
        · rw [if_neg c13] at h11
          refine mr_icmp_gt_f (t := 107) (pc' := 75) dX3_gatherSources_72 (by decide) rfl c13 ?_
          refine mr_aload_n (pc' := 76) dX3_gatherSources_75 rfl rfl ?_
          refine mr_iload_n (pc' := 77) dX3_gatherSources_76 rfl rfl ?_
          refine mr_iload (pc' := 79) dX3_gatherSources_77 rfl rfl ?_
          refine mr_isub (pc' := 80) dX3_gatherSources_79 rfl ?_
          refine mr_aload_n (pc' := 81) dX3_gatherSources_80 rfl rfl ?_
          refine mr_getI (pc' := 84) (ci := 8) (j := 6) dX3_gatherSources_81 rfl rfl t1 (by decide) (by decide) rfl ?_
          refine mr_imul (pc' := 85) dX3_gatherSources_84 rfl ?_
          refine mr_iload (pc' := 87) dX3_gatherSources_85 rfl rfl ?_
          refine mr_iadd (pc' := 88) dX3_gatherSources_87 rfl ?_
          refine mr_iload (pc' := 90) dX3_gatherSources_88 rfl rfl ?_
          refine mr_i2l (pc' := 91) dX3_gatherSources_90 rfl ?_
          refine mr_aload_n (pc' := 92) dX3_gatherSources_91 rfl rfl ?_
          refine mr_getR (pc' := 95) (ci := 8) (j := 4) (b := (p1 + 5)) hR dX3_gatherSources_92 rfl rfl t1 (by decide) (by decide) (by decide) rfl (ly8_4 t1).1 ?_
          refine mr_iload (pc' := 97) dX3_gatherSources_95 rfl rfl ?_
          obtain ⟨a14, g15, h16⟩ := Option.bind_eq_some_iff.mp h11
          refine mr_lald (pc' := 98) dX3_gatherSources_97 rfl (ly8_4 t1).2.1 (ly8_4 t1).2.2 g15 ?_
          refine mr_lmul (pc' := 99) dX3_gatherSources_98 rfl ?_
          refine mr_iload (pc' := 101) dX3_gatherSources_99 rfl rfl ?_
          obtain ⟨q17, g18, h19⟩ := Option.bind_eq_some_iff.mp h16
          refine mr_cs (pc' := 104) (d1 := 0) dX3_gatherSources_101 rfl rfl rfl rfl (by decide) (Nat.le_of_ble_eq_true rfl) rfl rfl rfl (by decide) (ok_X3_stateOf hR  g18) ?_
          show mr X _ _ 104 _ [.long q17, .int (((p2 - a9) * (S0.1 p1 6)) + q6), .ref 45] (MM RR S0) _
          obtain ⟨q20, g21, h22⟩ := Option.bind_eq_some_iff.mp h19
          refine mr_cv (pc' := 107) (a := 45) (d1 := 0) dX3_gatherSources_104 rfl rfl rfl rfl rfl rfl (by decide) rfl (by decide) (ok_X3_addSource hR  g21) ?_
          show mr X _ _ 107 _ [] (MM RR q20) _
          refine mr_iinc (pc' := 110) (x' := (p4 + (1 : Int32))) (lv' := [(4, .int (p4 + (1 : Int32))), (6, .int a9), (5, .int q6), (0, .ref 45), (1, .ref p1), (2, .int p2), (3, .int p3)]) dX3_gatherSources_107 rfl (by decide) rfl rfl rfl ?_
          refine mr_goto (t := 37) dX3_gatherSources_110 (by decide) ?_
          exact mr_sub [(0, .ref 45), (1, .ref p1), (2, .int p2), (3, .int p3), (4, .int (p4 + (1 : Int32)))] ⟨rfl, rfl, rfl, rfl, rfl, trivial⟩ rfl (ih _ _  h22)
def f_X3_gatherSources (v1 : Nat) (v2 : Int32) (v3 : Int32) (S : fS) : Option (fS) :=
  (some (pI S 45 6 (0 : Int32))).bind fun S1 =>
  if v2 < (1 : Int32) then (lp_X3_gatherSources_37 v1 v2 v3 (fun S23 => some S23) FU (0 : Int32) S1) else
  ((gL S1 (v1 + 1) 10 v3).bind fun a25 =>
  (f_X3_stateOf a25 (0 : Int32) S1).bind fun q28 =>
  (f_X3_addSource (((v2 - (1 : Int32)) * (S1.1 v1 6)) + v3) q28 S1).bind fun q31 =>
  lp_X3_gatherSources_37 v1 v2 v3 (fun S34 => some S34) FU (0 : Int32) q31)
set_option maxHeartbeats 4000000 in
set_option maxRecDepth 100000 in
theorem ok_X3_gatherSources {X : mm_C} {RR : Nat → Nat → Option Nat} (hR : RRok RR) {v1 : Nat} {v2 : Int32} {v3 : Int32} (t1 : tg v1 = 8) {S : fS} {r : fS} (h : f_X3_gatherSources v1 v2 v3 S = some r) : mr X 1 mY_X3_gatherSources 0 (lv_args 0 [.ref 45, .ref v1, .int v2, .int v3]) [] (MM RR S) (none, MM RR r) := by
  unfold f_X3_gatherSources at h
  show mr X _ _ 0 [(0, .ref 45), (1, .ref v1), (2, .int v2), (3, .int v3)] [] (MM RR S) _
  refine mr_aload_n (pc' := 1) dX3_gatherSources_0 rfl rfl ?_
  refine mr_iconst (pc' := 2) (v := (0 : Int32)) dX3_gatherSources_1 rfl (by decide) ?_
  obtain ⟨S1, g2, h3⟩ := Option.bind_eq_some_iff.mp h
  refine mr_putI (pc' := 5) (ci := 3) (j := 6) dX3_gatherSources_2 rfl rfl rfl (by decide) (by decide) rfl rfl ?_
  rw [Option.some.inj g2]
  refine mr_iload_n (pc' := 6) dX3_gatherSources_5 rfl rfl ?_
  refine mr_iconst (pc' := 7) (v := (1 : Int32)) dX3_gatherSources_6 rfl (by decide) ?_
  by_cases c4 : v2 < (1 : Int32)
  · rw [if_pos c4] at h3
    refine mr_icmp_lt_t (t := 34) dX3_gatherSources_7 (by decide) c4 ?_
    refine mr_iconst (pc' := 35) (v := (0 : Int32)) dX3_gatherSources_34 rfl (by decide) ?_
    refine mr_istore (pc' := 37) (lv' := [(4, .int (0 : Int32)), (0, .ref 45), (1, .ref v1), (2, .int v2), (3, .int v3)]) dX3_gatherSources_35 rfl (by decide) rfl ?_
    refine mr_sub [(0, .ref 45), (1, .ref v1), (2, .int v2), (3, .int v3), (4, .int (0 : Int32))] ⟨rfl, rfl, rfl, rfl, rfl, trivial⟩ rfl ?_
    refine ok_lp_X3_gatherSources_37 hR t1 (fun S23 h24 => ?_) FU _ _  h3
    obtain rfl := Option.some.inj h24
    exact mr_return dX3_gatherSources_113 rfl
  · rw [if_neg c4] at h3
    refine mr_icmp_lt_f (t := 34) (pc' := 10) dX3_gatherSources_7 (by decide) rfl c4 ?_
    refine mr_aload_n (pc' := 11) dX3_gatherSources_10 rfl rfl ?_
    refine mr_iload_n (pc' := 12) dX3_gatherSources_11 rfl rfl ?_
    refine mr_iconst (pc' := 13) (v := (1 : Int32)) dX3_gatherSources_12 rfl (by decide) ?_
    refine mr_isub (pc' := 14) dX3_gatherSources_13 rfl ?_
    refine mr_aload_n (pc' := 15) dX3_gatherSources_14 rfl rfl ?_
    refine mr_getI (pc' := 18) (ci := 8) (j := 6) dX3_gatherSources_15 rfl rfl t1 (by decide) (by decide) rfl ?_
    refine mr_imul (pc' := 19) dX3_gatherSources_18 rfl ?_
    refine mr_iload_n (pc' := 20) dX3_gatherSources_19 rfl rfl ?_
    refine mr_iadd (pc' := 21) dX3_gatherSources_20 rfl ?_
    refine mr_aload_n (pc' := 22) dX3_gatherSources_21 rfl rfl ?_
    refine mr_getR (pc' := 25) (ci := 8) (j := 0) (b := (v1 + 1)) hR dX3_gatherSources_22 rfl rfl t1 (by decide) (by decide) (by decide) rfl (ly8_0 t1).1 ?_
    refine mr_iload_n (pc' := 26) dX3_gatherSources_25 rfl rfl ?_
    obtain ⟨a25, g26, h27⟩ := Option.bind_eq_some_iff.mp h3
    refine mr_lald (pc' := 27) dX3_gatherSources_26 rfl (ly8_0 t1).2.1 (ly8_0 t1).2.2 g26 ?_
    refine mr_iconst (pc' := 28) (v := (0 : Int32)) dX3_gatherSources_27 rfl (by decide) ?_
    obtain ⟨q28, g29, h30⟩ := Option.bind_eq_some_iff.mp h27
    refine mr_cs (pc' := 31) (d1 := 0) dX3_gatherSources_28 rfl rfl rfl rfl (by decide) (Nat.le_of_ble_eq_true rfl) rfl rfl rfl (by decide) (ok_X3_stateOf hR  g29) ?_
    show mr X _ _ 31 _ [.long q28, .int (((v2 - (1 : Int32)) * (S1.1 v1 6)) + v3), .ref 45] (MM RR S1) _
    obtain ⟨q31, g32, h33⟩ := Option.bind_eq_some_iff.mp h30
    refine mr_cv (pc' := 34) (a := 45) (d1 := 0) dX3_gatherSources_31 rfl rfl rfl rfl rfl rfl (by decide) rfl (by decide) (ok_X3_addSource hR  g32) ?_
    show mr X _ _ 34 _ [] (MM RR q31) _
    refine mr_iconst (pc' := 35) (v := (0 : Int32)) dX3_gatherSources_34 rfl (by decide) ?_
    refine mr_istore (pc' := 37) (lv' := [(4, .int (0 : Int32)), (0, .ref 45), (1, .ref v1), (2, .int v2), (3, .int v3)]) dX3_gatherSources_35 rfl (by decide) rfl ?_
    refine mr_sub [(0, .ref 45), (1, .ref v1), (2, .int v2), (3, .int v3), (4, .int (0 : Int32))] ⟨rfl, rfl, rfl, rfl, rfl, trivial⟩ rfl ?_
    refine ok_lp_X3_gatherSources_37 hR t1 (fun S34 h35 => ?_) FU _ _  h33
    obtain rfl := Option.some.inj h35
    exact mr_return dX3_gatherSources_113 rfl
def lp_X3_leastSource_7  (S : fS) (K : Int32 → Option (Int32)) : Nat → Int32 → Int64 → Int32 → Option (Int32)
  | 0, _, _, _ => none
  | n + 1, p1, p2, p4 =>
    if (S.1 45 6) ≤ p4 then (K p1) else
    ((gI S 48 13 p4).bind fun a2 =>
    (gI S 49 13 p4).bind fun a5 =>
    if a2 < a5 then ((gI S 48 13 p4).bind fun a9 =>
    (gL S 46 4000 a9).bind fun a12 =>
    (gL S 50 13 p4).bind fun a15 =>
    if p1 < (0 : Int32) then (lp_X3_leastSource_7  S K n p4 (a12 + a15) (p4 + (1 : Int32))) else
    (if p2 ≤ (a12 + a15) then (lp_X3_leastSource_7  S K n p1 p2 (p4 + (1 : Int32))) else
    (lp_X3_leastSource_7  S K n p4 (a12 + a15) (p4 + (1 : Int32))))) else
    (lp_X3_leastSource_7  S K n p1 p2 (p4 + (1 : Int32))))
set_option maxHeartbeats 4000000 in
set_option maxRecDepth 100000 in
theorem ok_lp_X3_leastSource_7 {X : mm_C} {RR : Nat → Nat → Option Nat} (hR : RRok RR)   {S : fS} {K : Int32 → Option (Int32)} {r : Int32} (hK : ∀ (k1 : Int32), K k1 = some r → mr X 0 mY_X3_leastSource 81 [(1, .int k1)] [] (MM RR S) (some (.int r), MM RR S)) : ∀ (n : Nat) (p1 : Int32) (p2 : Int64) (p4 : Int32), lp_X3_leastSource_7  S K n p1 p2 p4 = some r → mr X 0 mY_X3_leastSource 7 [(0, .ref 45), (1, .int p1), (2, .long p2), (4, .int p4)] [] (MM RR S) (some (.int r), MM RR S) := by
  intro n
  induction n with
  | zero => intro p1 p2 p4 h; exact mm_no h
  | succ n ih =>
    intro p1 p2 p4 h
    unfold lp_X3_leastSource_7 at h
    refine mr_iload (pc' := 9) dX3_leastSource_7 rfl rfl ?_
    refine mr_aload_n (pc' := 10) dX3_leastSource_9 rfl rfl ?_
    refine mr_getI (pc' := 13) (ci := 3) (j := 6) dX3_leastSource_10 rfl rfl rfl (by decide) (by decide) rfl ?_
    by_cases c1 : (S.1 45 6) ≤ p4
    · rw [if_pos c1] at h
      refine mr_icmp_ge_t (t := 81) dX3_leastSource_13 (by decide) c1 ?_
      exact mr_sub [(1, .int p1)] ⟨rfl, trivial⟩ rfl (hK _  h)
    · rw [if_neg c1] at h
      refine mr_icmp_ge_f (t := 81) (pc' := 16) dX3_leastSource_13 (by decide) rfl c1 ?_
      refine mr_aload_n (pc' := 17) dX3_leastSource_16 rfl rfl ?_
      refine mr_getR (pc' := 20) (ci := 3) (j := 2) (b := 48) hR dX3_leastSource_17 rfl rfl rfl (by decide) (by decide) (by decide) rfl rfl ?_
      refine mr_iload (pc' := 22) dX3_leastSource_20 rfl rfl ?_
      obtain ⟨a2, g3, h4⟩ := Option.bind_eq_some_iff.mp h
      refine mr_iald (pc' := 23) dX3_leastSource_22 rfl rfl rfl g3 ?_
      refine mr_aload_n (pc' := 24) dX3_leastSource_23 rfl rfl ?_
      refine mr_getR (pc' := 27) (ci := 3) (j := 3) (b := 49) hR dX3_leastSource_24 rfl rfl rfl (by decide) (by decide) (by decide) rfl rfl ?_
      refine mr_iload (pc' := 29) dX3_leastSource_27 rfl rfl ?_
      obtain ⟨a5, g6, h7⟩ := Option.bind_eq_some_iff.mp h4
      refine mr_iald (pc' := 30) dX3_leastSource_29 rfl rfl rfl g6 ?_
      by_cases c8 : a2 < a5
      · rw [if_pos c8] at h7
        refine mr_icmp_lt_t (t := 36) dX3_leastSource_30 (by decide) c8 ?_
        refine mr_aload_n (pc' := 37) dX3_leastSource_36 rfl rfl ?_
        refine mr_getR (pc' := 40) (ci := 3) (j := 0) (b := 46) hR dX3_leastSource_37 rfl rfl rfl (by decide) (by decide) (by decide) rfl rfl ?_
        refine mr_aload_n (pc' := 41) dX3_leastSource_40 rfl rfl ?_
        refine mr_getR (pc' := 44) (ci := 3) (j := 2) (b := 48) hR dX3_leastSource_41 rfl rfl rfl (by decide) (by decide) (by decide) rfl rfl ?_
        refine mr_iload (pc' := 46) dX3_leastSource_44 rfl rfl ?_
        obtain ⟨a9, g10, h11⟩ := Option.bind_eq_some_iff.mp h7
        refine mr_iald (pc' := 47) dX3_leastSource_46 rfl rfl rfl g10 ?_
        obtain ⟨a12, g13, h14⟩ := Option.bind_eq_some_iff.mp h11
        refine mr_lald (pc' := 48) dX3_leastSource_47 rfl rfl rfl g13 ?_
        refine mr_aload_n (pc' := 49) dX3_leastSource_48 rfl rfl ?_
        refine mr_getR (pc' := 52) (ci := 3) (j := 4) (b := 50) hR dX3_leastSource_49 rfl rfl rfl (by decide) (by decide) (by decide) rfl rfl ?_
        refine mr_iload (pc' := 54) dX3_leastSource_52 rfl rfl ?_
        obtain ⟨a15, g16, h17⟩ := Option.bind_eq_some_iff.mp h14
        refine mr_lald (pc' := 55) dX3_leastSource_54 rfl rfl rfl g16 ?_
        refine mr_ladd (pc' := 56) dX3_leastSource_55 rfl ?_
        refine mr_lstore (pc' := 58) (lv' := [(5, .long (a12 + a15)), (0, .ref 45), (1, .int p1), (2, .long p2), (4, .int p4)]) dX3_leastSource_56 rfl (by decide) rfl ?_
        refine mr_iload_n (pc' := 59) dX3_leastSource_58 rfl rfl ?_
        by_cases c18 : p1 < (0 : Int32)
        · rw [if_pos c18] at h17
          refine mr_if_lt_t (t := 69) dX3_leastSource_59 (by decide) c18 ?_
          refine mr_iload (pc' := 71) dX3_leastSource_69 rfl rfl ?_
          refine mr_istore_n (pc' := 72) (lv' := [(1, .int p4), (5, .long (a12 + a15)), (0, .ref 45), (2, .long p2), (4, .int p4)]) dX3_leastSource_71 rfl (by decide) rfl ?_
          refine mr_lload (pc' := 74) dX3_leastSource_72 rfl rfl ?_
          refine mr_lstore_n (pc' := 75) (lv' := [(2, .long (a12 + a15)), (1, .int p4), (5, .long (a12 + a15)), (0, .ref 45), (4, .int p4)]) dX3_leastSource_74 rfl (by decide) rfl ?_
          refine mr_iinc (pc' := 78) (x' := (p4 + (1 : Int32))) (lv' := [(4, .int (p4 + (1 : Int32))), (2, .long (a12 + a15)), (1, .int p4), (5, .long (a12 + a15)), (0, .ref 45)]) dX3_leastSource_75 rfl (by decide) rfl rfl rfl ?_
          refine mr_goto (t := 7) dX3_leastSource_78 (by decide) ?_
          exact mr_sub [(0, .ref 45), (1, .int p4), (2, .long (a12 + a15)), (4, .int (p4 + (1 : Int32)))] ⟨rfl, rfl, rfl, rfl, trivial⟩ rfl (ih _ _ _  h17)
        · rw [if_neg c18] at h17
          refine mr_if_lt_f (t := 69) (pc' := 62) dX3_leastSource_59 (by decide) rfl c18 ?_
          refine mr_lload (pc' := 64) dX3_leastSource_62 rfl rfl ?_
          refine mr_lload_n (pc' := 65) dX3_leastSource_64 rfl rfl ?_
          by_cases c19 : p2 ≤ (a12 + a15)
          · rw [if_pos c19] at h17
            refine mr_lcmp_ge_t (t := 75) dX3_leastSource_65 rfl dX3_leastSource_66 (by decide) c19 ?_
            refine mr_iinc (pc' := 78) (x' := (p4 + (1 : Int32))) (lv' := [(4, .int (p4 + (1 : Int32))), (5, .long (a12 + a15)), (0, .ref 45), (1, .int p1), (2, .long p2)]) dX3_leastSource_75 rfl (by decide) rfl rfl rfl ?_
            refine mr_goto (t := 7) dX3_leastSource_78 (by decide) ?_
            exact mr_sub [(0, .ref 45), (1, .int p1), (2, .long p2), (4, .int (p4 + (1 : Int32)))] ⟨rfl, rfl, rfl, rfl, trivial⟩ rfl (ih _ _ _  h17)
          · rw [if_neg c19] at h17
            refine mr_lcmp_ge_f (t := 75) (pc' := 69) dX3_leastSource_65 rfl dX3_leastSource_66 (by decide) rfl c19 ?_
            refine mr_iload (pc' := 71) dX3_leastSource_69 rfl rfl ?_
            refine mr_istore_n (pc' := 72) (lv' := [(1, .int p4), (5, .long (a12 + a15)), (0, .ref 45), (2, .long p2), (4, .int p4)]) dX3_leastSource_71 rfl (by decide) rfl ?_
            refine mr_lload (pc' := 74) dX3_leastSource_72 rfl rfl ?_
            refine mr_lstore_n (pc' := 75) (lv' := [(2, .long (a12 + a15)), (1, .int p4), (5, .long (a12 + a15)), (0, .ref 45), (4, .int p4)]) dX3_leastSource_74 rfl (by decide) rfl ?_
            refine mr_iinc (pc' := 78) (x' := (p4 + (1 : Int32))) (lv' := [(4, .int (p4 + (1 : Int32))), (2, .long (a12 + a15)), (1, .int p4), (5, .long (a12 + a15)), (0, .ref 45)]) dX3_leastSource_75 rfl (by decide) rfl rfl rfl ?_
            refine mr_goto (t := 7) dX3_leastSource_78 (by decide) ?_
            exact mr_sub [(0, .ref 45), (1, .int p4), (2, .long (a12 + a15)), (4, .int (p4 + (1 : Int32)))] ⟨rfl, rfl, rfl, rfl, trivial⟩ rfl (ih _ _ _  h17)
      · rw [if_neg c8] at h7
        refine mr_icmp_lt_f (t := 36) (pc' := 33) dX3_leastSource_30 (by decide) rfl c8 ?_
        refine mr_goto (t := 75) dX3_leastSource_33 (by decide) ?_
        refine mr_iinc (pc' := 78) (x' := (p4 + (1 : Int32))) (lv' := [(4, .int (p4 + (1 : Int32))), (0, .ref 45), (1, .int p1), (2, .long p2)]) dX3_leastSource_75 rfl (by decide) rfl rfl rfl ?_
        refine mr_goto (t := 7) dX3_leastSource_78 (by decide) ?_
        exact mr_sub [(0, .ref 45), (1, .int p1), (2, .long p2), (4, .int (p4 + (1 : Int32)))] ⟨rfl, rfl, rfl, rfl, trivial⟩ rfl (ih _ _ _  h7)
def f_X3_leastSource  (S : fS) : Option (Int32) :=
  lp_X3_leastSource_7  S (fun u20 => some u20) FU (-1 : Int32) (0 : Int64) (0 : Int32)
set_option maxHeartbeats 4000000 in
set_option maxRecDepth 100000 in
theorem ok_X3_leastSource {X : mm_C} {RR : Nat → Nat → Option Nat} (hR : RRok RR)   {S : fS} {r : Int32} (h : f_X3_leastSource  S = some r) : mr X 0 mY_X3_leastSource 0 (lv_args 0 [.ref 45]) [] (MM RR S) (some (.int r), MM RR S) := by
  unfold f_X3_leastSource at h
  show mr X _ _ 0 [(0, .ref 45)] [] (MM RR S) _
  refine mr_iconst (pc' := 1) (v := (-1 : Int32)) dX3_leastSource_0 rfl (by decide) ?_
  refine mr_istore_n (pc' := 2) (lv' := [(1, .int (-1 : Int32)), (0, .ref 45)]) dX3_leastSource_1 rfl (by decide) rfl ?_
  refine mr_lconst (pc' := 3) (v := (0 : Int64)) dX3_leastSource_2 rfl (by decide) ?_
  refine mr_lstore_n (pc' := 4) (lv' := [(2, .long (0 : Int64)), (1, .int (-1 : Int32)), (0, .ref 45)]) dX3_leastSource_3 rfl (by decide) rfl ?_
  refine mr_iconst (pc' := 5) (v := (0 : Int32)) dX3_leastSource_4 rfl (by decide) ?_
  refine mr_istore (pc' := 7) (lv' := [(4, .int (0 : Int32)), (2, .long (0 : Int64)), (1, .int (-1 : Int32)), (0, .ref 45)]) dX3_leastSource_5 rfl (by decide) rfl ?_
  refine mr_sub [(0, .ref 45), (1, .int (-1 : Int32)), (2, .long (0 : Int64)), (4, .int (0 : Int32))] ⟨rfl, rfl, rfl, rfl, trivial⟩ rfl ?_
  refine ok_lp_X3_leastSource_7 hR  (fun u20 h21 => ?_) FU _ _ _  h
  refine mr_iload_n (pc' := 82) dX3_leastSource_81 rfl rfl ?_
  obtain rfl := Option.some.inj h21
  exact mr_ireturn dX3_leastSource_82 rfl
def lp_X3_merge_2 (p1 : Int32) (K : fS → Option (Int32 × fS)) : Nat → Int32 → fS → Option (Int32 × fS)
  | 0, _, _ => none
  | n + 1, p2, S0 =>
    if (52000 : Int32) < p2 then (K S0) else
    ((f_X3_leastSource  S0).bind fun q2 =>
    if (0 : Int32) ≤ q2 then ((gI S0 48 13 q2).bind fun a6 =>
    (gI S0 48 13 q2).bind fun a9 =>
    (sI S0 48 13 q2 (a9 + (1 : Int32))).bind fun S12 =>
    (gL S12 46 4000 a6).bind fun a15 =>
    (gL S12 50 13 q2).bind fun a18 =>
    (f_X3_keep p1 (a15 + a18) S12).bind fun q21 =>
    if q21.1 = (0 : Int32) then (some ((0 : Int32), q21.2)) else
    (lp_X3_merge_2 p1 K n (p2 + (1 : Int32)) q21.2)) else
    (some ((1 : Int32), S0)))
set_option maxHeartbeats 4000000 in
set_option maxRecDepth 100000 in
theorem ok_lp_X3_merge_2 {X : mm_C} {RR : Nat → Nat → Option Nat} (hR : RRok RR) {p1 : Int32}  {K : fS → Option (Int32 × fS)} {r : Int32 × fS} (hK : ∀ (Sk : fS), K Sk = some r → mr X 2 mY_X3_merge 67 [] [] (MM RR Sk) (some (.int r.1), MM RR r.2)) : ∀ (n : Nat) (p2 : Int32) (S0 : fS), lp_X3_merge_2 p1 K n p2 S0 = some r → mr X 2 mY_X3_merge 2 [(0, .ref 45), (1, .int p1), (2, .int p2)] [] (MM RR S0) (some (.int r.1), MM RR r.2) := by
  intro n
  induction n with
  | zero => intro p2 S0 h; exact mm_no h
  | succ n ih =>
    intro p2 S0 h
    unfold lp_X3_merge_2 at h
    refine mr_iload_n (pc' := 3) dX3_merge_2 rfl rfl ?_
    refine mr_ldc (pc' := 5) (v := (52000 : Int32)) dX3_merge_3 rfl rfl ?_
    by_cases c1 : (52000 : Int32) < p2
    · rw [if_pos c1] at h
      refine mr_icmp_gt_t (t := 67) dX3_merge_5 (by decide) c1 ?_
      exact mr_sub [] trivial rfl (hK _  h)
    · rw [if_neg c1] at h
      refine mr_icmp_gt_f (t := 67) (pc' := 8) dX3_merge_5 (by decide) rfl c1 ?_
      refine mr_aload_n (pc' := 9) dX3_merge_8 rfl rfl ?_
      obtain ⟨q2, g3, h4⟩ := Option.bind_eq_some_iff.mp h
      refine mr_cv (pc' := 12) (a := 45) (d1 := 0) dX3_merge_9 rfl rfl rfl rfl rfl rfl (by decide) rfl (by decide) (ok_X3_leastSource hR  g3) ?_
      show mr X _ _ 12 _ [.int q2] (MM RR S0) _
      refine mr_istore_n (pc' := 13) (lv' := [(3, .int q2), (0, .ref 45), (1, .int p1), (2, .int p2)]) dX3_merge_12 rfl (by decide) rfl ?_
      refine mr_iload_n (pc' := 14) dX3_merge_13 rfl rfl ?_
      by_cases c5 : (0 : Int32) ≤ q2
      · rw [if_pos c5] at h4
        refine mr_if_ge_t (t := 19) dX3_merge_14 (by decide) c5 ?_
        refine mr_aload_n (pc' := 20) dX3_merge_19 rfl rfl ?_
        refine mr_getR (pc' := 23) (ci := 3) (j := 2) (b := 48) hR dX3_merge_20 rfl rfl rfl (by decide) (by decide) (by decide) rfl rfl ?_
        refine mr_iload_n (pc' := 24) dX3_merge_23 rfl rfl ?_
        obtain ⟨a6, g7, h8⟩ := Option.bind_eq_some_iff.mp h4
        refine mr_iald (pc' := 25) dX3_merge_24 rfl rfl rfl g7 ?_
        refine mr_istore (pc' := 27) (lv' := [(4, .int a6), (3, .int q2), (0, .ref 45), (1, .int p1), (2, .int p2)]) dX3_merge_25 rfl (by decide) rfl ?_
        refine mr_aload_n (pc' := 28) dX3_merge_27 rfl rfl ?_
        refine mr_getR (pc' := 31) (ci := 3) (j := 2) (b := 48) hR dX3_merge_28 rfl rfl rfl (by decide) (by decide) (by decide) rfl rfl ?_
        refine mr_iload_n (pc' := 32) dX3_merge_31 rfl rfl ?_
        refine mr_dup2 (pc' := 33) dX3_merge_32 rfl ?_
        obtain ⟨a9, g10, h11⟩ := Option.bind_eq_some_iff.mp h8
        refine mr_iald (pc' := 34) dX3_merge_33 rfl rfl rfl g10 ?_
        refine mr_iconst (pc' := 35) (v := (1 : Int32)) dX3_merge_34 rfl (by decide) ?_
        refine mr_iadd (pc' := 36) dX3_merge_35 rfl ?_
        obtain ⟨S12, g13, h14⟩ := Option.bind_eq_some_iff.mp h11
        refine mr_iast (pc' := 37) dX3_merge_36 rfl rfl rfl g13 ?_
        refine mr_aload_n (pc' := 38) dX3_merge_37 rfl rfl ?_
        refine mr_iload_n (pc' := 39) dX3_merge_38 rfl rfl ?_
        refine mr_aload_n (pc' := 40) dX3_merge_39 rfl rfl ?_
        refine mr_getR (pc' := 43) (ci := 3) (j := 0) (b := 46) hR dX3_merge_40 rfl rfl rfl (by decide) (by decide) (by decide) rfl rfl ?_
        refine mr_iload (pc' := 45) dX3_merge_43 rfl rfl ?_
        obtain ⟨a15, g16, h17⟩ := Option.bind_eq_some_iff.mp h14
        refine mr_lald (pc' := 46) dX3_merge_45 rfl rfl rfl g16 ?_
        refine mr_aload_n (pc' := 47) dX3_merge_46 rfl rfl ?_
        refine mr_getR (pc' := 50) (ci := 3) (j := 4) (b := 50) hR dX3_merge_47 rfl rfl rfl (by decide) (by decide) (by decide) rfl rfl ?_
        refine mr_iload_n (pc' := 51) dX3_merge_50 rfl rfl ?_
        obtain ⟨a18, g19, h20⟩ := Option.bind_eq_some_iff.mp h17
        refine mr_lald (pc' := 52) dX3_merge_51 rfl rfl rfl g19 ?_
        refine mr_ladd (pc' := 53) dX3_merge_52 rfl ?_
        obtain ⟨q21, g22, h23⟩ := Option.bind_eq_some_iff.mp h20
        refine mr_cv (pc' := 56) (a := 45) (d1 := 1) dX3_merge_53 rfl rfl rfl rfl rfl rfl (by decide) rfl (by decide) (ok_X3_keep hR  g22) ?_
        show mr X _ _ 56 _ [.int q21.1] (MM RR q21.2) _
        by_cases c24 : q21.1 = (0 : Int32)
        · rw [if_pos c24] at h23
          refine mr_if_ne_f (t := 61) (pc' := 59) dX3_merge_56 (by decide) rfl (not_not_intro c24) ?_
          refine mr_iconst (pc' := 60) (v := (0 : Int32)) dX3_merge_59 rfl (by decide) ?_
          obtain rfl := Option.some.inj h23
          exact mr_zreturn dX3_merge_60 rfl (by decide)
        · rw [if_neg c24] at h23
          refine mr_if_ne_t (t := 61) dX3_merge_56 (by decide) c24 ?_
          refine mr_iinc (pc' := 64) (x' := (p2 + (1 : Int32))) (lv' := [(2, .int (p2 + (1 : Int32))), (4, .int a6), (3, .int q2), (0, .ref 45), (1, .int p1)]) dX3_merge_61 rfl (by decide) rfl rfl rfl ?_
          refine mr_goto (t := 2) dX3_merge_64 (by decide) ?_
          exact mr_sub [(0, .ref 45), (1, .int p1), (2, .int (p2 + (1 : Int32)))] ⟨rfl, rfl, rfl, trivial⟩ rfl (ih _ _  h23)
      · rw [if_neg c5] at h4
        refine mr_if_ge_f (t := 19) (pc' := 17) dX3_merge_14 (by decide) rfl c5 ?_
        refine mr_iconst (pc' := 18) (v := (1 : Int32)) dX3_merge_17 rfl (by decide) ?_
        obtain rfl := Option.some.inj h4
        exact mr_zreturn dX3_merge_18 rfl (by decide)
def f_X3_merge (v1 : Int32) (S : fS) : Option (Int32 × fS) :=
  lp_X3_merge_2 v1 (fun S25 => some ((0 : Int32), S25)) FU (0 : Int32) S
set_option maxHeartbeats 4000000 in
set_option maxRecDepth 100000 in
theorem ok_X3_merge {X : mm_C} {RR : Nat → Nat → Option Nat} (hR : RRok RR) {v1 : Int32}  {S : fS} {r : Int32 × fS} (h : f_X3_merge v1 S = some r) : mr X 2 mY_X3_merge 0 (lv_args 0 [.ref 45, .int v1]) [] (MM RR S) (some (.int r.1), MM RR r.2) := by
  unfold f_X3_merge at h
  show mr X _ _ 0 [(0, .ref 45), (1, .int v1)] [] (MM RR S) _
  refine mr_iconst (pc' := 1) (v := (0 : Int32)) dX3_merge_0 rfl (by decide) ?_
  refine mr_istore_n (pc' := 2) (lv' := [(2, .int (0 : Int32)), (0, .ref 45), (1, .int v1)]) dX3_merge_1 rfl (by decide) rfl ?_
  refine mr_sub [(0, .ref 45), (1, .int v1), (2, .int (0 : Int32))] ⟨rfl, rfl, rfl, trivial⟩ rfl ?_
  refine ok_lp_X3_merge_2 hR  (fun S25 h26 => ?_) FU _ _  h
  refine mr_iconst (pc' := 68) (v := (0 : Int32)) dX3_merge_67 rfl (by decide) ?_
  obtain rfl := Option.some.inj h26
  exact mr_zreturn dX3_merge_68 rfl (by decide)
def lp_X3_spread_24 (p1 : Nat) (p2 : Int32) (p3 : Int32) (p4 : Int32) (K : fS → Option (Int32 × fS)) : Nat → Int32 → fS → Option (Int32 × fS)
  | 0, _, _ => none
  | n + 1, p5, S0 =>
    if (S0.1 p1 6) ≤ p5 then (K S0) else
    ((sI S0 47 171 ((p4 * (S0.1 p1 6)) + p5) (S0.1 45 5)).bind fun S7 =>
    if (0 : Int32) < p4 then ((f_X3_gatherSources p1 p4 p5 S7).bind fun q11 =>
    if (1 : Int32) = (0 : Int32) then (some ((0 : Int32), q11)) else
    ((f_X3_merge (S0.1 45 5) q11).bind fun q15 =>
    if q15.1 = (0 : Int32) then (some ((0 : Int32), q15.2)) else
    ((sI q15.2 47 171 (((p4 * (q15.2.1 p1 6)) + p5) + (1 : Int32)) (q15.2.1 45 5)).bind fun S19 =>
    lp_X3_spread_24 p1 p2 p3 p4 K n (p5 + (1 : Int32)) S19))) else
    (if p5 = p2 then ((f_X3_stateOf (0 : Int64) (0 : Int32) S7).bind fun q34 =>
    (f_X3_keep (S0.1 45 5) q34 S7).bind fun q37 =>
    if q37.1 = (0 : Int32) then ((f_X3_gatherSources p1 p4 p5 q37.2).bind fun q41 =>
    if (0 : Int32) = (0 : Int32) then (some ((0 : Int32), q41)) else
    ((f_X3_merge (S0.1 45 5) q41).bind fun q45 =>
    if q45.1 = (0 : Int32) then (some ((0 : Int32), q45.2)) else
    ((sI q45.2 47 171 (((p4 * (q45.2.1 p1 6)) + p5) + (1 : Int32)) (q45.2.1 45 5)).bind fun S49 =>
    lp_X3_spread_24 p1 p2 p3 p4 K n (p5 + (1 : Int32)) S49))) else
    ((f_X3_gatherSources p1 p4 p5 q37.2).bind fun q52 =>
    if (1 : Int32) = (0 : Int32) then (some ((0 : Int32), q52)) else
    ((f_X3_merge (S0.1 45 5) q52).bind fun q56 =>
    if q56.1 = (0 : Int32) then (some ((0 : Int32), q56.2)) else
    ((sI q56.2 47 171 (((p4 * (q56.2.1 p1 6)) + p5) + (1 : Int32)) (q56.2.1 45 5)).bind fun S60 =>
    lp_X3_spread_24 p1 p2 p3 p4 K n (p5 + (1 : Int32)) S60)))) else
    ((f_X3_gatherSources p1 p4 p5 S7).bind fun q23 =>
    if (1 : Int32) = (0 : Int32) then (some ((0 : Int32), q23)) else
    ((f_X3_merge (S0.1 45 5) q23).bind fun q27 =>
    if q27.1 = (0 : Int32) then (some ((0 : Int32), q27.2)) else
    ((sI q27.2 47 171 (((p4 * (q27.2.1 p1 6)) + p5) + (1 : Int32)) (q27.2.1 45 5)).bind fun S31 =>
    lp_X3_spread_24 p1 p2 p3 p4 K n (p5 + (1 : Int32)) S31)))))
set_option maxHeartbeats 4000000 in
set_option maxRecDepth 100000 in
theorem ok_lp_X3_spread_24 {X : mm_C} {RR : Nat → Nat → Option Nat} (hR : RRok RR) {p1 : Nat} {p2 : Int32} {p3 : Int32} {p4 : Int32} (t1 : tg p1 = 8) {K : fS → Option (Int32 × fS)} {r : Int32 × fS} (hK : ∀ (Sk : fS), K Sk = some r → mr X 3 mY_X3_spread 140 [(0, .ref 45), (1, .ref p1), (2, .int p2), (3, .int p3), (4, .int p4)] [] (MM RR Sk) (some (.int r.1), MM RR r.2)) : ∀ (n : Nat) (p5 : Int32) (S0 : fS), lp_X3_spread_24 p1 p2 p3 p4 K n p5 S0 = some r → mr X 3 mY_X3_spread 24 [(0, .ref 45), (1, .ref p1), (2, .int p2), (3, .int p3), (4, .int p4), (5, .int p5)] [] (MM RR S0) (some (.int r.1), MM RR r.2) := by
  intro n
  induction n with
  | zero => intro p5 S0 h; exact mm_no h
  | succ n ih =>
    intro p5 S0 h
    unfold lp_X3_spread_24 at h
    refine mr_iload (pc' := 26) dX3_spread_24 rfl rfl ?_
    refine mr_aload_n (pc' := 27) dX3_spread_26 rfl rfl ?_
    refine mr_getI (pc' := 30) (ci := 8) (j := 6) dX3_spread_27 rfl rfl t1 (by decide) (by decide) rfl ?_
    by_cases c6 : (S0.1 p1 6) ≤ p5
    · rw [if_pos c6] at h
      refine mr_icmp_ge_t (t := 140) dX3_spread_30 (by decide) c6 ?_
      exact mr_sub [(0, .ref 45), (1, .ref p1), (2, .int p2), (3, .int p3), (4, .int p4)] ⟨rfl, rfl, rfl, rfl, rfl, trivial⟩ rfl (hK _  h)
    · rw [if_neg c6] at h
      refine mr_icmp_ge_f (t := 140) (pc' := 33) dX3_spread_30 (by decide) rfl c6 ?_
      refine mr_aload_n (pc' := 34) dX3_spread_33 rfl rfl ?_
      refine mr_getI (pc' := 37) (ci := 3) (j := 5) dX3_spread_34 rfl rfl rfl (by decide) (by decide) rfl ?_
      refine mr_istore (pc' := 39) (lv' := [(6, .int (S0.1 45 5)), (0, .ref 45), (1, .ref p1), (2, .int p2), (3, .int p3), (4, .int p4), (5, .int p5)]) dX3_spread_37 rfl (by decide) rfl ?_
      refine mr_aload_n (pc' := 40) dX3_spread_39 rfl rfl ?_
      refine mr_getR (pc' := 43) (ci := 3) (j := 1) (b := 47) hR dX3_spread_40 rfl rfl rfl (by decide) (by decide) (by decide) rfl rfl ?_
      refine mr_iload (pc' := 45) dX3_spread_43 rfl rfl ?_
      refine mr_aload_n (pc' := 46) dX3_spread_45 rfl rfl ?_
      refine mr_getI (pc' := 49) (ci := 8) (j := 6) dX3_spread_46 rfl rfl t1 (by decide) (by decide) rfl ?_
      refine mr_imul (pc' := 50) dX3_spread_49 rfl ?_
      refine mr_iload (pc' := 52) dX3_spread_50 rfl rfl ?_
      refine mr_iadd (pc' := 53) dX3_spread_52 rfl ?_
      refine mr_iload (pc' := 55) dX3_spread_53 rfl rfl ?_
      obtain ⟨S7, g8, h9⟩ := Option.bind_eq_some_iff.mp h
      refine mr_iast (pc' := 56) dX3_spread_55 rfl rfl rfl g8 ?_
      refine mr_iload (pc' := 58) dX3_spread_56 rfl rfl ?_
      by_cases c10 : (0 : Int32) < p4
      · rw [if_pos c10] at h9
        refine mr_if_gt_t (t := 81) dX3_spread_58 (by decide) c10 ?_
        refine mr_iconst (pc' := 82) (v := (1 : Int32)) dX3_spread_81 rfl (by decide) ?_
        refine mr_goto (t := 86) dX3_spread_82 (by decide) ?_
        refine mr_istore (pc' := 88) (lv' := [(7, .int (1 : Int32)), (6, .int (S0.1 45 5)), (0, .ref 45), (1, .ref p1), (2, .int p2), (3, .int p3), (4, .int p4), (5, .int p5)]) dX3_spread_86 rfl (by decide) rfl ?_
        refine mr_aload_n (pc' := 89) dX3_spread_88 rfl rfl ?_
        refine mr_aload_n (pc' := 90) dX3_spread_89 rfl rfl ?_
        refine mr_iload (pc' := 92) dX3_spread_90 rfl rfl ?_
        refine mr_iload (pc' := 94) dX3_spread_92 rfl rfl ?_
        obtain ⟨q11, g12, h13⟩ := Option.bind_eq_some_iff.mp h9
        refine mr_cv (pc' := 97) (a := 45) (d1 := 1) dX3_spread_94 rfl rfl rfl rfl rfl rfl (by decide) rfl (by decide) (ok_X3_gatherSources hR t1 g12) ?_
        show mr X _ _ 97 _ [] (MM RR q11) _
        refine mr_iload (pc' := 99) dX3_spread_97 rfl rfl ?_
        by_cases c14 : (1 : Int32) = (0 : Int32)
        · rw [if_pos c14] at h13
          refine mr_if_eq_t (t := 111) dX3_spread_99 (by decide) c14 ?_
          refine mr_iconst (pc' := 112) (v := (0 : Int32)) dX3_spread_111 rfl (by decide) ?_
          obtain rfl := Option.some.inj h13
          exact mr_zreturn dX3_spread_112 rfl (by decide)
        · rw [if_neg c14] at h13
          refine mr_if_eq_f (t := 111) (pc' := 102) dX3_spread_99 (by decide) rfl c14 ?_
          refine mr_aload_n (pc' := 103) dX3_spread_102 rfl rfl ?_
          refine mr_iload (pc' := 105) dX3_spread_103 rfl rfl ?_
          obtain ⟨q15, g16, h17⟩ := Option.bind_eq_some_iff.mp h13
          refine mr_cv (pc' := 108) (a := 45) (d1 := 2) dX3_spread_105 rfl rfl rfl rfl rfl rfl (by decide) rfl (by decide) (ok_X3_merge hR  g16) ?_
          show mr X _ _ 108 _ [.int q15.1] (MM RR q15.2) _
          by_cases c18 : q15.1 = (0 : Int32)
          · rw [if_pos c18] at h17
            refine mr_if_ne_f (t := 113) (pc' := 111) dX3_spread_108 (by decide) rfl (not_not_intro c18) ?_
            refine mr_iconst (pc' := 112) (v := (0 : Int32)) dX3_spread_111 rfl (by decide) ?_
            obtain rfl := Option.some.inj h17
            exact mr_zreturn dX3_spread_112 rfl (by decide)
          · rw [if_neg c18] at h17
            refine mr_if_ne_t (t := 113) dX3_spread_108 (by decide) c18 ?_
            refine mr_aload_n (pc' := 114) dX3_spread_113 rfl rfl ?_
            refine mr_getR (pc' := 117) (ci := 3) (j := 1) (b := 47) hR dX3_spread_114 rfl rfl rfl (by decide) (by decide) (by decide) rfl rfl ?_
            refine mr_iload (pc' := 119) dX3_spread_117 rfl rfl ?_
            refine mr_aload_n (pc' := 120) dX3_spread_119 rfl rfl ?_
            refine mr_getI (pc' := 123) (ci := 8) (j := 6) dX3_spread_120 rfl rfl t1 (by decide) (by decide) rfl ?_
            refine mr_imul (pc' := 124) dX3_spread_123 rfl ?_
            refine mr_iload (pc' := 126) dX3_spread_124 rfl rfl ?_
            refine mr_iadd (pc' := 127) dX3_spread_126 rfl ?_
            refine mr_iconst (pc' := 128) (v := (1 : Int32)) dX3_spread_127 rfl (by decide) ?_
            refine mr_iadd (pc' := 129) dX3_spread_128 rfl ?_
            refine mr_aload_n (pc' := 130) dX3_spread_129 rfl rfl ?_
            refine mr_getI (pc' := 133) (ci := 3) (j := 5) dX3_spread_130 rfl rfl rfl (by decide) (by decide) rfl ?_
            obtain ⟨S19, g20, h21⟩ := Option.bind_eq_some_iff.mp h17
            refine mr_iast (pc' := 134) dX3_spread_133 rfl rfl rfl g20 ?_
            refine mr_iinc (pc' := 137) (x' := (p5 + (1 : Int32))) (lv' := [(5, .int (p5 + (1 : Int32))), (7, .int (1 : Int32)), (6, .int (S0.1 45 5)), (0, .ref 45), (1, .ref p1), (2, .int p2), (3, .int p3), (4, .int p4)]) dX3_spread_134 rfl (by decide) rfl rfl rfl ?_
            refine mr_goto (t := 24) dX3_spread_137 (by decide) ?_
            exact mr_sub [(0, .ref 45), (1, .ref p1), (2, .int p2), (3, .int p3), (4, .int p4), (5, .int (p5 + (1 : Int32)))] ⟨rfl, rfl, rfl, rfl, rfl, rfl, trivial⟩ rfl (ih _ _  h21)
      · rw [if_neg c10] at h9
        refine mr_if_gt_f (t := 81) (pc' := 61) dX3_spread_58 (by decide) rfl c10 ?_
        refine mr_iload (pc' := 63) dX3_spread_61 rfl rfl ?_
        refine mr_iload_n (pc' := 64) dX3_spread_63 rfl rfl ?_
        by_cases c22 : p5 = p2
        · rw [if_pos c22] at h9
          refine mr_icmp_ne_f (t := 81) (pc' := 67) dX3_spread_64 (by decide) rfl (not_not_intro c22) ?_
          refine mr_aload_n (pc' := 68) dX3_spread_67 rfl rfl ?_
          refine mr_iload (pc' := 70) dX3_spread_68 rfl rfl ?_
          refine mr_lconst (pc' := 71) (v := (0 : Int64)) dX3_spread_70 rfl (by decide) ?_
          refine mr_iconst (pc' := 72) (v := (0 : Int32)) dX3_spread_71 rfl (by decide) ?_
          obtain ⟨q34, g35, h36⟩ := Option.bind_eq_some_iff.mp h9
          refine mr_cs (pc' := 75) (d1 := 0) dX3_spread_72 rfl rfl rfl rfl (by decide) (Nat.le_of_ble_eq_true rfl) rfl rfl rfl (by decide) (ok_X3_stateOf hR  g35) ?_
          show mr X _ _ 75 _ [.long q34, .int (S0.1 45 5), .ref 45] (MM RR S7) _
          obtain ⟨q37, g38, h39⟩ := Option.bind_eq_some_iff.mp h36
          refine mr_cv (pc' := 78) (a := 45) (d1 := 1) dX3_spread_75 rfl rfl rfl rfl rfl rfl (by decide) rfl (by decide) (ok_X3_keep hR  g38) ?_
          show mr X _ _ 78 _ [.int q37.1] (MM RR q37.2) _
          by_cases c40 : q37.1 = (0 : Int32)
          · rw [if_pos c40] at h39
            refine mr_if_eq_t (t := 85) dX3_spread_78 (by decide) c40 ?_
            refine mr_iconst (pc' := 86) (v := (0 : Int32)) dX3_spread_85 rfl (by decide) ?_
            refine mr_istore (pc' := 88) (lv' := [(7, .int (0 : Int32)), (6, .int (S0.1 45 5)), (0, .ref 45), (1, .ref p1), (2, .int p2), (3, .int p3), (4, .int p4), (5, .int p5)]) dX3_spread_86 rfl (by decide) rfl ?_
            refine mr_aload_n (pc' := 89) dX3_spread_88 rfl rfl ?_
            refine mr_aload_n (pc' := 90) dX3_spread_89 rfl rfl ?_
            refine mr_iload (pc' := 92) dX3_spread_90 rfl rfl ?_
            refine mr_iload (pc' := 94) dX3_spread_92 rfl rfl ?_
            obtain ⟨q41, g42, h43⟩ := Option.bind_eq_some_iff.mp h39
            refine mr_cv (pc' := 97) (a := 45) (d1 := 1) dX3_spread_94 rfl rfl rfl rfl rfl rfl (by decide) rfl (by decide) (ok_X3_gatherSources hR t1 g42) ?_
            show mr X _ _ 97 _ [] (MM RR q41) _
            refine mr_iload (pc' := 99) dX3_spread_97 rfl rfl ?_
            by_cases c44 : (0 : Int32) = (0 : Int32)
            · rw [if_pos c44] at h43
              refine mr_if_eq_t (t := 111) dX3_spread_99 (by decide) c44 ?_
              refine mr_iconst (pc' := 112) (v := (0 : Int32)) dX3_spread_111 rfl (by decide) ?_
              obtain rfl := Option.some.inj h43
              exact mr_zreturn dX3_spread_112 rfl (by decide)
            · rw [if_neg c44] at h43
              refine mr_if_eq_f (t := 111) (pc' := 102) dX3_spread_99 (by decide) rfl c44 ?_
              refine mr_aload_n (pc' := 103) dX3_spread_102 rfl rfl ?_
              refine mr_iload (pc' := 105) dX3_spread_103 rfl rfl ?_
              obtain ⟨q45, g46, h47⟩ := Option.bind_eq_some_iff.mp h43
              refine mr_cv (pc' := 108) (a := 45) (d1 := 2) dX3_spread_105 rfl rfl rfl rfl rfl rfl (by decide) rfl (by decide) (ok_X3_merge hR  g46) ?_
              show mr X _ _ 108 _ [.int q45.1] (MM RR q45.2) _
              by_cases c48 : q45.1 = (0 : Int32)
              · rw [if_pos c48] at h47
                refine mr_if_ne_f (t := 113) (pc' := 111) dX3_spread_108 (by decide) rfl (not_not_intro c48) ?_
                refine mr_iconst (pc' := 112) (v := (0 : Int32)) dX3_spread_111 rfl (by decide) ?_
                obtain rfl := Option.some.inj h47
                exact mr_zreturn dX3_spread_112 rfl (by decide)
              · rw [if_neg c48] at h47
                refine mr_if_ne_t (t := 113) dX3_spread_108 (by decide) c48 ?_
                refine mr_aload_n (pc' := 114) dX3_spread_113 rfl rfl ?_
                refine mr_getR (pc' := 117) (ci := 3) (j := 1) (b := 47) hR dX3_spread_114 rfl rfl rfl (by decide) (by decide) (by decide) rfl rfl ?_
                refine mr_iload (pc' := 119) dX3_spread_117 rfl rfl ?_
                refine mr_aload_n (pc' := 120) dX3_spread_119 rfl rfl ?_
                refine mr_getI (pc' := 123) (ci := 8) (j := 6) dX3_spread_120 rfl rfl t1 (by decide) (by decide) rfl ?_
                refine mr_imul (pc' := 124) dX3_spread_123 rfl ?_
                refine mr_iload (pc' := 126) dX3_spread_124 rfl rfl ?_
                refine mr_iadd (pc' := 127) dX3_spread_126 rfl ?_
                refine mr_iconst (pc' := 128) (v := (1 : Int32)) dX3_spread_127 rfl (by decide) ?_
                refine mr_iadd (pc' := 129) dX3_spread_128 rfl ?_
                refine mr_aload_n (pc' := 130) dX3_spread_129 rfl rfl ?_
                refine mr_getI (pc' := 133) (ci := 3) (j := 5) dX3_spread_130 rfl rfl rfl (by decide) (by decide) rfl ?_
                obtain ⟨S49, g50, h51⟩ := Option.bind_eq_some_iff.mp h47
                refine mr_iast (pc' := 134) dX3_spread_133 rfl rfl rfl g50 ?_
                refine mr_iinc (pc' := 137) (x' := (p5 + (1 : Int32))) (lv' := [(5, .int (p5 + (1 : Int32))), (7, .int (0 : Int32)), (6, .int (S0.1 45 5)), (0, .ref 45), (1, .ref p1), (2, .int p2), (3, .int p3), (4, .int p4)]) dX3_spread_134 rfl (by decide) rfl rfl rfl ?_
                refine mr_goto (t := 24) dX3_spread_137 (by decide) ?_
                exact mr_sub [(0, .ref 45), (1, .ref p1), (2, .int p2), (3, .int p3), (4, .int p4), (5, .int (p5 + (1 : Int32)))] ⟨rfl, rfl, rfl, rfl, rfl, rfl, trivial⟩ rfl (ih _ _  h51)
          · rw [if_neg c40] at h39
            refine mr_if_eq_f (t := 85) (pc' := 81) dX3_spread_78 (by decide) rfl c40 ?_
            refine mr_iconst (pc' := 82) (v := (1 : Int32)) dX3_spread_81 rfl (by decide) ?_
            refine mr_goto (t := 86) dX3_spread_82 (by decide) ?_
            refine mr_istore (pc' := 88) (lv' := [(7, .int (1 : Int32)), (6, .int (S0.1 45 5)), (0, .ref 45), (1, .ref p1), (2, .int p2), (3, .int p3), (4, .int p4), (5, .int p5)]) dX3_spread_86 rfl (by decide) rfl ?_
            refine mr_aload_n (pc' := 89) dX3_spread_88 rfl rfl ?_
            refine mr_aload_n (pc' := 90) dX3_spread_89 rfl rfl ?_
            refine mr_iload (pc' := 92) dX3_spread_90 rfl rfl ?_
            refine mr_iload (pc' := 94) dX3_spread_92 rfl rfl ?_
            obtain ⟨q52, g53, h54⟩ := Option.bind_eq_some_iff.mp h39
            refine mr_cv (pc' := 97) (a := 45) (d1 := 1) dX3_spread_94 rfl rfl rfl rfl rfl rfl (by decide) rfl (by decide) (ok_X3_gatherSources hR t1 g53) ?_
            show mr X _ _ 97 _ [] (MM RR q52) _
            refine mr_iload (pc' := 99) dX3_spread_97 rfl rfl ?_
            by_cases c55 : (1 : Int32) = (0 : Int32)
            · rw [if_pos c55] at h54
              refine mr_if_eq_t (t := 111) dX3_spread_99 (by decide) c55 ?_
              refine mr_iconst (pc' := 112) (v := (0 : Int32)) dX3_spread_111 rfl (by decide) ?_
              obtain rfl := Option.some.inj h54
              exact mr_zreturn dX3_spread_112 rfl (by decide)
            · rw [if_neg c55] at h54
              refine mr_if_eq_f (t := 111) (pc' := 102) dX3_spread_99 (by decide) rfl c55 ?_
              refine mr_aload_n (pc' := 103) dX3_spread_102 rfl rfl ?_
              refine mr_iload (pc' := 105) dX3_spread_103 rfl rfl ?_
              obtain ⟨q56, g57, h58⟩ := Option.bind_eq_some_iff.mp h54
              refine mr_cv (pc' := 108) (a := 45) (d1 := 2) dX3_spread_105 rfl rfl rfl rfl rfl rfl (by decide) rfl (by decide) (ok_X3_merge hR  g57) ?_
              show mr X _ _ 108 _ [.int q56.1] (MM RR q56.2) _
              by_cases c59 : q56.1 = (0 : Int32)
              · rw [if_pos c59] at h58
                refine mr_if_ne_f (t := 113) (pc' := 111) dX3_spread_108 (by decide) rfl (not_not_intro c59) ?_
                refine mr_iconst (pc' := 112) (v := (0 : Int32)) dX3_spread_111 rfl (by decide) ?_
                obtain rfl := Option.some.inj h58
                exact mr_zreturn dX3_spread_112 rfl (by decide)
              · rw [if_neg c59] at h58
                refine mr_if_ne_t (t := 113) dX3_spread_108 (by decide) c59 ?_
                refine mr_aload_n (pc' := 114) dX3_spread_113 rfl rfl ?_
                refine mr_getR (pc' := 117) (ci := 3) (j := 1) (b := 47) hR dX3_spread_114 rfl rfl rfl (by decide) (by decide) (by decide) rfl rfl ?_
                refine mr_iload (pc' := 119) dX3_spread_117 rfl rfl ?_
                refine mr_aload_n (pc' := 120) dX3_spread_119 rfl rfl ?_
                refine mr_getI (pc' := 123) (ci := 8) (j := 6) dX3_spread_120 rfl rfl t1 (by decide) (by decide) rfl ?_
                refine mr_imul (pc' := 124) dX3_spread_123 rfl ?_
                refine mr_iload (pc' := 126) dX3_spread_124 rfl rfl ?_
                refine mr_iadd (pc' := 127) dX3_spread_126 rfl ?_
                refine mr_iconst (pc' := 128) (v := (1 : Int32)) dX3_spread_127 rfl (by decide) ?_
                refine mr_iadd (pc' := 129) dX3_spread_128 rfl ?_
                refine mr_aload_n (pc' := 130) dX3_spread_129 rfl rfl ?_
                refine mr_getI (pc' := 133) (ci := 3) (j := 5) dX3_spread_130 rfl rfl rfl (by decide) (by decide) rfl ?_
                obtain ⟨S60, g61, h62⟩ := Option.bind_eq_some_iff.mp h58
                refine mr_iast (pc' := 134) dX3_spread_133 rfl rfl rfl g61 ?_
                refine mr_iinc (pc' := 137) (x' := (p5 + (1 : Int32))) (lv' := [(5, .int (p5 + (1 : Int32))), (7, .int (1 : Int32)), (6, .int (S0.1 45 5)), (0, .ref 45), (1, .ref p1), (2, .int p2), (3, .int p3), (4, .int p4)]) dX3_spread_134 rfl (by decide) rfl rfl rfl ?_
                refine mr_goto (t := 24) dX3_spread_137 (by decide) ?_
                exact mr_sub [(0, .ref 45), (1, .ref p1), (2, .int p2), (3, .int p3), (4, .int p4), (5, .int (p5 + (1 : Int32)))] ⟨rfl, rfl, rfl, rfl, rfl, rfl, trivial⟩ rfl (ih _ _  h62)
        · rw [if_neg c22] at h9
          refine mr_icmp_ne_t (t := 81) dX3_spread_64 (by decide) c22 ?_
          refine mr_iconst (pc' := 82) (v := (1 : Int32)) dX3_spread_81 rfl (by decide) ?_
          refine mr_goto (t := 86) dX3_spread_82 (by decide) ?_
          refine mr_istore (pc' := 88) (lv' := [(7, .int (1 : Int32)), (6, .int (S0.1 45 5)), (0, .ref 45), (1, .ref p1), (2, .int p2), (3, .int p3), (4, .int p4), (5, .int p5)]) dX3_spread_86 rfl (by decide) rfl ?_
          refine mr_aload_n (pc' := 89) dX3_spread_88 rfl rfl ?_
          refine mr_aload_n (pc' := 90) dX3_spread_89 rfl rfl ?_
          refine mr_iload (pc' := 92) dX3_spread_90 rfl rfl ?_
          refine mr_iload (pc' := 94) dX3_spread_92 rfl rfl ?_
          obtain ⟨q23, g24, h25⟩ := Option.bind_eq_some_iff.mp h9
          refine mr_cv (pc' := 97) (a := 45) (d1 := 1) dX3_spread_94 rfl rfl rfl rfl rfl rfl (by decide) rfl (by decide) (ok_X3_gatherSources hR t1 g24) ?_
          show mr X _ _ 97 _ [] (MM RR q23) _
          refine mr_iload (pc' := 99) dX3_spread_97 rfl rfl ?_
          by_cases c26 : (1 : Int32) = (0 : Int32)
          · rw [if_pos c26] at h25
            refine mr_if_eq_t (t := 111) dX3_spread_99 (by decide) c26 ?_
            refine mr_iconst (pc' := 112) (v := (0 : Int32)) dX3_spread_111 rfl (by decide) ?_
            obtain rfl := Option.some.inj h25
            exact mr_zreturn dX3_spread_112 rfl (by decide)
          · rw [if_neg c26] at h25
            refine mr_if_eq_f (t := 111) (pc' := 102) dX3_spread_99 (by decide) rfl c26 ?_
            refine mr_aload_n (pc' := 103) dX3_spread_102 rfl rfl ?_
            refine mr_iload (pc' := 105) dX3_spread_103 rfl rfl ?_
            obtain ⟨q27, g28, h29⟩ := Option.bind_eq_some_iff.mp h25
            refine mr_cv (pc' := 108) (a := 45) (d1 := 2) dX3_spread_105 rfl rfl rfl rfl rfl rfl (by decide) rfl (by decide) (ok_X3_merge hR  g28) ?_
            show mr X _ _ 108 _ [.int q27.1] (MM RR q27.2) _
            by_cases c30 : q27.1 = (0 : Int32)
            · rw [if_pos c30] at h29
              refine mr_if_ne_f (t := 113) (pc' := 111) dX3_spread_108 (by decide) rfl (not_not_intro c30) ?_
              refine mr_iconst (pc' := 112) (v := (0 : Int32)) dX3_spread_111 rfl (by decide) ?_
              obtain rfl := Option.some.inj h29
              exact mr_zreturn dX3_spread_112 rfl (by decide)
            · rw [if_neg c30] at h29
              refine mr_if_ne_t (t := 113) dX3_spread_108 (by decide) c30 ?_
              refine mr_aload_n (pc' := 114) dX3_spread_113 rfl rfl ?_
              refine mr_getR (pc' := 117) (ci := 3) (j := 1) (b := 47) hR dX3_spread_114 rfl rfl rfl (by decide) (by decide) (by decide) rfl rfl ?_
              refine mr_iload (pc' := 119) dX3_spread_117 rfl rfl ?_
              refine mr_aload_n (pc' := 120) dX3_spread_119 rfl rfl ?_
              refine mr_getI (pc' := 123) (ci := 8) (j := 6) dX3_spread_120 rfl rfl t1 (by decide) (by decide) rfl ?_
              refine mr_imul (pc' := 124) dX3_spread_123 rfl ?_
              refine mr_iload (pc' := 126) dX3_spread_124 rfl rfl ?_
              refine mr_iadd (pc' := 127) dX3_spread_126 rfl ?_
              refine mr_iconst (pc' := 128) (v := (1 : Int32)) dX3_spread_127 rfl (by decide) ?_
              refine mr_iadd (pc' := 129) dX3_spread_128 rfl ?_
              refine mr_aload_n (pc' := 130) dX3_spread_129 rfl rfl ?_
              refine mr_getI (pc' := 133) (ci := 3) (j := 5) dX3_spread_130 rfl rfl rfl (by decide) (by decide) rfl ?_
              obtain ⟨S31, g32, h33⟩ := Option.bind_eq_some_iff.mp h29
              refine mr_iast (pc' := 134) dX3_spread_133 rfl rfl rfl g32 ?_
              refine mr_iinc (pc' := 137) (x' := (p5 + (1 : Int32))) (lv' := [(5, .int (p5 + (1 : Int32))), (7, .int (1 : Int32)), (6, .int (S0.1 45 5)), (0, .ref 45), (1, .ref p1), (2, .int p2), (3, .int p3), (4, .int p4)]) dX3_spread_134 rfl (by decide) rfl rfl rfl ?_
              refine mr_goto (t := 24) dX3_spread_137 (by decide) ?_
              exact mr_sub [(0, .ref 45), (1, .ref p1), (2, .int p2), (3, .int p3), (4, .int p4), (5, .int (p5 + (1 : Int32)))] ⟨rfl, rfl, rfl, rfl, rfl, rfl, trivial⟩ rfl (ih _ _  h33)
def lp_X3_spread_8 (p1 : Nat) (p2 : Int32) (p3 : Int32) (K : fS → Option (Int32 × fS)) : Nat → Int32 → fS → Option (Int32 × fS)
  | 0, _, _ => none
  | n + 1, p4, S0 =>
    if p3 < p4 then (K S0) else
    (if (16 : Int32) < p4 then (K S0) else
    (lp_X3_spread_24 p1 p2 p3 p4 (fun S63 => lp_X3_spread_8 p1 p2 p3 K n (p4 + (1 : Int32)) S63) FU (0 : Int32) S0))
set_option maxHeartbeats 4000000 in
set_option maxRecDepth 100000 in
theorem ok_lp_X3_spread_8 {X : mm_C} {RR : Nat → Nat → Option Nat} (hR : RRok RR) {p1 : Nat} {p2 : Int32} {p3 : Int32} (t1 : tg p1 = 8) {K : fS → Option (Int32 × fS)} {r : Int32 × fS} (hK : ∀ (Sk : fS), K Sk = some r → mr X 3 mY_X3_spread 146 [] [] (MM RR Sk) (some (.int r.1), MM RR r.2)) : ∀ (n : Nat) (p4 : Int32) (S0 : fS), lp_X3_spread_8 p1 p2 p3 K n p4 S0 = some r → mr X 3 mY_X3_spread 8 [(0, .ref 45), (1, .ref p1), (2, .int p2), (3, .int p3), (4, .int p4)] [] (MM RR S0) (some (.int r.1), MM RR r.2) := by
  intro n
  induction n with
  | zero => intro p4 S0 h; exact mm_no h
  | succ n ih =>
    intro p4 S0 h
    unfold lp_X3_spread_8 at h
    refine mr_iload (pc' := 10) dX3_spread_8 rfl rfl ?_
    refine mr_iload_n (pc' := 11) dX3_spread_10 rfl rfl ?_
    by_cases c4 : p3 < p4
    · rw [if_pos c4] at h
      refine mr_icmp_gt_t (t := 146) dX3_spread_11 (by decide) c4 ?_
      exact mr_sub [] trivial rfl (hK _  h)
    · rw [if_neg c4] at h
      refine mr_icmp_gt_f (t := 146) (pc' := 14) dX3_spread_11 (by decide) rfl c4 ?_
      refine mr_iload (pc' := 16) dX3_spread_14 rfl rfl ?_
      refine mr_bipush (pc' := 18) (v := (16 : Int32)) dX3_spread_16 rfl (by decide) ?_
      by_cases c5 : (16 : Int32) < p4
      · rw [if_pos c5] at h
        refine mr_icmp_gt_t (t := 146) dX3_spread_18 (by decide) c5 ?_
        exact mr_sub [] trivial rfl (hK _  h)
      · rw [if_neg c5] at h
        refine mr_icmp_gt_f (t := 146) (pc' := 21) dX3_spread_18 (by decide) rfl c5 ?_
        refine mr_iconst (pc' := 22) (v := (0 : Int32)) dX3_spread_21 rfl (by decide) ?_
        refine mr_istore (pc' := 24) (lv' := [(5, .int (0 : Int32)), (0, .ref 45), (1, .ref p1), (2, .int p2), (3, .int p3), (4, .int p4)]) dX3_spread_22 rfl (by decide) rfl ?_
        refine mr_sub [(0, .ref 45), (1, .ref p1), (2, .int p2), (3, .int p3), (4, .int p4), (5, .int (0 : Int32))] ⟨rfl, rfl, rfl, rfl, rfl, rfl, trivial⟩ rfl ?_
        refine ok_lp_X3_spread_24 hR t1 (fun S63 h64 => ?_) FU _ _  h
        refine mr_iinc (pc' := 143) (x' := (p4 + (1 : Int32))) (lv' := [(4, .int (p4 + (1 : Int32))), (0, .ref 45), (1, .ref p1), (2, .int p2), (3, .int p3)]) dX3_spread_140 rfl (by decide) rfl rfl rfl ?_
        refine mr_goto (t := 8) dX3_spread_143 (by decide) ?_
        exact mr_sub [(0, .ref 45), (1, .ref p1), (2, .int p2), (3, .int p3), (4, .int (p4 + (1 : Int32)))] ⟨rfl, rfl, rfl, rfl, rfl, trivial⟩ rfl (ih _ _  h64)
def f_X3_spread (v1 : Nat) (v2 : Int32) (v3 : Int32) (S : fS) : Option (Int32 × fS) :=
  (some (pI S 45 5 (0 : Int32))).bind fun S1 =>
  lp_X3_spread_8 v1 v2 v3 (fun S65 => some ((1 : Int32), S65)) FU (0 : Int32) S1
set_option maxHeartbeats 4000000 in
set_option maxRecDepth 100000 in
theorem ok_X3_spread {X : mm_C} {RR : Nat → Nat → Option Nat} (hR : RRok RR) {v1 : Nat} {v2 : Int32} {v3 : Int32} (t1 : tg v1 = 8) {S : fS} {r : Int32 × fS} (h : f_X3_spread v1 v2 v3 S = some r) : mr X 3 mY_X3_spread 0 (lv_args 0 [.ref 45, .ref v1, .int v2, .int v3]) [] (MM RR S) (some (.int r.1), MM RR r.2) := by
  unfold f_X3_spread at h
  show mr X _ _ 0 [(0, .ref 45), (1, .ref v1), (2, .int v2), (3, .int v3)] [] (MM RR S) _
  refine mr_aload_n (pc' := 1) dX3_spread_0 rfl rfl ?_
  refine mr_iconst (pc' := 2) (v := (0 : Int32)) dX3_spread_1 rfl (by decide) ?_
  obtain ⟨S1, g2, h3⟩ := Option.bind_eq_some_iff.mp h
  refine mr_putI (pc' := 5) (ci := 3) (j := 5) dX3_spread_2 rfl rfl rfl (by decide) (by decide) rfl rfl ?_
  rw [Option.some.inj g2]
  refine mr_iconst (pc' := 6) (v := (0 : Int32)) dX3_spread_5 rfl (by decide) ?_
  refine mr_istore (pc' := 8) (lv' := [(4, .int (0 : Int32)), (0, .ref 45), (1, .ref v1), (2, .int v2), (3, .int v3)]) dX3_spread_6 rfl (by decide) rfl ?_
  refine mr_sub [(0, .ref 45), (1, .ref v1), (2, .int v2), (3, .int v3), (4, .int (0 : Int32))] ⟨rfl, rfl, rfl, rfl, rfl, trivial⟩ rfl ?_
  refine ok_lp_X3_spread_8 hR t1 (fun S65 h66 => ?_) FU _ _  h3
  refine mr_iconst (pc' := 147) (v := (1 : Int32)) dX3_spread_146 rfl (by decide) ?_
  obtain rfl := Option.some.inj h66
  exact mr_zreturn dX3_spread_147 rfl (by decide)
def f_X3_carriedOf (v0 : Int64) (S : fS) : Option (Int32) :=
  some (Int64.toInt32 (v0 &&& (31 : Int64)))
set_option maxHeartbeats 4000000 in
set_option maxRecDepth 100000 in
theorem ok_X3_carriedOf {X : mm_C} {RR : Nat → Nat → Option Nat} (hR : RRok RR) {v0 : Int64}  {S : fS} {r : Int32} (h : f_X3_carriedOf v0 S = some r) : mr X 0 mY_X3_carriedOf 0 (lv_args 0 [.long v0]) [] (MM RR S) (some (.int r), MM RR S) := by
  unfold f_X3_carriedOf at h
  show mr X _ _ 0 [(0, .long v0)] [] (MM RR S) _
  refine mr_lload_n (pc' := 1) dX3_carriedOf_0 rfl rfl ?_
  refine mr_ldc2 (pc' := 4) (v := (31 : Int64)) dX3_carriedOf_1 rfl rfl ?_
  refine mr_land (pc' := 5) dX3_carriedOf_4 rfl ?_
  refine mr_l2i (pc' := 6) dX3_carriedOf_5 rfl ?_
  obtain rfl := Option.some.inj h
  exact mr_ireturn dX3_carriedOf_6 rfl
def lp_X3_leastCarried_23 (p4 : Int64) (p6 : Int64) (p9 : Int32) (S : fS) (K : Int32 → Option (Int32)) : Nat → Int32 → Int32 → Option (Int32)
  | 0, _, _ => none
  | n + 1, p8, p10 =>
    (gI S 47 171 (p9 + (1 : Int32))).bind fun a4 =>
    if a4 ≤ p10 then (K p8) else
    ((gL S 46 4000 p10).bind fun a8 =>
    (f_X3_ageOf a8 S).bind fun q11 =>
    if q11 < p4 then (if (0 : Int32) = (0 : Int32) then (lp_X3_leastCarried_23 p4 p6 p9 S K n p8 (p10 + (1 : Int32))) else
    (if p8 < (0 : Int32) then ((gL S 46 4000 p10).bind fun a17 =>
    (f_X3_carriedOf a17 S).bind fun q20 =>
    lp_X3_leastCarried_23 p4 p6 p9 S K n q20 (p10 + (1 : Int32))) else
    ((gL S 46 4000 p10).bind fun a23 =>
    (f_X3_carriedOf a23 S).bind fun q26 =>
    if p8 ≤ q26 then (lp_X3_leastCarried_23 p4 p6 p9 S K n p8 (p10 + (1 : Int32))) else
    ((gL S 46 4000 p10).bind fun a30 =>
    (f_X3_carriedOf a30 S).bind fun q33 =>
    lp_X3_leastCarried_23 p4 p6 p9 S K n q33 (p10 + (1 : Int32)))))) else
    ((gL S 46 4000 p10).bind fun a36 =>
    (f_X3_ageOf a36 S).bind fun q39 =>
    if p6 < q39 then (if (0 : Int32) = (0 : Int32) then (lp_X3_leastCarried_23 p4 p6 p9 S K n p8 (p10 + (1 : Int32))) else
    (if p8 < (0 : Int32) then ((gL S 46 4000 p10).bind fun a45 =>
    (f_X3_carriedOf a45 S).bind fun q48 =>
    lp_X3_leastCarried_23 p4 p6 p9 S K n q48 (p10 + (1 : Int32))) else
    ((gL S 46 4000 p10).bind fun a51 =>
    (f_X3_carriedOf a51 S).bind fun q54 =>
    if p8 ≤ q54 then (lp_X3_leastCarried_23 p4 p6 p9 S K n p8 (p10 + (1 : Int32))) else
    ((gL S 46 4000 p10).bind fun a58 =>
    (f_X3_carriedOf a58 S).bind fun q61 =>
    lp_X3_leastCarried_23 p4 p6 p9 S K n q61 (p10 + (1 : Int32)))))) else
    (if (1 : Int32) = (0 : Int32) then (lp_X3_leastCarried_23 p4 p6 p9 S K n p8 (p10 + (1 : Int32))) else
    (if p8 < (0 : Int32) then ((gL S 46 4000 p10).bind fun a66 =>
    (f_X3_carriedOf a66 S).bind fun q69 =>
    lp_X3_leastCarried_23 p4 p6 p9 S K n q69 (p10 + (1 : Int32))) else
    ((gL S 46 4000 p10).bind fun a72 =>
    (f_X3_carriedOf a72 S).bind fun q75 =>
    if p8 ≤ q75 then (lp_X3_leastCarried_23 p4 p6 p9 S K n p8 (p10 + (1 : Int32))) else
    ((gL S 46 4000 p10).bind fun a79 =>
    (f_X3_carriedOf a79 S).bind fun q82 =>
    lp_X3_leastCarried_23 p4 p6 p9 S K n q82 (p10 + (1 : Int32))))))))
set_option maxHeartbeats 4000000 in
set_option maxRecDepth 100000 in
theorem ok_lp_X3_leastCarried_23 {X : mm_C} {RR : Nat → Nat → Option Nat} (hR : RRok RR) {p4 : Int64} {p6 : Int64} {p9 : Int32}  {S : fS} {K : Int32 → Option (Int32)} {r : Int32} (hK : ∀ (k8 : Int32), K k8 = some r → mr X 1 mY_X3_leastCarried 119 [(8, .int k8)] [] (MM RR S) (some (.int r), MM RR S)) : ∀ (n : Nat) (p8 : Int32) (p10 : Int32), lp_X3_leastCarried_23 p4 p6 p9 S K n p8 p10 = some r → mr X 1 mY_X3_leastCarried 23 [(0, .ref 45), (4, .long p4), (6, .long p6), (8, .int p8), (9, .int p9), (10, .int p10)] [] (MM RR S) (some (.int r), MM RR S) := by
  intro n
  induction n with
  | zero => intro p8 p10 h; exact mm_no h
  | succ n ih =>
    intro p8 p10 h
    unfold lp_X3_leastCarried_23 at h
    refine mr_iload (pc' := 25) dX3_leastCarried_23 rfl rfl ?_
    refine mr_aload_n (pc' := 26) dX3_leastCarried_25 rfl rfl ?_
    refine mr_getR (pc' := 29) (ci := 3) (j := 1) (b := 47) hR dX3_leastCarried_26 rfl rfl rfl (by decide) (by decide) (by decide) rfl rfl ?_
    refine mr_iload (pc' := 31) dX3_leastCarried_29 rfl rfl ?_
    refine mr_iconst (pc' := 32) (v := (1 : Int32)) dX3_leastCarried_31 rfl (by decide) ?_
    refine mr_iadd (pc' := 33) dX3_leastCarried_32 rfl ?_
    obtain ⟨a4, g5, h6⟩ := Option.bind_eq_some_iff.mp h
    refine mr_iald (pc' := 34) dX3_leastCarried_33 rfl rfl rfl g5 ?_
    by_cases c7 : a4 ≤ p10
    · rw [if_pos c7] at h6
      refine mr_icmp_ge_t (t := 119) dX3_leastCarried_34 (by decide) c7 ?_
      exact mr_sub [(8, .int p8)] ⟨rfl, trivial⟩ rfl (hK _  h6)
    · rw [if_neg c7] at h6
      refine mr_icmp_ge_f (t := 119) (pc' := 37) dX3_leastCarried_34 (by decide) rfl c7 ?_
      refine mr_aload_n (pc' := 38) dX3_leastCarried_37 rfl rfl ?_
      refine mr_getR (pc' := 41) (ci := 3) (j := 0) (b := 46) hR dX3_leastCarried_38 rfl rfl rfl (by decide) (by decide) (by decide) rfl rfl ?_
      refine mr_iload (pc' := 43) dX3_leastCarried_41 rfl rfl ?_
      obtain ⟨a8, g9, h10⟩ := Option.bind_eq_some_iff.mp h6
      refine mr_lald (pc' := 44) dX3_leastCarried_43 rfl rfl rfl g9 ?_
      obtain ⟨q11, g12, h13⟩ := Option.bind_eq_some_iff.mp h10
      refine mr_cs (pc' := 47) (d1 := 0) dX3_leastCarried_44 rfl rfl rfl rfl (by decide) (Nat.le_of_ble_eq_true rfl) rfl rfl rfl (by decide) (ok_X3_ageOf hR  g12) ?_
      show mr X _ _ 47 _ [.long q11] (MM RR S) _
      refine mr_lload (pc' := 49) dX3_leastCarried_47 rfl rfl ?_
      by_cases c14 : q11 < p4
      · rw [if_pos c14] at h13
        refine mr_lcmp_lt_t (t := 73) dX3_leastCarried_49 rfl dX3_leastCarried_50 (by decide) c14 ?_
        refine mr_iconst (pc' := 74) (v := (0 : Int32)) dX3_leastCarried_73 rfl (by decide) ?_
        refine mr_istore (pc' := 76) (lv' := [(11, .int (0 : Int32)), (0, .ref 45), (4, .long p4), (6, .long p6), (8, .int p8), (9, .int p9), (10, .int p10)]) dX3_leastCarried_74 rfl (by decide) rfl ?_
        refine mr_iload (pc' := 78) dX3_leastCarried_76 rfl rfl ?_
        by_cases c15 : (0 : Int32) = (0 : Int32)
        · rw [if_pos c15] at h13
          refine mr_if_eq_t (t := 113) dX3_leastCarried_78 (by decide) c15 ?_
          refine mr_iinc (pc' := 116) (x' := (p10 + (1 : Int32))) (lv' := [(10, .int (p10 + (1 : Int32))), (11, .int (0 : Int32)), (0, .ref 45), (4, .long p4), (6, .long p6), (8, .int p8), (9, .int p9)]) dX3_leastCarried_113 rfl (by decide) rfl rfl rfl ?_
          refine mr_goto (t := 23) dX3_leastCarried_116 (by decide) ?_
          exact mr_sub [(0, .ref 45), (4, .long p4), (6, .long p6), (8, .int p8), (9, .int p9), (10, .int (p10 + (1 : Int32)))] ⟨rfl, rfl, rfl, rfl, rfl, rfl, trivial⟩ rfl (ih _ _  h13)
        · rw [if_neg c15] at h13
          refine mr_if_eq_f (t := 113) (pc' := 81) dX3_leastCarried_78 (by decide) rfl c15 ?_
          refine mr_iload (pc' := 83) dX3_leastCarried_81 rfl rfl ?_
          by_cases c16 : p8 < (0 : Int32)
          · rw [if_pos c16] at h13
            refine mr_if_lt_t (t := 101) dX3_leastCarried_83 (by decide) c16 ?_
            refine mr_aload_n (pc' := 102) dX3_leastCarried_101 rfl rfl ?_
            refine mr_getR (pc' := 105) (ci := 3) (j := 0) (b := 46) hR dX3_leastCarried_102 rfl rfl rfl (by decide) (by decide) (by decide) rfl rfl ?_
            refine mr_iload (pc' := 107) dX3_leastCarried_105 rfl rfl ?_
            obtain ⟨a17, g18, h19⟩ := Option.bind_eq_some_iff.mp h13
            refine mr_lald (pc' := 108) dX3_leastCarried_107 rfl rfl rfl g18 ?_
            obtain ⟨q20, g21, h22⟩ := Option.bind_eq_some_iff.mp h19
            refine mr_cs (pc' := 111) (d1 := 0) dX3_leastCarried_108 rfl rfl rfl rfl (by decide) (Nat.le_of_ble_eq_true rfl) rfl rfl rfl (by decide) (ok_X3_carriedOf hR  g21) ?_
            show mr X _ _ 111 _ [.int q20] (MM RR S) _
            refine mr_istore (pc' := 113) (lv' := [(8, .int q20), (11, .int (0 : Int32)), (0, .ref 45), (4, .long p4), (6, .long p6), (9, .int p9), (10, .int p10)]) dX3_leastCarried_111 rfl (by decide) rfl ?_
            refine mr_iinc (pc' := 116) (x' := (p10 + (1 : Int32))) (lv' := [(10, .int (p10 + (1 : Int32))), (8, .int q20), (11, .int (0 : Int32)), (0, .ref 45), (4, .long p4), (6, .long p6), (9, .int p9)]) dX3_leastCarried_113 rfl (by decide) rfl rfl rfl ?_
            refine mr_goto (t := 23) dX3_leastCarried_116 (by decide) ?_
            exact mr_sub [(0, .ref 45), (4, .long p4), (6, .long p6), (8, .int q20), (9, .int p9), (10, .int (p10 + (1 : Int32)))] ⟨rfl, rfl, rfl, rfl, rfl, rfl, trivial⟩ rfl (ih _ _  h22)
          · rw [if_neg c16] at h13
            refine mr_if_lt_f (t := 101) (pc' := 86) dX3_leastCarried_83 (by decide) rfl c16 ?_
            refine mr_aload_n (pc' := 87) dX3_leastCarried_86 rfl rfl ?_
            refine mr_getR (pc' := 90) (ci := 3) (j := 0) (b := 46) hR dX3_leastCarried_87 rfl rfl rfl (by decide) (by decide) (by decide) rfl rfl ?_
            refine mr_iload (pc' := 92) dX3_leastCarried_90 rfl rfl ?_
            obtain ⟨a23, g24, h25⟩ := Option.bind_eq_some_iff.mp h13
            refine mr_lald (pc' := 93) dX3_leastCarried_92 rfl rfl rfl g24 ?_
            obtain ⟨q26, g27, h28⟩ := Option.bind_eq_some_iff.mp h25
            refine mr_cs (pc' := 96) (d1 := 0) dX3_leastCarried_93 rfl rfl rfl rfl (by decide) (Nat.le_of_ble_eq_true rfl) rfl rfl rfl (by decide) (ok_X3_carriedOf hR  g27) ?_
            show mr X _ _ 96 _ [.int q26] (MM RR S) _
            refine mr_iload (pc' := 98) dX3_leastCarried_96 rfl rfl ?_
            by_cases c29 : p8 ≤ q26
            · rw [if_pos c29] at h28
              refine mr_icmp_ge_t (t := 113) dX3_leastCarried_98 (by decide) c29 ?_
              refine mr_iinc (pc' := 116) (x' := (p10 + (1 : Int32))) (lv' := [(10, .int (p10 + (1 : Int32))), (11, .int (0 : Int32)), (0, .ref 45), (4, .long p4), (6, .long p6), (8, .int p8), (9, .int p9)]) dX3_leastCarried_113 rfl (by decide) rfl rfl rfl ?_
              refine mr_goto (t := 23) dX3_leastCarried_116 (by decide) ?_
              exact mr_sub [(0, .ref 45), (4, .long p4), (6, .long p6), (8, .int p8), (9, .int p9), (10, .int (p10 + (1 : Int32)))] ⟨rfl, rfl, rfl, rfl, rfl, rfl, trivial⟩ rfl (ih _ _  h28)
            · rw [if_neg c29] at h28
              refine mr_icmp_ge_f (t := 113) (pc' := 101) dX3_leastCarried_98 (by decide) rfl c29 ?_
              refine mr_aload_n (pc' := 102) dX3_leastCarried_101 rfl rfl ?_
              refine mr_getR (pc' := 105) (ci := 3) (j := 0) (b := 46) hR dX3_leastCarried_102 rfl rfl rfl (by decide) (by decide) (by decide) rfl rfl ?_
              refine mr_iload (pc' := 107) dX3_leastCarried_105 rfl rfl ?_
              obtain ⟨a30, g31, h32⟩ := Option.bind_eq_some_iff.mp h28
              refine mr_lald (pc' := 108) dX3_leastCarried_107 rfl rfl rfl g31 ?_
              obtain ⟨q33, g34, h35⟩ := Option.bind_eq_some_iff.mp h32
              refine mr_cs (pc' := 111) (d1 := 0) dX3_leastCarried_108 rfl rfl rfl rfl (by decide) (Nat.le_of_ble_eq_true rfl) rfl rfl rfl (by decide) (ok_X3_carriedOf hR  g34) ?_
              show mr X _ _ 111 _ [.int q33] (MM RR S) _
              refine mr_istore (pc' := 113) (lv' := [(8, .int q33), (11, .int (0 : Int32)), (0, .ref 45), (4, .long p4), (6, .long p6), (9, .int p9), (10, .int p10)]) dX3_leastCarried_111 rfl (by decide) rfl ?_
              refine mr_iinc (pc' := 116) (x' := (p10 + (1 : Int32))) (lv' := [(10, .int (p10 + (1 : Int32))), (8, .int q33), (11, .int (0 : Int32)), (0, .ref 45), (4, .long p4), (6, .long p6), (9, .int p9)]) dX3_leastCarried_113 rfl (by decide) rfl rfl rfl ?_
              refine mr_goto (t := 23) dX3_leastCarried_116 (by decide) ?_
              exact mr_sub [(0, .ref 45), (4, .long p4), (6, .long p6), (8, .int q33), (9, .int p9), (10, .int (p10 + (1 : Int32)))] ⟨rfl, rfl, rfl, rfl, rfl, rfl, trivial⟩ rfl (ih _ _  h35)
      · rw [if_neg c14] at h13
        refine mr_lcmp_lt_f (t := 73) (pc' := 53) dX3_leastCarried_49 rfl dX3_leastCarried_50 (by decide) rfl c14 ?_
        refine mr_aload_n (pc' := 54) dX3_leastCarried_53 rfl rfl ?_
        refine mr_getR (pc' := 57) (ci := 3) (j := 0) (b := 46) hR dX3_leastCarried_54 rfl rfl rfl (by decide) (by decide) (by decide) rfl rfl ?_
        refine mr_iload (pc' := 59) dX3_leastCarried_57 rfl rfl ?_
        obtain ⟨a36, g37, h38⟩ := Option.bind_eq_some_iff.mp h13
        refine mr_lald (pc' := 60) dX3_leastCarried_59 rfl rfl rfl g37 ?_
        obtain ⟨q39, g40, h41⟩ := Option.bind_eq_some_iff.mp h38
        refine mr_cs (pc' := 63) (d1 := 0) dX3_leastCarried_60 rfl rfl rfl rfl (by decide) (Nat.le_of_ble_eq_true rfl) rfl rfl rfl (by decide) (ok_X3_ageOf hR  g40) ?_
        show mr X _ _ 63 _ [.long q39] (MM RR S) _
        refine mr_lload (pc' := 65) dX3_leastCarried_63 rfl rfl ?_
        by_cases c42 : p6 < q39
        · rw [if_pos c42] at h41
          refine mr_lcmp_gt_t (t := 73) dX3_leastCarried_65 rfl dX3_leastCarried_66 (by decide) c42 ?_
          refine mr_iconst (pc' := 74) (v := (0 : Int32)) dX3_leastCarried_73 rfl (by decide) ?_
          refine mr_istore (pc' := 76) (lv' := [(11, .int (0 : Int32)), (0, .ref 45), (4, .long p4), (6, .long p6), (8, .int p8), (9, .int p9), (10, .int p10)]) dX3_leastCarried_74 rfl (by decide) rfl ?_
          refine mr_iload (pc' := 78) dX3_leastCarried_76 rfl rfl ?_
          by_cases c43 : (0 : Int32) = (0 : Int32)
          · rw [if_pos c43] at h41
            refine mr_if_eq_t (t := 113) dX3_leastCarried_78 (by decide) c43 ?_
            refine mr_iinc (pc' := 116) (x' := (p10 + (1 : Int32))) (lv' := [(10, .int (p10 + (1 : Int32))), (11, .int (0 : Int32)), (0, .ref 45), (4, .long p4), (6, .long p6), (8, .int p8), (9, .int p9)]) dX3_leastCarried_113 rfl (by decide) rfl rfl rfl ?_
            refine mr_goto (t := 23) dX3_leastCarried_116 (by decide) ?_
            exact mr_sub [(0, .ref 45), (4, .long p4), (6, .long p6), (8, .int p8), (9, .int p9), (10, .int (p10 + (1 : Int32)))] ⟨rfl, rfl, rfl, rfl, rfl, rfl, trivial⟩ rfl (ih _ _  h41)
          · rw [if_neg c43] at h41
            refine mr_if_eq_f (t := 113) (pc' := 81) dX3_leastCarried_78 (by decide) rfl c43 ?_
            refine mr_iload (pc' := 83) dX3_leastCarried_81 rfl rfl ?_
            by_cases c44 : p8 < (0 : Int32)
            · rw [if_pos c44] at h41
              refine mr_if_lt_t (t := 101) dX3_leastCarried_83 (by decide) c44 ?_
              refine mr_aload_n (pc' := 102) dX3_leastCarried_101 rfl rfl ?_
              refine mr_getR (pc' := 105) (ci := 3) (j := 0) (b := 46) hR dX3_leastCarried_102 rfl rfl rfl (by decide) (by decide) (by decide) rfl rfl ?_
              refine mr_iload (pc' := 107) dX3_leastCarried_105 rfl rfl ?_
              obtain ⟨a45, g46, h47⟩ := Option.bind_eq_some_iff.mp h41
              refine mr_lald (pc' := 108) dX3_leastCarried_107 rfl rfl rfl g46 ?_
              obtain ⟨q48, g49, h50⟩ := Option.bind_eq_some_iff.mp h47
              refine mr_cs (pc' := 111) (d1 := 0) dX3_leastCarried_108 rfl rfl rfl rfl (by decide) (Nat.le_of_ble_eq_true rfl) rfl rfl rfl (by decide) (ok_X3_carriedOf hR  g49) ?_
              show mr X _ _ 111 _ [.int q48] (MM RR S) _
              refine mr_istore (pc' := 113) (lv' := [(8, .int q48), (11, .int (0 : Int32)), (0, .ref 45), (4, .long p4), (6, .long p6), (9, .int p9), (10, .int p10)]) dX3_leastCarried_111 rfl (by decide) rfl ?_
              refine mr_iinc (pc' := 116) (x' := (p10 + (1 : Int32))) (lv' := [(10, .int (p10 + (1 : Int32))), (8, .int q48), (11, .int (0 : Int32)), (0, .ref 45), (4, .long p4), (6, .long p6), (9, .int p9)]) dX3_leastCarried_113 rfl (by decide) rfl rfl rfl ?_
              refine mr_goto (t := 23) dX3_leastCarried_116 (by decide) ?_
              exact mr_sub [(0, .ref 45), (4, .long p4), (6, .long p6), (8, .int q48), (9, .int p9), (10, .int (p10 + (1 : Int32)))] ⟨rfl, rfl, rfl, rfl, rfl, rfl, trivial⟩ rfl (ih _ _  h50)
            · rw [if_neg c44] at h41
              refine mr_if_lt_f (t := 101) (pc' := 86) dX3_leastCarried_83 (by decide) rfl c44 ?_
              refine mr_aload_n (pc' := 87) dX3_leastCarried_86 rfl rfl ?_
              refine mr_getR (pc' := 90) (ci := 3) (j := 0) (b := 46) hR dX3_leastCarried_87 rfl rfl rfl (by decide) (by decide) (by decide) rfl rfl ?_
              refine mr_iload (pc' := 92) dX3_leastCarried_90 rfl rfl ?_
              obtain ⟨a51, g52, h53⟩ := Option.bind_eq_some_iff.mp h41
              refine mr_lald (pc' := 93) dX3_leastCarried_92 rfl rfl rfl g52 ?_
              obtain ⟨q54, g55, h56⟩ := Option.bind_eq_some_iff.mp h53
              refine mr_cs (pc' := 96) (d1 := 0) dX3_leastCarried_93 rfl rfl rfl rfl (by decide) (Nat.le_of_ble_eq_true rfl) rfl rfl rfl (by decide) (ok_X3_carriedOf hR  g55) ?_
              show mr X _ _ 96 _ [.int q54] (MM RR S) _
              refine mr_iload (pc' := 98) dX3_leastCarried_96 rfl rfl ?_
              by_cases c57 : p8 ≤ q54
              · rw [if_pos c57] at h56
                refine mr_icmp_ge_t (t := 113) dX3_leastCarried_98 (by decide) c57 ?_
                refine mr_iinc (pc' := 116) (x' := (p10 + (1 : Int32))) (lv' := [(10, .int (p10 + (1 : Int32))), (11, .int (0 : Int32)), (0, .ref 45), (4, .long p4), (6, .long p6), (8, .int p8), (9, .int p9)]) dX3_leastCarried_113 rfl (by decide) rfl rfl rfl ?_
                refine mr_goto (t := 23) dX3_leastCarried_116 (by decide) ?_
                exact mr_sub [(0, .ref 45), (4, .long p4), (6, .long p6), (8, .int p8), (9, .int p9), (10, .int (p10 + (1 : Int32)))] ⟨rfl, rfl, rfl, rfl, rfl, rfl, trivial⟩ rfl (ih _ _  h56)
              · rw [if_neg c57] at h56
                refine mr_icmp_ge_f (t := 113) (pc' := 101) dX3_leastCarried_98 (by decide) rfl c57 ?_
                refine mr_aload_n (pc' := 102) dX3_leastCarried_101 rfl rfl ?_
                refine mr_getR (pc' := 105) (ci := 3) (j := 0) (b := 46) hR dX3_leastCarried_102 rfl rfl rfl (by decide) (by decide) (by decide) rfl rfl ?_
                refine mr_iload (pc' := 107) dX3_leastCarried_105 rfl rfl ?_
                obtain ⟨a58, g59, h60⟩ := Option.bind_eq_some_iff.mp h56
                refine mr_lald (pc' := 108) dX3_leastCarried_107 rfl rfl rfl g59 ?_
                obtain ⟨q61, g62, h63⟩ := Option.bind_eq_some_iff.mp h60
                refine mr_cs (pc' := 111) (d1 := 0) dX3_leastCarried_108 rfl rfl rfl rfl (by decide) (Nat.le_of_ble_eq_true rfl) rfl rfl rfl (by decide) (ok_X3_carriedOf hR  g62) ?_
                show mr X _ _ 111 _ [.int q61] (MM RR S) _
                refine mr_istore (pc' := 113) (lv' := [(8, .int q61), (11, .int (0 : Int32)), (0, .ref 45), (4, .long p4), (6, .long p6), (9, .int p9), (10, .int p10)]) dX3_leastCarried_111 rfl (by decide) rfl ?_
                refine mr_iinc (pc' := 116) (x' := (p10 + (1 : Int32))) (lv' := [(10, .int (p10 + (1 : Int32))), (8, .int q61), (11, .int (0 : Int32)), (0, .ref 45), (4, .long p4), (6, .long p6), (9, .int p9)]) dX3_leastCarried_113 rfl (by decide) rfl rfl rfl ?_
                refine mr_goto (t := 23) dX3_leastCarried_116 (by decide) ?_
                exact mr_sub [(0, .ref 45), (4, .long p4), (6, .long p6), (8, .int q61), (9, .int p9), (10, .int (p10 + (1 : Int32)))] ⟨rfl, rfl, rfl, rfl, rfl, rfl, trivial⟩ rfl (ih _ _  h63)
        · rw [if_neg c42] at h41
          refine mr_lcmp_gt_f (t := 73) (pc' := 69) dX3_leastCarried_65 rfl dX3_leastCarried_66 (by decide) rfl c42 ?_
          refine mr_iconst (pc' := 70) (v := (1 : Int32)) dX3_leastCarried_69 rfl (by decide) ?_
          refine mr_goto (t := 74) dX3_leastCarried_70 (by decide) ?_
          refine mr_istore (pc' := 76) (lv' := [(11, .int (1 : Int32)), (0, .ref 45), (4, .long p4), (6, .long p6), (8, .int p8), (9, .int p9), (10, .int p10)]) dX3_leastCarried_74 rfl (by decide) rfl ?_
          refine mr_iload (pc' := 78) dX3_leastCarried_76 rfl rfl ?_
          by_cases c64 : (1 : Int32) = (0 : Int32)
          · rw [if_pos c64] at h41
            refine mr_if_eq_t (t := 113) dX3_leastCarried_78 (by decide) c64 ?_
            refine mr_iinc (pc' := 116) (x' := (p10 + (1 : Int32))) (lv' := [(10, .int (p10 + (1 : Int32))), (11, .int (1 : Int32)), (0, .ref 45), (4, .long p4), (6, .long p6), (8, .int p8), (9, .int p9)]) dX3_leastCarried_113 rfl (by decide) rfl rfl rfl ?_
            refine mr_goto (t := 23) dX3_leastCarried_116 (by decide) ?_
            exact mr_sub [(0, .ref 45), (4, .long p4), (6, .long p6), (8, .int p8), (9, .int p9), (10, .int (p10 + (1 : Int32)))] ⟨rfl, rfl, rfl, rfl, rfl, rfl, trivial⟩ rfl (ih _ _  h41)
          · rw [if_neg c64] at h41
            refine mr_if_eq_f (t := 113) (pc' := 81) dX3_leastCarried_78 (by decide) rfl c64 ?_
            refine mr_iload (pc' := 83) dX3_leastCarried_81 rfl rfl ?_
            by_cases c65 : p8 < (0 : Int32)
            · rw [if_pos c65] at h41
              refine mr_if_lt_t (t := 101) dX3_leastCarried_83 (by decide) c65 ?_
              refine mr_aload_n (pc' := 102) dX3_leastCarried_101 rfl rfl ?_
              refine mr_getR (pc' := 105) (ci := 3) (j := 0) (b := 46) hR dX3_leastCarried_102 rfl rfl rfl (by decide) (by decide) (by decide) rfl rfl ?_
              refine mr_iload (pc' := 107) dX3_leastCarried_105 rfl rfl ?_
              obtain ⟨a66, g67, h68⟩ := Option.bind_eq_some_iff.mp h41
              refine mr_lald (pc' := 108) dX3_leastCarried_107 rfl rfl rfl g67 ?_
              obtain ⟨q69, g70, h71⟩ := Option.bind_eq_some_iff.mp h68
              refine mr_cs (pc' := 111) (d1 := 0) dX3_leastCarried_108 rfl rfl rfl rfl (by decide) (Nat.le_of_ble_eq_true rfl) rfl rfl rfl (by decide) (ok_X3_carriedOf hR  g70) ?_
              show mr X _ _ 111 _ [.int q69] (MM RR S) _
              refine mr_istore (pc' := 113) (lv' := [(8, .int q69), (11, .int (1 : Int32)), (0, .ref 45), (4, .long p4), (6, .long p6), (9, .int p9), (10, .int p10)]) dX3_leastCarried_111 rfl (by decide) rfl ?_
              refine mr_iinc (pc' := 116) (x' := (p10 + (1 : Int32))) (lv' := [(10, .int (p10 + (1 : Int32))), (8, .int q69), (11, .int (1 : Int32)), (0, .ref 45), (4, .long p4), (6, .long p6), (9, .int p9)]) dX3_leastCarried_113 rfl (by decide) rfl rfl rfl ?_
              refine mr_goto (t := 23) dX3_leastCarried_116 (by decide) ?_
              exact mr_sub [(0, .ref 45), (4, .long p4), (6, .long p6), (8, .int q69), (9, .int p9), (10, .int (p10 + (1 : Int32)))] ⟨rfl, rfl, rfl, rfl, rfl, rfl, trivial⟩ rfl (ih _ _  h71)
            · rw [if_neg c65] at h41
              refine mr_if_lt_f (t := 101) (pc' := 86) dX3_leastCarried_83 (by decide) rfl c65 ?_
              refine mr_aload_n (pc' := 87) dX3_leastCarried_86 rfl rfl ?_
              refine mr_getR (pc' := 90) (ci := 3) (j := 0) (b := 46) hR dX3_leastCarried_87 rfl rfl rfl (by decide) (by decide) (by decide) rfl rfl ?_
              refine mr_iload (pc' := 92) dX3_leastCarried_90 rfl rfl ?_
              obtain ⟨a72, g73, h74⟩ := Option.bind_eq_some_iff.mp h41
              refine mr_lald (pc' := 93) dX3_leastCarried_92 rfl rfl rfl g73 ?_
              obtain ⟨q75, g76, h77⟩ := Option.bind_eq_some_iff.mp h74
              refine mr_cs (pc' := 96) (d1 := 0) dX3_leastCarried_93 rfl rfl rfl rfl (by decide) (Nat.le_of_ble_eq_true rfl) rfl rfl rfl (by decide) (ok_X3_carriedOf hR  g76) ?_
              show mr X _ _ 96 _ [.int q75] (MM RR S) _
              refine mr_iload (pc' := 98) dX3_leastCarried_96 rfl rfl ?_
              by_cases c78 : p8 ≤ q75
              · rw [if_pos c78] at h77
                refine mr_icmp_ge_t (t := 113) dX3_leastCarried_98 (by decide) c78 ?_
                refine mr_iinc (pc' := 116) (x' := (p10 + (1 : Int32))) (lv' := [(10, .int (p10 + (1 : Int32))), (11, .int (1 : Int32)), (0, .ref 45), (4, .long p4), (6, .long p6), (8, .int p8), (9, .int p9)]) dX3_leastCarried_113 rfl (by decide) rfl rfl rfl ?_
                refine mr_goto (t := 23) dX3_leastCarried_116 (by decide) ?_
                exact mr_sub [(0, .ref 45), (4, .long p4), (6, .long p6), (8, .int p8), (9, .int p9), (10, .int (p10 + (1 : Int32)))] ⟨rfl, rfl, rfl, rfl, rfl, rfl, trivial⟩ rfl (ih _ _  h77)
              · rw [if_neg c78] at h77
                refine mr_icmp_ge_f (t := 113) (pc' := 101) dX3_leastCarried_98 (by decide) rfl c78 ?_
                refine mr_aload_n (pc' := 102) dX3_leastCarried_101 rfl rfl ?_
                refine mr_getR (pc' := 105) (ci := 3) (j := 0) (b := 46) hR dX3_leastCarried_102 rfl rfl rfl (by decide) (by decide) (by decide) rfl rfl ?_
                refine mr_iload (pc' := 107) dX3_leastCarried_105 rfl rfl ?_
                obtain ⟨a79, g80, h81⟩ := Option.bind_eq_some_iff.mp h77
                refine mr_lald (pc' := 108) dX3_leastCarried_107 rfl rfl rfl g80 ?_
                obtain ⟨q82, g83, h84⟩ := Option.bind_eq_some_iff.mp h81
                refine mr_cs (pc' := 111) (d1 := 0) dX3_leastCarried_108 rfl rfl rfl rfl (by decide) (Nat.le_of_ble_eq_true rfl) rfl rfl rfl (by decide) (ok_X3_carriedOf hR  g83) ?_
                show mr X _ _ 111 _ [.int q82] (MM RR S) _
                refine mr_istore (pc' := 113) (lv' := [(8, .int q82), (11, .int (1 : Int32)), (0, .ref 45), (4, .long p4), (6, .long p6), (9, .int p9), (10, .int p10)]) dX3_leastCarried_111 rfl (by decide) rfl ?_
                refine mr_iinc (pc' := 116) (x' := (p10 + (1 : Int32))) (lv' := [(10, .int (p10 + (1 : Int32))), (8, .int q82), (11, .int (1 : Int32)), (0, .ref 45), (4, .long p4), (6, .long p6), (9, .int p9)]) dX3_leastCarried_113 rfl (by decide) rfl rfl rfl ?_
                refine mr_goto (t := 23) dX3_leastCarried_116 (by decide) ?_
                exact mr_sub [(0, .ref 45), (4, .long p4), (6, .long p6), (8, .int q82), (9, .int p9), (10, .int (p10 + (1 : Int32)))] ⟨rfl, rfl, rfl, rfl, rfl, rfl, trivial⟩ rfl (ih _ _  h84)
def f_X3_leastCarried (v1 : Nat) (v2 : Int32) (v3 : Int32) (v4 : Int64) (v6 : Int64) (S : fS) : Option (Int32) :=
  (gI S 47 171 ((v3 * (S.1 v1 6)) + v2)).bind fun a1 =>
  lp_X3_leastCarried_23 v4 v6 ((v3 * (S.1 v1 6)) + v2) S (fun u85 => some u85) FU (-2 : Int32) a1
set_option maxHeartbeats 4000000 in
set_option maxRecDepth 100000 in
theorem ok_X3_leastCarried {X : mm_C} {RR : Nat → Nat → Option Nat} (hR : RRok RR) {v1 : Nat} {v2 : Int32} {v3 : Int32} {v4 : Int64} {v6 : Int64} (t1 : tg v1 = 8) {S : fS} {r : Int32} (h : f_X3_leastCarried v1 v2 v3 v4 v6 S = some r) : mr X 1 mY_X3_leastCarried 0 (lv_args 0 [.ref 45, .ref v1, .int v2, .int v3, .long v4, .long v6]) [] (MM RR S) (some (.int r), MM RR S) := by
  unfold f_X3_leastCarried at h
  show mr X _ _ 0 [(0, .ref 45), (1, .ref v1), (2, .int v2), (3, .int v3), (4, .long v4), (6, .long v6)] [] (MM RR S) _
  refine mr_bipush (pc' := 2) (v := (-2 : Int32)) dX3_leastCarried_0 rfl (by decide) ?_
  refine mr_istore (pc' := 4) (lv' := [(8, .int (-2 : Int32)), (0, .ref 45), (1, .ref v1), (2, .int v2), (3, .int v3), (4, .long v4), (6, .long v6)]) dX3_leastCarried_2 rfl (by decide) rfl ?_
  refine mr_iload_n (pc' := 5) dX3_leastCarried_4 rfl rfl ?_
  refine mr_aload_n (pc' := 6) dX3_leastCarried_5 rfl rfl ?_
  refine mr_getI (pc' := 9) (ci := 8) (j := 6) dX3_leastCarried_6 rfl rfl t1 (by decide) (by decide) rfl ?_
  refine mr_imul (pc' := 10) dX3_leastCarried_9 rfl ?_
  refine mr_iload_n (pc' := 11) dX3_leastCarried_10 rfl rfl ?_
  refine mr_iadd (pc' := 12) dX3_leastCarried_11 rfl ?_
  refine mr_istore (pc' := 14) (lv' := [(9, .int ((v3 * (S.1 v1 6)) + v2)), (8, .int (-2 : Int32)), (0, .ref 45), (1, .ref v1), (2, .int v2), (3, .int v3), (4, .long v4), (6, .long v6)]) dX3_leastCarried_12 rfl (by decide) rfl ?_
  refine mr_aload_n (pc' := 15) dX3_leastCarried_14 rfl rfl ?_
  refine mr_getR (pc' := 18) (ci := 3) (j := 1) (b := 47) hR dX3_leastCarried_15 rfl rfl rfl (by decide) (by decide) (by decide) rfl rfl ?_
  refine mr_iload (pc' := 20) dX3_leastCarried_18 rfl rfl ?_
  obtain ⟨a1, g2, h3⟩ := Option.bind_eq_some_iff.mp h
  refine mr_iald (pc' := 21) dX3_leastCarried_20 rfl rfl rfl g2 ?_
  refine mr_istore (pc' := 23) (lv' := [(10, .int a1), (9, .int ((v3 * (S.1 v1 6)) + v2)), (8, .int (-2 : Int32)), (0, .ref 45), (1, .ref v1), (2, .int v2), (3, .int v3), (4, .long v4), (6, .long v6)]) dX3_leastCarried_21 rfl (by decide) rfl ?_
  refine mr_sub [(0, .ref 45), (4, .long v4), (6, .long v6), (8, .int (-2 : Int32)), (9, .int ((v3 * (S.1 v1 6)) + v2)), (10, .int a1)] ⟨rfl, rfl, rfl, rfl, rfl, rfl, trivial⟩ rfl ?_
  refine ok_lp_X3_leastCarried_23 hR  (fun u85 h86 => ?_) FU _ _  h3
  refine mr_iload (pc' := 121) dX3_leastCarried_119 rfl rfl ?_
  obtain rfl := Option.some.inj h86
  exact mr_ireturn dX3_leastCarried_121 rfl
def f_X10_ripe (v1 : Int32) (v2 : Int32) (v3 : Int32) (v4 : Int32) (v5 : Int32) (S : fS) : Option (Int32 × fS) :=
  (f_X10_isFloor v1 S).bind fun q1 =>
  if q1 = (0 : Int32) then (some ((-1 : Int32), S)) else
  ((f_X10_isFloor v2 S).bind fun q5 =>
  if q5 = (0 : Int32) then (some ((-1 : Int32), S)) else
  ((f_X10_isFrom v3 (0 : Int32) (16 : Int32) S).bind fun q9 =>
  if q9 = (0 : Int32) then (some ((-1 : Int32), S)) else
  ((f_X10_isFrom v4 (0 : Int32) (999 : Int32) S).bind fun q13 =>
  if q13 = (0 : Int32) then (some ((-1 : Int32), S)) else
  ((f_X10_isFrom v5 v4 (999 : Int32) S).bind fun q17 =>
  if q17 = (0 : Int32) then (some ((-1 : Int32), S)) else
  ((f_X3_spread 4 v1 v3 S).bind fun q21 =>
  if q21.1 = (0 : Int32) then (some ((-3 : Int32), q21.2)) else
  ((f_X3_leastCarried 4 v2 v3 ((Int32.toInt64 v4) * (232792560 : Int64)) ((Int32.toInt64 v5) * (232792560 : Int64)) q21.2).bind fun q25 =>
  some (q25, q21.2)))))))
set_option maxHeartbeats 4000000 in
set_option maxRecDepth 100000 in
theorem ok_X10_ripe {X : mm_C} {RR : Nat → Nat → Option Nat} (hR : RRok RR) {v1 : Int32} {v2 : Int32} {v3 : Int32} {v4 : Int32} {v5 : Int32}  {S : fS} {r : Int32 × fS} (h : f_X10_ripe v1 v2 v3 v4 v5 S = some r) : mr X 4 mY_X10_ripe 0 (lv_args 0 [.ref 0, .int v1, .int v2, .int v3, .int v4, .int v5]) [] (MM RR S) (some (.int r.1), MM RR r.2) := by
  unfold f_X10_ripe at h
  show mr X _ _ 0 [(0, .ref 0), (1, .int v1), (2, .int v2), (3, .int v3), (4, .int v4), (5, .int v5)] [] (MM RR S) _
  refine mr_aload_n (pc' := 1) dX10_ripe_0 rfl rfl ?_
  refine mr_iload_n (pc' := 2) dX10_ripe_1 rfl rfl ?_
  obtain ⟨q1, g2, h3⟩ := Option.bind_eq_some_iff.mp h
  refine mr_cv (pc' := 5) (a := 0) (d1 := 1) dX10_ripe_2 rfl rfl rfl rfl rfl rfl (by decide) rfl (by decide) (ok_X10_isFloor hR  g2) ?_
  show mr X _ _ 5 _ [.int q1] (MM RR S) _
  by_cases c4 : q1 = (0 : Int32)
  · rw [if_pos c4] at h3
    refine mr_if_eq_t (t := 26) dX10_ripe_5 (by decide) c4 ?_
    refine mr_iconst (pc' := 27) (v := (-1 : Int32)) dX10_ripe_26 rfl (by decide) ?_
    obtain rfl := Option.some.inj h3
    exact mr_ireturn dX10_ripe_27 rfl
  · rw [if_neg c4] at h3
    refine mr_if_eq_f (t := 26) (pc' := 8) dX10_ripe_5 (by decide) rfl c4 ?_
    refine mr_aload_n (pc' := 9) dX10_ripe_8 rfl rfl ?_
    refine mr_iload_n (pc' := 10) dX10_ripe_9 rfl rfl ?_
    obtain ⟨q5, g6, h7⟩ := Option.bind_eq_some_iff.mp h3
    refine mr_cv (pc' := 13) (a := 0) (d1 := 1) dX10_ripe_10 rfl rfl rfl rfl rfl rfl (by decide) rfl (by decide) (ok_X10_isFloor hR  g6) ?_
    show mr X _ _ 13 _ [.int q5] (MM RR S) _
    by_cases c8 : q5 = (0 : Int32)
    · rw [if_pos c8] at h7
      refine mr_if_eq_t (t := 26) dX10_ripe_13 (by decide) c8 ?_
      refine mr_iconst (pc' := 27) (v := (-1 : Int32)) dX10_ripe_26 rfl (by decide) ?_
      obtain rfl := Option.some.inj h7
      exact mr_ireturn dX10_ripe_27 rfl
    · rw [if_neg c8] at h7
      refine mr_if_eq_f (t := 26) (pc' := 16) dX10_ripe_13 (by decide) rfl c8 ?_
      refine mr_iload_n (pc' := 17) dX10_ripe_16 rfl rfl ?_
      refine mr_iconst (pc' := 18) (v := (0 : Int32)) dX10_ripe_17 rfl (by decide) ?_
      refine mr_bipush (pc' := 20) (v := (16 : Int32)) dX10_ripe_18 rfl (by decide) ?_
      obtain ⟨q9, g10, h11⟩ := Option.bind_eq_some_iff.mp h7
      refine mr_cs (pc' := 23) (d1 := 0) dX10_ripe_20 rfl rfl rfl rfl (by decide) (Nat.le_of_ble_eq_true rfl) rfl rfl rfl (by decide) (ok_X10_isFrom hR  g10) ?_
      show mr X _ _ 23 _ [.int q9] (MM RR S) _
      by_cases c12 : q9 = (0 : Int32)
      · rw [if_pos c12] at h11
        refine mr_if_ne_f (t := 28) (pc' := 26) dX10_ripe_23 (by decide) rfl (not_not_intro c12) ?_
        refine mr_iconst (pc' := 27) (v := (-1 : Int32)) dX10_ripe_26 rfl (by decide) ?_
        obtain rfl := Option.some.inj h11
        exact mr_ireturn dX10_ripe_27 rfl
      · rw [if_neg c12] at h11
        refine mr_if_ne_t (t := 28) dX10_ripe_23 (by decide) c12 ?_
        refine mr_iload (pc' := 30) dX10_ripe_28 rfl rfl ?_
        refine mr_iconst (pc' := 31) (v := (0 : Int32)) dX10_ripe_30 rfl (by decide) ?_
        refine mr_sipush (pc' := 34) (v := (999 : Int32)) dX10_ripe_31 rfl (by decide) ?_
        obtain ⟨q13, g14, h15⟩ := Option.bind_eq_some_iff.mp h11
        refine mr_cs (pc' := 37) (d1 := 0) dX10_ripe_34 rfl rfl rfl rfl (by decide) (Nat.le_of_ble_eq_true rfl) rfl rfl rfl (by decide) (ok_X10_isFrom hR  g14) ?_
        show mr X _ _ 37 _ [.int q13] (MM RR S) _
        by_cases c16 : q13 = (0 : Int32)
        · rw [if_pos c16] at h15
          refine mr_if_eq_t (t := 53) dX10_ripe_37 (by decide) c16 ?_
          refine mr_iconst (pc' := 54) (v := (-1 : Int32)) dX10_ripe_53 rfl (by decide) ?_
          obtain rfl := Option.some.inj h15
          exact mr_ireturn dX10_ripe_54 rfl
        · rw [if_neg c16] at h15
          refine mr_if_eq_f (t := 53) (pc' := 40) dX10_ripe_37 (by decide) rfl c16 ?_
          refine mr_iload (pc' := 42) dX10_ripe_40 rfl rfl ?_
          refine mr_iload (pc' := 44) dX10_ripe_42 rfl rfl ?_
          refine mr_sipush (pc' := 47) (v := (999 : Int32)) dX10_ripe_44 rfl (by decide) ?_
          obtain ⟨q17, g18, h19⟩ := Option.bind_eq_some_iff.mp h15
          refine mr_cs (pc' := 50) (d1 := 0) dX10_ripe_47 rfl rfl rfl rfl (by decide) (Nat.le_of_ble_eq_true rfl) rfl rfl rfl (by decide) (ok_X10_isFrom hR  g18) ?_
          show mr X _ _ 50 _ [.int q17] (MM RR S) _
          by_cases c20 : q17 = (0 : Int32)
          · rw [if_pos c20] at h19
            refine mr_if_ne_f (t := 55) (pc' := 53) dX10_ripe_50 (by decide) rfl (not_not_intro c20) ?_
            refine mr_iconst (pc' := 54) (v := (-1 : Int32)) dX10_ripe_53 rfl (by decide) ?_
            obtain rfl := Option.some.inj h19
            exact mr_ireturn dX10_ripe_54 rfl
          · rw [if_neg c20] at h19
            refine mr_if_ne_t (t := 55) dX10_ripe_50 (by decide) c20 ?_
            refine mr_aload_n (pc' := 56) dX10_ripe_55 rfl rfl ?_
            refine mr_getR (pc' := 59) (ci := 10) (j := 9) (b := 45) hR dX10_ripe_56 rfl rfl rfl (by decide) (by decide) (by decide) rfl rfl ?_
            refine mr_aload_n (pc' := 60) dX10_ripe_59 rfl rfl ?_
            refine mr_getR (pc' := 63) (ci := 10) (j := 1) (b := 3) hR dX10_ripe_60 rfl rfl rfl (by decide) (by decide) (by decide) rfl rfl ?_
            refine mr_getR (pc' := 66) (ci := 6) (j := 0) (b := 4) hR dX10_ripe_63 rfl rfl rfl (by decide) (by decide) (by decide) rfl rfl ?_
            refine mr_iload_n (pc' := 67) dX10_ripe_66 rfl rfl ?_
            refine mr_iload_n (pc' := 68) dX10_ripe_67 rfl rfl ?_
            obtain ⟨q21, g22, h23⟩ := Option.bind_eq_some_iff.mp h19
            refine mr_cv (pc' := 71) (a := 45) (d1 := 3) dX10_ripe_68 rfl rfl rfl rfl rfl rfl (by decide) rfl (by decide) (ok_X3_spread hR rfl g22) ?_
            show mr X _ _ 71 _ [.int q21.1] (MM RR q21.2) _
            by_cases c24 : q21.1 = (0 : Int32)
            · rw [if_pos c24] at h23
              refine mr_if_ne_f (t := 77) (pc' := 74) dX10_ripe_71 (by decide) rfl (not_not_intro c24) ?_
              refine mr_bipush (pc' := 76) (v := (-3 : Int32)) dX10_ripe_74 rfl (by decide) ?_
              obtain rfl := Option.some.inj h23
              exact mr_ireturn dX10_ripe_76 rfl
            · rw [if_neg c24] at h23
              refine mr_if_ne_t (t := 77) dX10_ripe_71 (by decide) c24 ?_
              refine mr_aload_n (pc' := 78) dX10_ripe_77 rfl rfl ?_
              refine mr_getR (pc' := 81) (ci := 10) (j := 9) (b := 45) hR dX10_ripe_78 rfl rfl rfl (by decide) (by decide) (by decide) rfl rfl ?_
              refine mr_aload_n (pc' := 82) dX10_ripe_81 rfl rfl ?_
              refine mr_getR (pc' := 85) (ci := 10) (j := 1) (b := 3) hR dX10_ripe_82 rfl rfl rfl (by decide) (by decide) (by decide) rfl rfl ?_
              refine mr_getR (pc' := 88) (ci := 6) (j := 0) (b := 4) hR dX10_ripe_85 rfl rfl rfl (by decide) (by decide) (by decide) rfl rfl ?_
              refine mr_iload_n (pc' := 89) dX10_ripe_88 rfl rfl ?_
              refine mr_iload_n (pc' := 90) dX10_ripe_89 rfl rfl ?_
              refine mr_iload (pc' := 92) dX10_ripe_90 rfl rfl ?_
              refine mr_i2l (pc' := 93) dX10_ripe_92 rfl ?_
              refine mr_ldc2 (pc' := 96) (v := (232792560 : Int64)) dX10_ripe_93 rfl rfl ?_
              refine mr_lmul (pc' := 97) dX10_ripe_96 rfl ?_
              refine mr_iload (pc' := 99) dX10_ripe_97 rfl rfl ?_
              refine mr_i2l (pc' := 100) dX10_ripe_99 rfl ?_
              refine mr_ldc2 (pc' := 103) (v := (232792560 : Int64)) dX10_ripe_100 rfl rfl ?_
              refine mr_lmul (pc' := 104) dX10_ripe_103 rfl ?_
              obtain ⟨q25, g26, h27⟩ := Option.bind_eq_some_iff.mp h23
              refine mr_cv (pc' := 107) (a := 45) (d1 := 1) dX10_ripe_104 rfl rfl rfl rfl rfl rfl (by decide) rfl (by decide) (ok_X3_leastCarried hR rfl g26) ?_
              show mr X _ _ 107 _ [.int q25] (MM RR q21.2) _
              obtain rfl := Option.some.inj h27
              exact mr_ireturn dX10_ripe_107 rfl
def f_X10_owed (v1 : Int32) (v2 : Int32) (v3 : Int32) (v4 : Int32) (v5 : Int32) (S : fS) : Option (Int64) :=
  (f_X10_isFloor v1 S).bind fun q1 =>
  if q1 = (0 : Int32) then (some (-1 : Int64)) else
  ((f_X10_isFrom v2 (1 : Int32) (9999 : Int32) S).bind fun q5 =>
  if q5 = (0 : Int32) then (some (-1 : Int64)) else
  ((f_X10_isFrom v3 (0 : Int32) (999 : Int32) S).bind fun q9 =>
  if q9 = (0 : Int32) then (some (-1 : Int64)) else
  ((f_X10_isHour v4 S).bind fun q13 =>
  if q13 = (0 : Int32) then (some (-1 : Int64)) else
  ((f_X10_isPart v5 S).bind fun q17 =>
  if q17 = (0 : Int32) then (some (-1 : Int64)) else
  ((gL S 5 10 v1).bind fun a21 =>
  (f_X10_lowest a21 (232792560 : Int64) (0 : Int32) S).bind fun q24 =>
  (gL S 5 10 v1).bind fun a27 =>
  (f_X10_lowest a27 (232792560 : Int64) (1 : Int32) S).bind fun q30 =>
  (f_X10_lowest ((Int32.toInt64 v2) * (((24000 : Int64) * q30) + (((Int32.toInt64 v3) * q24) * (Int32.toInt64 v4)))) ((24000 : Int64) * q30) v5 S).bind fun q33 =>
  some q33)))))
set_option maxHeartbeats 4000000 in
set_option maxRecDepth 100000 in
theorem ok_X10_owed {X : mm_C} {RR : Nat → Nat → Option Nat} (hR : RRok RR) {v1 : Int32} {v2 : Int32} {v3 : Int32} {v4 : Int32} {v5 : Int32}  {S : fS} {r : Int64} (h : f_X10_owed v1 v2 v3 v4 v5 S = some r) : mr X 3 mY_X10_owed 0 (lv_args 0 [.ref 0, .int v1, .int v2, .int v3, .int v4, .int v5]) [] (MM RR S) (some (.long r), MM RR S) := by
  unfold f_X10_owed at h
  show mr X _ _ 0 [(0, .ref 0), (1, .int v1), (2, .int v2), (3, .int v3), (4, .int v4), (5, .int v5)] [] (MM RR S) _
  refine mr_aload_n (pc' := 1) dX10_owed_0 rfl rfl ?_
  refine mr_iload_n (pc' := 2) dX10_owed_1 rfl rfl ?_
  obtain ⟨q1, g2, h3⟩ := Option.bind_eq_some_iff.mp h
  refine mr_cv (pc' := 5) (a := 0) (d1 := 1) dX10_owed_2 rfl rfl rfl rfl rfl rfl (by decide) rfl (by decide) (ok_X10_isFloor hR  g2) ?_
  show mr X _ _ 5 _ [.int q1] (MM RR S) _
  by_cases c4 : q1 = (0 : Int32)
  · rw [if_pos c4] at h3
    refine mr_if_eq_t (t := 30) dX10_owed_5 (by decide) c4 ?_
    refine mr_ldc2 (pc' := 33) (v := (-1 : Int64)) dX10_owed_30 rfl rfl ?_
    obtain rfl := Option.some.inj h3
    exact mr_lreturn dX10_owed_33 rfl
  · rw [if_neg c4] at h3
    refine mr_if_eq_f (t := 30) (pc' := 8) dX10_owed_5 (by decide) rfl c4 ?_
    refine mr_iload_n (pc' := 9) dX10_owed_8 rfl rfl ?_
    refine mr_iconst (pc' := 10) (v := (1 : Int32)) dX10_owed_9 rfl (by decide) ?_
    refine mr_sipush (pc' := 13) (v := (9999 : Int32)) dX10_owed_10 rfl (by decide) ?_
    obtain ⟨q5, g6, h7⟩ := Option.bind_eq_some_iff.mp h3
    refine mr_cs (pc' := 16) (d1 := 0) dX10_owed_13 rfl rfl rfl rfl (by decide) (Nat.le_of_ble_eq_true rfl) rfl rfl rfl (by decide) (ok_X10_isFrom hR  g6) ?_
    show mr X _ _ 16 _ [.int q5] (MM RR S) _
    by_cases c8 : q5 = (0 : Int32)
    · rw [if_pos c8] at h7
      refine mr_if_eq_t (t := 30) dX10_owed_16 (by decide) c8 ?_
      refine mr_ldc2 (pc' := 33) (v := (-1 : Int64)) dX10_owed_30 rfl rfl ?_
      obtain rfl := Option.some.inj h7
      exact mr_lreturn dX10_owed_33 rfl
    · rw [if_neg c8] at h7
      refine mr_if_eq_f (t := 30) (pc' := 19) dX10_owed_16 (by decide) rfl c8 ?_
      refine mr_iload_n (pc' := 20) dX10_owed_19 rfl rfl ?_
      refine mr_iconst (pc' := 21) (v := (0 : Int32)) dX10_owed_20 rfl (by decide) ?_
      refine mr_sipush (pc' := 24) (v := (999 : Int32)) dX10_owed_21 rfl (by decide) ?_
      obtain ⟨q9, g10, h11⟩ := Option.bind_eq_some_iff.mp h7
      refine mr_cs (pc' := 27) (d1 := 0) dX10_owed_24 rfl rfl rfl rfl (by decide) (Nat.le_of_ble_eq_true rfl) rfl rfl rfl (by decide) (ok_X10_isFrom hR  g10) ?_
      show mr X _ _ 27 _ [.int q9] (MM RR S) _
      by_cases c12 : q9 = (0 : Int32)
      · rw [if_pos c12] at h11
        refine mr_if_ne_f (t := 34) (pc' := 30) dX10_owed_27 (by decide) rfl (not_not_intro c12) ?_
        refine mr_ldc2 (pc' := 33) (v := (-1 : Int64)) dX10_owed_30 rfl rfl ?_
        obtain rfl := Option.some.inj h11
        exact mr_lreturn dX10_owed_33 rfl
      · rw [if_neg c12] at h11
        refine mr_if_ne_t (t := 34) dX10_owed_27 (by decide) c12 ?_
        refine mr_iload (pc' := 36) dX10_owed_34 rfl rfl ?_
        obtain ⟨q13, g14, h15⟩ := Option.bind_eq_some_iff.mp h11
        refine mr_cs (pc' := 39) (d1 := 1) dX10_owed_36 rfl rfl rfl rfl (by decide) (Nat.le_of_ble_eq_true rfl) rfl rfl rfl (by decide) (ok_X10_isHour hR  g14) ?_
        show mr X _ _ 39 _ [.int q13] (MM RR S) _
        by_cases c16 : q13 = (0 : Int32)
        · rw [if_pos c16] at h15
          refine mr_if_eq_t (t := 50) dX10_owed_39 (by decide) c16 ?_
          refine mr_ldc2 (pc' := 53) (v := (-1 : Int64)) dX10_owed_50 rfl rfl ?_
          obtain rfl := Option.some.inj h15
          exact mr_lreturn dX10_owed_53 rfl
        · rw [if_neg c16] at h15
          refine mr_if_eq_f (t := 50) (pc' := 42) dX10_owed_39 (by decide) rfl c16 ?_
          refine mr_iload (pc' := 44) dX10_owed_42 rfl rfl ?_
          obtain ⟨q17, g18, h19⟩ := Option.bind_eq_some_iff.mp h15
          refine mr_cs (pc' := 47) (d1 := 1) dX10_owed_44 rfl rfl rfl rfl (by decide) (Nat.le_of_ble_eq_true rfl) rfl rfl rfl (by decide) (ok_X10_isPart hR  g18) ?_
          show mr X _ _ 47 _ [.int q17] (MM RR S) _
          by_cases c20 : q17 = (0 : Int32)
          · rw [if_pos c20] at h19
            refine mr_if_ne_f (t := 54) (pc' := 50) dX10_owed_47 (by decide) rfl (not_not_intro c20) ?_
            refine mr_ldc2 (pc' := 53) (v := (-1 : Int64)) dX10_owed_50 rfl rfl ?_
            obtain rfl := Option.some.inj h19
            exact mr_lreturn dX10_owed_53 rfl
          · rw [if_neg c20] at h19
            refine mr_if_ne_t (t := 54) dX10_owed_47 (by decide) c20 ?_
            refine mr_aload_n (pc' := 55) dX10_owed_54 rfl rfl ?_
            refine mr_getR (pc' := 58) (ci := 10) (j := 1) (b := 3) hR dX10_owed_55 rfl rfl rfl (by decide) (by decide) (by decide) rfl rfl ?_
            refine mr_getR (pc' := 61) (ci := 6) (j := 0) (b := 4) hR dX10_owed_58 rfl rfl rfl (by decide) (by decide) (by decide) rfl rfl ?_
            refine mr_getR (pc' := 64) (ci := 8) (j := 0) (b := 5) hR dX10_owed_61 rfl rfl rfl (by decide) (by decide) (by decide) rfl rfl ?_
            refine mr_iload_n (pc' := 65) dX10_owed_64 rfl rfl ?_
            obtain ⟨a21, g22, h23⟩ := Option.bind_eq_some_iff.mp h19
            refine mr_lald (pc' := 66) dX10_owed_65 rfl rfl rfl g22 ?_
            refine mr_ldc2 (pc' := 69) (v := (232792560 : Int64)) dX10_owed_66 rfl rfl ?_
            refine mr_iconst (pc' := 70) (v := (0 : Int32)) dX10_owed_69 rfl (by decide) ?_
            obtain ⟨q24, g25, h26⟩ := Option.bind_eq_some_iff.mp h23
            refine mr_cs (pc' := 73) (d1 := 2) dX10_owed_70 rfl rfl rfl rfl (by decide) (Nat.le_of_ble_eq_true rfl) rfl rfl rfl (by decide) (ok_X10_lowest hR  g25) ?_
            show mr X _ _ 73 _ [.long q24] (MM RR S) _
            refine mr_lstore (pc' := 75) (lv' := [(6, .long q24), (0, .ref 0), (1, .int v1), (2, .int v2), (3, .int v3), (4, .int v4), (5, .int v5)]) dX10_owed_73 rfl (by decide) rfl ?_
            refine mr_ldc2 (pc' := 78) (v := (24000 : Int64)) dX10_owed_75 rfl rfl ?_
            refine mr_aload_n (pc' := 79) dX10_owed_78 rfl rfl ?_
            refine mr_getR (pc' := 82) (ci := 10) (j := 1) (b := 3) hR dX10_owed_79 rfl rfl rfl (by decide) (by decide) (by decide) rfl rfl ?_
            refine mr_getR (pc' := 85) (ci := 6) (j := 0) (b := 4) hR dX10_owed_82 rfl rfl rfl (by decide) (by decide) (by decide) rfl rfl ?_
            refine mr_getR (pc' := 88) (ci := 8) (j := 0) (b := 5) hR dX10_owed_85 rfl rfl rfl (by decide) (by decide) (by decide) rfl rfl ?_
            refine mr_iload_n (pc' := 89) dX10_owed_88 rfl rfl ?_
            obtain ⟨a27, g28, h29⟩ := Option.bind_eq_some_iff.mp h26
            refine mr_lald (pc' := 90) dX10_owed_89 rfl rfl rfl g28 ?_
            refine mr_ldc2 (pc' := 93) (v := (232792560 : Int64)) dX10_owed_90 rfl rfl ?_
            refine mr_iconst (pc' := 94) (v := (1 : Int32)) dX10_owed_93 rfl (by decide) ?_
            obtain ⟨q30, g31, h32⟩ := Option.bind_eq_some_iff.mp h29
            refine mr_cs (pc' := 97) (d1 := 2) dX10_owed_94 rfl rfl rfl rfl (by decide) (Nat.le_of_ble_eq_true rfl) rfl rfl rfl (by decide) (ok_X10_lowest hR  g31) ?_
            show mr X _ _ 97 _ [.long q30, .long (24000 : Int64)] (MM RR S) _
            refine mr_lmul (pc' := 98) dX10_owed_97 rfl ?_
            refine mr_lstore (pc' := 100) (lv' := [(8, .long ((24000 : Int64) * q30)), (6, .long q24), (0, .ref 0), (1, .int v1), (2, .int v2), (3, .int v3), (4, .int v4), (5, .int v5)]) dX10_owed_98 rfl (by decide) rfl ?_
            refine mr_iload_n (pc' := 101) dX10_owed_100 rfl rfl ?_
            refine mr_i2l (pc' := 102) dX10_owed_101 rfl ?_
            refine mr_lload (pc' := 104) dX10_owed_102 rfl rfl ?_
            refine mr_iload_n (pc' := 105) dX10_owed_104 rfl rfl ?_
            refine mr_i2l (pc' := 106) dX10_owed_105 rfl ?_
            refine mr_lload (pc' := 108) dX10_owed_106 rfl rfl ?_
            refine mr_lmul (pc' := 109) dX10_owed_108 rfl ?_
            refine mr_iload (pc' := 111) dX10_owed_109 rfl rfl ?_
            refine mr_i2l (pc' := 112) dX10_owed_111 rfl ?_
            refine mr_lmul (pc' := 113) dX10_owed_112 rfl ?_
            refine mr_ladd (pc' := 114) dX10_owed_113 rfl ?_
            refine mr_lmul (pc' := 115) dX10_owed_114 rfl ?_
            refine mr_lload (pc' := 117) dX10_owed_115 rfl rfl ?_
            refine mr_iload (pc' := 119) dX10_owed_117 rfl rfl ?_
            obtain ⟨q33, g34, h35⟩ := Option.bind_eq_some_iff.mp h32
            refine mr_cs (pc' := 122) (d1 := 2) dX10_owed_119 rfl rfl rfl rfl (by decide) (Nat.le_of_ble_eq_true rfl) rfl rfl rfl (by decide) (ok_X10_lowest hR  g34) ?_
            show mr X _ _ 122 _ [.long q33] (MM RR S) _
            obtain rfl := Option.some.inj h35
            exact mr_lreturn dX10_owed_122 rfl
def f_X10_upwards (v0 : Int64) (v2 : Int64) (S : fS) : Option (Int64) :=
  if (0 : Int64) < v2 then ((dL ((v0 + v2) - (1 : Int64)) v2).bind fun a2 =>
  some a2) else
  (some (-1 : Int64))
set_option maxHeartbeats 4000000 in
set_option maxRecDepth 100000 in
theorem ok_X10_upwards {X : mm_C} {RR : Nat → Nat → Option Nat} (hR : RRok RR) {v0 : Int64} {v2 : Int64}  {S : fS} {r : Int64} (h : f_X10_upwards v0 v2 S = some r) : mr X 0 mY_X10_upwards 0 (lv_args 0 [.long v0, .long v2]) [] (MM RR S) (some (.long r), MM RR S) := by
  unfold f_X10_upwards at h
  show mr X _ _ 0 [(0, .long v0), (2, .long v2)] [] (MM RR S) _
  refine mr_lload_n (pc' := 1) dX10_upwards_0 rfl rfl ?_
  refine mr_lconst (pc' := 2) (v := (0 : Int64)) dX10_upwards_1 rfl (by decide) ?_
  by_cases c1 : (0 : Int64) < v2
  · rw [if_pos c1] at h
    refine mr_lcmp_gt_t (t := 12) dX10_upwards_2 rfl dX10_upwards_3 (by decide) c1 ?_
    refine mr_lload_n (pc' := 13) dX10_upwards_12 rfl rfl ?_
    refine mr_lload_n (pc' := 14) dX10_upwards_13 rfl rfl ?_
    refine mr_ladd (pc' := 15) dX10_upwards_14 rfl ?_
    refine mr_lconst (pc' := 16) (v := (1 : Int64)) dX10_upwards_15 rfl (by decide) ?_
    refine mr_lsub (pc' := 17) dX10_upwards_16 rfl ?_
    refine mr_lload_n (pc' := 18) dX10_upwards_17 rfl rfl ?_
    obtain ⟨a2, g3, h4⟩ := Option.bind_eq_some_iff.mp h
    refine mr_ldiv (pc' := 19) dX10_upwards_18 rfl g3 ?_
    obtain rfl := Option.some.inj h4
    exact mr_lreturn dX10_upwards_19 rfl
  · rw [if_neg c1] at h
    refine mr_lcmp_gt_f (t := 12) (pc' := 6) dX10_upwards_2 rfl dX10_upwards_3 (by decide) rfl c1 ?_
    refine mr_ldc2 (pc' := 9) (v := (-1 : Int64)) dX10_upwards_6 rfl rfl ?_
    refine mr_goto (t := 19) dX10_upwards_9 (by decide) ?_
    obtain rfl := Option.some.inj h
    exact mr_lreturn dX10_upwards_19 rfl
def f_X10_hands (v1 : Int32) (v2 : Int32) (v3 : Int32) (v4 : Int32) (S : fS) : Option (Int32) :=
  (f_X10_isFloor v1 S).bind fun q1 =>
  if q1 = (0 : Int32) then (some (-1 : Int32)) else
  ((f_X10_isFloor v2 S).bind fun q5 =>
  if q5 = (0 : Int32) then (some (-1 : Int32)) else
  ((f_X10_isFrom v3 (1 : Int32) (9999 : Int32) S).bind fun q9 =>
  if q9 = (0 : Int32) then (some (-1 : Int32)) else
  ((f_X10_isFrom v4 (1 : Int32) (9999 : Int32) S).bind fun q13 =>
  if q13 = (0 : Int32) then (some (-1 : Int32)) else
  ((gL S 5 10 v2).bind fun a17 =>
  (gL S 5 10 v1).bind fun a20 =>
  (f_X10_upwards ((Int32.toInt64 v3) * a17) ((Int32.toInt64 v4) * a20) S).bind fun q23 =>
  some (Int64.toInt32 q23)))))
set_option maxHeartbeats 4000000 in
set_option maxRecDepth 100000 in
theorem ok_X10_hands {X : mm_C} {RR : Nat → Nat → Option Nat} (hR : RRok RR) {v1 : Int32} {v2 : Int32} {v3 : Int32} {v4 : Int32}  {S : fS} {r : Int32} (h : f_X10_hands v1 v2 v3 v4 S = some r) : mr X 2 mY_X10_hands 0 (lv_args 0 [.ref 0, .int v1, .int v2, .int v3, .int v4]) [] (MM RR S) (some (.int r), MM RR S) := by
  unfold f_X10_hands at h
  show mr X _ _ 0 [(0, .ref 0), (1, .int v1), (2, .int v2), (3, .int v3), (4, .int v4)] [] (MM RR S) _
  refine mr_aload_n (pc' := 1) dX10_hands_0 rfl rfl ?_
  refine mr_iload_n (pc' := 2) dX10_hands_1 rfl rfl ?_
  obtain ⟨q1, g2, h3⟩ := Option.bind_eq_some_iff.mp h
  refine mr_cv (pc' := 5) (a := 0) (d1 := 1) dX10_hands_2 rfl rfl rfl rfl rfl rfl (by decide) rfl (by decide) (ok_X10_isFloor hR  g2) ?_
  show mr X _ _ 5 _ [.int q1] (MM RR S) _
  by_cases c4 : q1 = (0 : Int32)
  · rw [if_pos c4] at h3
    refine mr_if_eq_t (t := 39) dX10_hands_5 (by decide) c4 ?_
    refine mr_iconst (pc' := 40) (v := (-1 : Int32)) dX10_hands_39 rfl (by decide) ?_
    obtain rfl := Option.some.inj h3
    exact mr_ireturn dX10_hands_40 rfl
  · rw [if_neg c4] at h3
    refine mr_if_eq_f (t := 39) (pc' := 8) dX10_hands_5 (by decide) rfl c4 ?_
    refine mr_aload_n (pc' := 9) dX10_hands_8 rfl rfl ?_
    refine mr_iload_n (pc' := 10) dX10_hands_9 rfl rfl ?_
    obtain ⟨q5, g6, h7⟩ := Option.bind_eq_some_iff.mp h3
    refine mr_cv (pc' := 13) (a := 0) (d1 := 1) dX10_hands_10 rfl rfl rfl rfl rfl rfl (by decide) rfl (by decide) (ok_X10_isFloor hR  g6) ?_
    show mr X _ _ 13 _ [.int q5] (MM RR S) _
    by_cases c8 : q5 = (0 : Int32)
    · rw [if_pos c8] at h7
      refine mr_if_eq_t (t := 39) dX10_hands_13 (by decide) c8 ?_
      refine mr_iconst (pc' := 40) (v := (-1 : Int32)) dX10_hands_39 rfl (by decide) ?_
      obtain rfl := Option.some.inj h7
      exact mr_ireturn dX10_hands_40 rfl
    · rw [if_neg c8] at h7
      refine mr_if_eq_f (t := 39) (pc' := 16) dX10_hands_13 (by decide) rfl c8 ?_
      refine mr_iload_n (pc' := 17) dX10_hands_16 rfl rfl ?_
      refine mr_iconst (pc' := 18) (v := (1 : Int32)) dX10_hands_17 rfl (by decide) ?_
      refine mr_sipush (pc' := 21) (v := (9999 : Int32)) dX10_hands_18 rfl (by decide) ?_
      obtain ⟨q9, g10, h11⟩ := Option.bind_eq_some_iff.mp h7
      refine mr_cs (pc' := 24) (d1 := 0) dX10_hands_21 rfl rfl rfl rfl (by decide) (Nat.le_of_ble_eq_true rfl) rfl rfl rfl (by decide) (ok_X10_isFrom hR  g10) ?_
      show mr X _ _ 24 _ [.int q9] (MM RR S) _
      by_cases c12 : q9 = (0 : Int32)
      · rw [if_pos c12] at h11
        refine mr_if_eq_t (t := 39) dX10_hands_24 (by decide) c12 ?_
        refine mr_iconst (pc' := 40) (v := (-1 : Int32)) dX10_hands_39 rfl (by decide) ?_
        obtain rfl := Option.some.inj h11
        exact mr_ireturn dX10_hands_40 rfl
      · rw [if_neg c12] at h11
        refine mr_if_eq_f (t := 39) (pc' := 27) dX10_hands_24 (by decide) rfl c12 ?_
        refine mr_iload (pc' := 29) dX10_hands_27 rfl rfl ?_
        refine mr_iconst (pc' := 30) (v := (1 : Int32)) dX10_hands_29 rfl (by decide) ?_
        refine mr_sipush (pc' := 33) (v := (9999 : Int32)) dX10_hands_30 rfl (by decide) ?_
        obtain ⟨q13, g14, h15⟩ := Option.bind_eq_some_iff.mp h11
        refine mr_cs (pc' := 36) (d1 := 0) dX10_hands_33 rfl rfl rfl rfl (by decide) (Nat.le_of_ble_eq_true rfl) rfl rfl rfl (by decide) (ok_X10_isFrom hR  g14) ?_
        show mr X _ _ 36 _ [.int q13] (MM RR S) _
        by_cases c16 : q13 = (0 : Int32)
        · rw [if_pos c16] at h15
          refine mr_if_ne_f (t := 41) (pc' := 39) dX10_hands_36 (by decide) rfl (not_not_intro c16) ?_
          refine mr_iconst (pc' := 40) (v := (-1 : Int32)) dX10_hands_39 rfl (by decide) ?_
          obtain rfl := Option.some.inj h15
          exact mr_ireturn dX10_hands_40 rfl
        · rw [if_neg c16] at h15
          refine mr_if_ne_t (t := 41) dX10_hands_36 (by decide) c16 ?_
          refine mr_iload_n (pc' := 42) dX10_hands_41 rfl rfl ?_
          refine mr_i2l (pc' := 43) dX10_hands_42 rfl ?_
          refine mr_aload_n (pc' := 44) dX10_hands_43 rfl rfl ?_
          refine mr_getR (pc' := 47) (ci := 10) (j := 1) (b := 3) hR dX10_hands_44 rfl rfl rfl (by decide) (by decide) (by decide) rfl rfl ?_
          refine mr_getR (pc' := 50) (ci := 6) (j := 0) (b := 4) hR dX10_hands_47 rfl rfl rfl (by decide) (by decide) (by decide) rfl rfl ?_
          refine mr_getR (pc' := 53) (ci := 8) (j := 0) (b := 5) hR dX10_hands_50 rfl rfl rfl (by decide) (by decide) (by decide) rfl rfl ?_
          refine mr_iload_n (pc' := 54) dX10_hands_53 rfl rfl ?_
          obtain ⟨a17, g18, h19⟩ := Option.bind_eq_some_iff.mp h15
          refine mr_lald (pc' := 55) dX10_hands_54 rfl rfl rfl g18 ?_
          refine mr_lmul (pc' := 56) dX10_hands_55 rfl ?_
          refine mr_iload (pc' := 58) dX10_hands_56 rfl rfl ?_
          refine mr_i2l (pc' := 59) dX10_hands_58 rfl ?_
          refine mr_aload_n (pc' := 60) dX10_hands_59 rfl rfl ?_
          refine mr_getR (pc' := 63) (ci := 10) (j := 1) (b := 3) hR dX10_hands_60 rfl rfl rfl (by decide) (by decide) (by decide) rfl rfl ?_
          refine mr_getR (pc' := 66) (ci := 6) (j := 0) (b := 4) hR dX10_hands_63 rfl rfl rfl (by decide) (by decide) (by decide) rfl rfl ?_
          refine mr_getR (pc' := 69) (ci := 8) (j := 0) (b := 5) hR dX10_hands_66 rfl rfl rfl (by decide) (by decide) (by decide) rfl rfl ?_
          refine mr_iload_n (pc' := 70) dX10_hands_69 rfl rfl ?_
          obtain ⟨a20, g21, h22⟩ := Option.bind_eq_some_iff.mp h19
          refine mr_lald (pc' := 71) dX10_hands_70 rfl rfl rfl g21 ?_
          refine mr_lmul (pc' := 72) dX10_hands_71 rfl ?_
          obtain ⟨q23, g24, h25⟩ := Option.bind_eq_some_iff.mp h22
          refine mr_cs (pc' := 75) (d1 := 0) dX10_hands_72 rfl rfl rfl rfl (by decide) (Nat.le_of_ble_eq_true rfl) rfl rfl rfl (by decide) (ok_X10_upwards hR  g24) ?_
          show mr X _ _ 75 _ [.long q23] (MM RR S) _
          refine mr_l2i (pc' := 76) dX10_hands_75 rfl ?_
          obtain rfl := Option.some.inj h25
          exact mr_ireturn dX10_hands_76 rfl
