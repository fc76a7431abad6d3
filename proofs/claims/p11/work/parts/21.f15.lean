def f_X2_copyFrom (v0 : Nat) (v1 : Nat) (S : fS) : Option (fS) :=
  (some (cI S (v1 + 1) (v0 + 1) 12)).bind fun S1 =>
  (some (cI S1 (v1 + 2) (v0 + 2) 12)).bind fun S4 =>
  (some (cI S4 (v1 + 3) (v0 + 3) 12)).bind fun S7 =>
  (some (cI S7 (v1 + 4) (v0 + 4) 12)).bind fun S10 =>
  (some (pI S10 v0 4 (S10.1 v1 4))).bind fun S13 =>
  some S13
set_option maxHeartbeats 4000000 in
set_option maxRecDepth 100000 in
theorem ok_X2_copyFrom {X : mm_C} {RR : Nat → Nat → Option Nat} (hR : RRok RR) {v0 : Nat} {v1 : Nat} (t0 : tg v0 = 2) (t1 : tg v1 = 2) {S : fS} {r : fS} (h : f_X2_copyFrom v0 v1 S = some r) : mr X 0 mY_X2_copyFrom 0 (lv_args 0 [.ref v0, .ref v1]) [] (MM RR S) (none, MM RR r) := by
  unfold f_X2_copyFrom at h
  show mr X _ _ 0 [(0, .ref v0), (1, .ref v1)] [] (MM RR S) _
  refine mr_aload_n (pc' := 1) dX2_copyFrom_0 rfl rfl ?_
  refine mr_getR (pc' := 4) (ci := 2) (j := 0) (b := (v1 + 1)) hR dX2_copyFrom_1 rfl rfl t1 (by decide) (by decide) (by decide) rfl (ly2_0 t1).1 ?_
  refine mr_iconst (pc' := 5) (v := (0 : Int32)) dX2_copyFrom_4 rfl (by decide) ?_
  refine mr_aload_n (pc' := 6) dX2_copyFrom_5 rfl rfl ?_
  refine mr_getR (pc' := 9) (ci := 2) (j := 0) (b := (v0 + 1)) hR dX2_copyFrom_6 rfl rfl t0 (by decide) (by decide) (by decide) rfl (ly2_0 t0).1 ?_
  refine mr_iconst (pc' := 10) (v := (0 : Int32)) dX2_copyFrom_9 rfl (by decide) ?_
  refine mr_bipush (pc' := 12) (v := (12 : Int32)) dX2_copyFrom_10 rfl (by decide) ?_
  obtain ⟨S1, g2, h3⟩ := Option.bind_eq_some_iff.mp h
  refine mr_cpyI (pc' := 15) (n := 12) dX2_copyFrom_12 rfl rfl (by decide) ⟨(ly2_0 t1).2.1, Nat.le_of_eq (ly2_0 t1).2.2.symm⟩ ⟨(ly2_0 t0).2.1, Nat.le_of_eq (ly2_0 t0).2.2.symm⟩ (by decide) (by decide) ?_
  rw [Option.some.inj g2]
  refine mr_aload_n (pc' := 16) dX2_copyFrom_15 rfl rfl ?_
  refine mr_getR (pc' := 19) (ci := 2) (j := 1) (b := (v1 + 2)) hR dX2_copyFrom_16 rfl rfl t1 (by decide) (by decide) (by decide) rfl (ly2_1 t1).1 ?_
  refine mr_iconst (pc' := 20) (v := (0 : Int32)) dX2_copyFrom_19 rfl (by decide) ?_
  refine mr_aload_n (pc' := 21) dX2_copyFrom_20 rfl rfl ?_
  refine mr_getR (pc' := 24) (ci := 2) (j := 1) (b := (v0 + 2)) hR dX2_copyFrom_21 rfl rfl t0 (by decide) (by decide) (by decide) rfl (ly2_1 t0).1 ?_
  refine mr_iconst (pc' := 25) (v := (0 : Int32)) dX2_copyFrom_24 rfl (by decide) ?_
  refine mr_bipush (pc' := 27) (v := (12 : Int32)) dX2_copyFrom_25 rfl (by decide) ?_
  obtain ⟨S4, g5, h6⟩ := Option.bind_eq_some_iff.mp h3
  refine mr_cpyI (pc' := 30) (n := 12) dX2_copyFrom_27 rfl rfl (by decide) ⟨(ly2_1 t1).2.1, Nat.le_of_eq (ly2_1 t1).2.2.symm⟩ ⟨(ly2_1 t0).2.1, Nat.le_of_eq (ly2_1 t0).2.2.symm⟩ (by decide) (by decide) ?_
  rw [Option.some.inj g5]
  refine mr_aload_n (pc' := 31) dX2_copyFrom_30 rfl rfl ?_
  refine mr_getR (pc' := 34) (ci := 2) (j := 2) (b := (v1 + 3)) hR dX2_copyFrom_31 rfl rfl t1 (by decide) (by decide) (by decide) rfl (ly2_2 t1).1 ?_
  refine mr_iconst (pc' := 35) (v := (0 : Int32)) dX2_copyFrom_34 rfl (by decide) ?_
  refine mr_aload_n (pc' := 36) dX2_copyFrom_35 rfl rfl ?_
  refine mr_getR (pc' := 39) (ci := 2) (j := 2) (b := (v0 + 3)) hR dX2_copyFrom_36 rfl rfl t0 (by decide) (by decide) (by decide) rfl (ly2_2 t0).1 ?_
  refine mr_iconst (pc' := 40) (v := (0 : Int32)) dX2_copyFrom_39 rfl (by decide) ?_
  refine mr_bipush (pc' := 42) (v := (12 : Int32)) dX2_copyFrom_40 rfl (by decide) ?_
  obtain ⟨S7, g8, h9⟩ := Option.bind_eq_some_iff.mp h6
  refine mr_cpyI (pc' := 45) (n := 12) dX2_copyFrom_42 rfl rfl (by decide) ⟨(ly2_2 t1).2.1, Nat.le_of_eq (ly2_2 t1).2.2.symm⟩ ⟨(ly2_2 t0).2.1, Nat.le_of_eq (ly2_2 t0).2.2.symm⟩ (by decide) (by decide) ?_
  rw [Option.some.inj g8]
  refine mr_aload_n (pc' := 46) dX2_copyFrom_45 rfl rfl ?_
  refine mr_getR (pc' := 49) (ci := 2) (j := 3) (b := (v1 + 4)) hR dX2_copyFrom_46 rfl rfl t1 (by decide) (by decide) (by decide) rfl (ly2_3 t1).1 ?_
  refine mr_iconst (pc' := 50) (v := (0 : Int32)) dX2_copyFrom_49 rfl (by decide) ?_
  refine mr_aload_n (pc' := 51) dX2_copyFrom_50 rfl rfl ?_
  refine mr_getR (pc' := 54) (ci := 2) (j := 3) (b := (v0 + 4)) hR dX2_copyFrom_51 rfl rfl t0 (by decide) (by decide) (by decide) rfl (ly2_3 t0).1 ?_
  refine mr_iconst (pc' := 55) (v := (0 : Int32)) dX2_copyFrom_54 rfl (by decide) ?_
  refine mr_bipush (pc' := 57) (v := (12 : Int32)) dX2_copyFrom_55 rfl (by decide) ?_
  obtain ⟨S10, g11, h12⟩ := Option.bind_eq_some_iff.mp h9
  refine mr_cpyI (pc' := 60) (n := 12) dX2_copyFrom_57 rfl rfl (by decide) ⟨(ly2_3 t1).2.1, Nat.le_of_eq (ly2_3 t1).2.2.symm⟩ ⟨(ly2_3 t0).2.1, Nat.le_of_eq (ly2_3 t0).2.2.symm⟩ (by decide) (by decide) ?_
  rw [Option.some.inj g11]
  refine mr_aload_n (pc' := 61) dX2_copyFrom_60 rfl rfl ?_
  refine mr_aload_n (pc' := 62) dX2_copyFrom_61 rfl rfl ?_
  refine mr_getI (pc' := 65) (ci := 2) (j := 4) dX2_copyFrom_62 rfl rfl t1 (by decide) (by decide) rfl ?_
  obtain ⟨S13, g14, h15⟩ := Option.bind_eq_some_iff.mp h12
  refine mr_putI (pc' := 68) (ci := 2) (j := 4) dX2_copyFrom_65 rfl rfl t0 (by decide) (by decide) rfl rfl ?_
  rw [Option.some.inj g14]
  obtain rfl := Option.some.inj h15
  exact mr_return dX2_copyFrom_68 rfl
def f_X6_copyFrom (v0 : Nat) (v1 : Nat) (S : fS) : Option (fS) :=
  (f_X8_copyFrom (v0 + 1) (v1 + 1) S).bind fun q1 =>
  (f_X0_copyFrom (v0 + 8) (v1 + 8) q1).bind fun q4 =>
  (f_X2_copyFrom (v0 + 14) (v1 + 14) q4).bind fun q7 =>
  (some (pI q7 v0 3 (q7.1 v1 3))).bind fun S10 =>
  some S10
set_option maxHeartbeats 4000000 in
set_option maxRecDepth 100000 in
theorem ok_X6_copyFrom {X : mm_C} {RR : Nat → Nat → Option Nat} (hR : RRok RR) {v0 : Nat} {v1 : Nat} (t0 : tg v0 = 6) (t1 : tg v1 = 6) {S : fS} {r : fS} (h : f_X6_copyFrom v0 v1 S = some r) : mr X 1 mY_X6_copyFrom 0 (lv_args 0 [.ref v0, .ref v1]) [] (MM RR S) (none, MM RR r) := by
  unfold f_X6_copyFrom at h
  show mr X _ _ 0 [(0, .ref v0), (1, .ref v1)] [] (MM RR S) _
  refine mr_aload_n (pc' := 1) dX6_copyFrom_0 rfl rfl ?_
  refine mr_getR (pc' := 4) (ci := 6) (j := 0) (b := (v0 + 1)) hR dX6_copyFrom_1 rfl rfl t0 (by decide) (by decide) (by decide) rfl (ly6_0 t0).1 ?_
  refine mr_aload_n (pc' := 5) dX6_copyFrom_4 rfl rfl ?_
  refine mr_getR (pc' := 8) (ci := 6) (j := 0) (b := (v1 + 1)) hR dX6_copyFrom_5 rfl rfl t1 (by decide) (by decide) (by decide) rfl (ly6_0 t1).1 ?_
  obtain ⟨q1, g2, h3⟩ := Option.bind_eq_some_iff.mp h
  refine mr_cv (pc' := 11) (a := (v0 + 1)) (d1 := 0) dX6_copyFrom_8 rfl rfl rfl rfl rfl (ly6_0 t0).2.1 (by decide) rfl (by decide) (ok_X8_copyFrom hR (ly6_0 t0).2.1 (ly6_0 t1).2.1 g2) ?_
  show mr X _ _ 11 _ [] (MM RR q1) _
  refine mr_aload_n (pc' := 12) dX6_copyFrom_11 rfl rfl ?_
  refine mr_getR (pc' := 15) (ci := 6) (j := 1) (b := (v0 + 8)) hR dX6_copyFrom_12 rfl rfl t0 (by decide) (by decide) (by decide) rfl (ly6_1 t0).1 ?_
  refine mr_aload_n (pc' := 16) dX6_copyFrom_15 rfl rfl ?_
  refine mr_getR (pc' := 19) (ci := 6) (j := 1) (b := (v1 + 8)) hR dX6_copyFrom_16 rfl rfl t1 (by decide) (by decide) (by decide) rfl (ly6_1 t1).1 ?_
  obtain ⟨q4, g5, h6⟩ := Option.bind_eq_some_iff.mp h3
  refine mr_cv (pc' := 22) (a := (v0 + 8)) (d1 := 0) dX6_copyFrom_19 rfl rfl rfl rfl rfl (ly6_1 t0).2.1 (by decide) rfl (by decide) (ok_X0_copyFrom hR (ly6_1 t0).2.1 (ly6_1 t1).2.1 g5) ?_
  show mr X _ _ 22 _ [] (MM RR q4) _
  refine mr_aload_n (pc' := 23) dX6_copyFrom_22 rfl rfl ?_
  refine mr_getR (pc' := 26) (ci := 6) (j := 2) (b := (v0 + 14)) hR dX6_copyFrom_23 rfl rfl t0 (by decide) (by decide) (by decide) rfl (ly6_2 t0).1 ?_
  refine mr_aload_n (pc' := 27) dX6_copyFrom_26 rfl rfl ?_
  refine mr_getR (pc' := 30) (ci := 6) (j := 2) (b := (v1 + 14)) hR dX6_copyFrom_27 rfl rfl t1 (by decide) (by decide) (by decide) rfl (ly6_2 t1).1 ?_
  obtain ⟨q7, g8, h9⟩ := Option.bind_eq_some_iff.mp h6
  refine mr_cv (pc' := 33) (a := (v0 + 14)) (d1 := 0) dX6_copyFrom_30 rfl rfl rfl rfl rfl (ly6_2 t0).2.1 (by decide) rfl (by decide) (ok_X2_copyFrom hR (ly6_2 t0).2.1 (ly6_2 t1).2.1 g8) ?_
  show mr X _ _ 33 _ [] (MM RR q7) _
  refine mr_aload_n (pc' := 34) dX6_copyFrom_33 rfl rfl ?_
  refine mr_aload_n (pc' := 35) dX6_copyFrom_34 rfl rfl ?_
  refine mr_getI (pc' := 38) (ci := 6) (j := 3) dX6_copyFrom_35 rfl rfl t1 (by decide) (by decide) rfl ?_
  obtain ⟨S10, g11, h12⟩ := Option.bind_eq_some_iff.mp h9
  refine mr_putI (pc' := 41) (ci := 6) (j := 3) dX6_copyFrom_38 rfl rfl t0 (by decide) (by decide) rfl rfl ?_
  rw [Option.some.inj g11]
  obtain rfl := Option.some.inj h12
  exact mr_return dX6_copyFrom_41 rfl
def f_X10_image (v1 : Int32) (S : fS) : Option (Int32 × fS) :=
  (f_X10_isFrom v1 (0 : Int32) (3 : Int32) S).bind fun q1 =>
  if q1 = (0 : Int32) then (some ((-1 : Int32), S)) else
  ((gA22 v1).bind fun a5 =>
  (f_X6_copyFrom a5 3 S).bind fun q8 =>
  (gA22 v1).bind fun a11 =>
  (some (pI q8 a11 4 (1 : Int32))).bind fun S14 =>
  some ((S14.1 11 6), S14))
set_option maxHeartbeats 4000000 in
set_option maxRecDepth 100000 in
theorem ok_X10_image {X : mm_C} {RR : Nat → Nat → Option Nat} (hR : RRok RR) {v1 : Int32}  {S : fS} {r : Int32 × fS} (h : f_X10_image v1 S = some r) : mr X 2 mY_X10_image 0 (lv_args 0 [.ref 0, .int v1]) [] (MM RR S) (some (.int r.1), MM RR r.2) := by
  unfold f_X10_image at h
  show mr X _ _ 0 [(0, .ref 0), (1, .int v1)] [] (MM RR S) _
  refine mr_iload_n (pc' := 1) dX10_image_0 rfl rfl ?_
  refine mr_iconst (pc' := 2) (v := (0 : Int32)) dX10_image_1 rfl (by decide) ?_
  refine mr_iconst (pc' := 3) (v := (3 : Int32)) dX10_image_2 rfl (by decide) ?_
  obtain ⟨q1, g2, h3⟩ := Option.bind_eq_some_iff.mp h
  refine mr_cs (pc' := 6) (d1 := 0) dX10_image_3 rfl rfl rfl rfl (by decide) (Nat.le_of_ble_eq_true rfl) rfl rfl rfl (by decide) (ok_X10_isFrom hR  g2) ?_
  show mr X _ _ 6 _ [.int q1] (MM RR S) _
  by_cases c4 : q1 = (0 : Int32)
  · rw [if_pos c4] at h3
    refine mr_if_ne_f (t := 11) (pc' := 9) dX10_image_6 (by decide) rfl (not_not_intro c4) ?_
    refine mr_iconst (pc' := 10) (v := (-1 : Int32)) dX10_image_9 rfl (by decide) ?_
    obtain rfl := Option.some.inj h3
    exact mr_ireturn dX10_image_10 rfl
  · rw [if_neg c4] at h3
    refine mr_if_ne_t (t := 11) dX10_image_6 (by decide) c4 ?_
    refine mr_aload_n (pc' := 12) dX10_image_11 rfl rfl ?_
    refine mr_getR (pc' := 15) (ci := 10) (j := 2) (b := 22) hR dX10_image_12 rfl rfl rfl (by decide) (by decide) (by decide) rfl rfl ?_
    refine mr_iload_n (pc' := 16) dX10_image_15 rfl rfl ?_
    obtain ⟨a5, g6, h7⟩ := Option.bind_eq_some_iff.mp h3
    refine mr_aald22 (pc' := 17) hR dX10_image_16 rfl g6 ?_
    refine mr_aload_n (pc' := 18) dX10_image_17 rfl rfl ?_
    refine mr_getR (pc' := 21) (ci := 10) (j := 1) (b := 3) hR dX10_image_18 rfl rfl rfl (by decide) (by decide) (by decide) rfl rfl ?_
    obtain ⟨q8, g9, h10⟩ := Option.bind_eq_some_iff.mp h7
    refine mr_cv (pc' := 24) (a := a5) (d1 := 1) dX10_image_21 rfl rfl rfl rfl rfl (gA22_tg g6) (by decide) rfl (by decide) (ok_X6_copyFrom hR (gA22_tg g6) rfl g9) ?_
    show mr X _ _ 24 _ [] (MM RR q8) _
    refine mr_aload_n (pc' := 25) dX10_image_24 rfl rfl ?_
    refine mr_getR (pc' := 28) (ci := 10) (j := 2) (b := 22) hR dX10_image_25 rfl rfl rfl (by decide) (by decide) (by decide) rfl rfl ?_
    refine mr_iload_n (pc' := 29) dX10_image_28 rfl rfl ?_
    obtain ⟨a11, g12, h13⟩ := Option.bind_eq_some_iff.mp h10
    refine mr_aald22 (pc' := 30) hR dX10_image_29 rfl g12 ?_
    refine mr_iconst (pc' := 31) (v := (1 : Int32)) dX10_image_30 rfl (by decide) ?_
    obtain ⟨S14, g15, h16⟩ := Option.bind_eq_some_iff.mp h13
    refine mr_putZ (by decide) (pc' := 34) (ci := 6) (j := 4) dX10_image_31 rfl rfl (gA22_tg g12) (by decide) (by decide) rfl rfl ?_
    rw [Option.some.inj g15]
    refine mr_aload_n (pc' := 35) dX10_image_34 rfl rfl ?_
    refine mr_getR (pc' := 38) (ci := 10) (j := 1) (b := 3) hR dX10_image_35 rfl rfl rfl (by decide) (by decide) (by decide) rfl rfl ?_
    refine mr_getR (pc' := 41) (ci := 6) (j := 1) (b := 11) hR dX10_image_38 rfl rfl rfl (by decide) (by decide) (by decide) rfl rfl ?_
    refine mr_getI (pc' := 44) (ci := 0) (j := 6) dX10_image_41 rfl rfl rfl (by decide) (by decide) rfl ?_
    obtain rfl := Option.some.inj h16
    exact mr_ireturn dX10_image_44 rfl
def f_X10_back (v1 : Int32) (S : fS) : Option (Int32 × fS) :=
  (f_X10_isFrom v1 (0 : Int32) (3 : Int32) S).bind fun q1 =>
  if q1 = (0 : Int32) then (some ((-1 : Int32), S)) else
  ((gA22 v1).bind fun a5 =>
  if (S.1 a5 4) = (0 : Int32) then (some ((-1 : Int32), S)) else
  ((gA22 v1).bind fun a9 =>
  (f_X6_copyFrom 3 a9 S).bind fun q12 =>
  some ((q12.1 11 6), q12)))
set_option maxHeartbeats 4000000 in
set_option maxRecDepth 100000 in
theorem ok_X10_back {X : mm_C} {RR : Nat → Nat → Option Nat} (hR : RRok RR) {v1 : Int32}  {S : fS} {r : Int32 × fS} (h : f_X10_back v1 S = some r) : mr X 2 mY_X10_back 0 (lv_args 0 [.ref 0, .int v1]) [] (MM RR S) (some (.int r.1), MM RR r.2) := by
  unfold f_X10_back at h
  show mr X _ _ 0 [(0, .ref 0), (1, .int v1)] [] (MM RR S) _
  refine mr_iload_n (pc' := 1) dX10_back_0 rfl rfl ?_
  refine mr_iconst (pc' := 2) (v := (0 : Int32)) dX10_back_1 rfl (by decide) ?_
  refine mr_iconst (pc' := 3) (v := (3 : Int32)) dX10_back_2 rfl (by decide) ?_
  obtain ⟨q1, g2, h3⟩ := Option.bind_eq_some_iff.mp h
  refine mr_cs (pc' := 6) (d1 := 0) dX10_back_3 rfl rfl rfl rfl (by decide) (Nat.le_of_ble_eq_true rfl) rfl rfl rfl (by decide) (ok_X10_isFrom hR  g2) ?_
  show mr X _ _ 6 _ [.int q1] (MM RR S) _
  by_cases c4 : q1 = (0 : Int32)
  · rw [if_pos c4] at h3
    refine mr_if_eq_t (t := 21) dX10_back_6 (by decide) c4 ?_
    refine mr_iconst (pc' := 22) (v := (-1 : Int32)) dX10_back_21 rfl (by decide) ?_
    obtain rfl := Option.some.inj h3
    exact mr_ireturn dX10_back_22 rfl
  · rw [if_neg c4] at h3
    refine mr_if_eq_f (t := 21) (pc' := 9) dX10_back_6 (by decide) rfl c4 ?_
    refine mr_aload_n (pc' := 10) dX10_back_9 rfl rfl ?_
    refine mr_getR (pc' := 13) (ci := 10) (j := 2) (b := 22) hR dX10_back_10 rfl rfl rfl (by decide) (by decide) (by decide) rfl rfl ?_
    refine mr_iload_n (pc' := 14) dX10_back_13 rfl rfl ?_
    obtain ⟨a5, g6, h7⟩ := Option.bind_eq_some_iff.mp h3
    refine mr_aald22 (pc' := 15) hR dX10_back_14 rfl g6 ?_
    refine mr_getI (pc' := 18) (ci := 6) (j := 4) dX10_back_15 rfl rfl (gA22_tg g6) (by decide) (by decide) rfl ?_
    by_cases c8 : (S.1 a5 4) = (0 : Int32)
    · rw [if_pos c8] at h7
      refine mr_if_ne_f (t := 23) (pc' := 21) dX10_back_18 (by decide) rfl (not_not_intro c8) ?_
      refine mr_iconst (pc' := 22) (v := (-1 : Int32)) dX10_back_21 rfl (by decide) ?_
      obtain rfl := Option.some.inj h7
      exact mr_ireturn dX10_back_22 rfl
    · rw [if_neg c8] at h7
      refine mr_if_ne_t (t := 23) dX10_back_18 (by decide) c8 ?_
      refine mr_aload_n (pc' := 24) dX10_back_23 rfl rfl ?_
      refine mr_getR (pc' := 27) (ci := 10) (j := 1) (b := 3) hR dX10_back_24 rfl rfl rfl (by decide) (by decide) (by decide) rfl rfl ?_
      refine mr_aload_n (pc' := 28) dX10_back_27 rfl rfl ?_
      refine mr_getR (pc' := 31) (ci := 10) (j := 2) (b := 22) hR dX10_back_28 rfl rfl rfl (by decide) (by decide) (by decide) rfl rfl ?_
      refine mr_iload_n (pc' := 32) dX10_back_31 rfl rfl ?_
      obtain ⟨a9, g10, h11⟩ := Option.bind_eq_some_iff.mp h7
      refine mr_aald22 (pc' := 33) hR dX10_back_32 rfl g10 ?_
      obtain ⟨q12, g13, h14⟩ := Option.bind_eq_some_iff.mp h11
      refine mr_cv (pc' := 36) (a := 3) (d1 := 1) dX10_back_33 rfl rfl rfl rfl rfl rfl (by decide) rfl (by decide) (ok_X6_copyFrom hR rfl (gA22_tg g10) g13) ?_
      show mr X _ _ 36 _ [] (MM RR q12) _
      refine mr_aload_n (pc' := 37) dX10_back_36 rfl rfl ?_
      refine mr_getR (pc' := 40) (ci := 10) (j := 1) (b := 3) hR dX10_back_37 rfl rfl rfl (by decide) (by decide) (by decide) rfl rfl ?_
      refine mr_getR (pc' := 43) (ci := 6) (j := 1) (b := 11) hR dX10_back_40 rfl rfl rfl (by decide) (by decide) (by decide) rfl rfl ?_
      refine mr_getI (pc' := 46) (ci := 0) (j := 6) dX10_back_43 rfl rfl rfl (by decide) (by decide) rfl ?_
      obtain rfl := Option.some.inj h14
      exact mr_ireturn dX10_back_46 rfl
def lp_X11_four_3 (p1 : Int32) (K : fS → Option (fS)) : Nat → Int32 → fS → Option (fS)
  | 0, _, _ => none
  | n + 1, p2, S0 =>
    if p2 < (0 : Int32) then (K S0) else
    ((sI S0 146 400 (S0.1 145 1) (Int8.toInt32 (Int32.toInt8 (Int8.toInt32 (Int32.toInt8 (p1 >>> (p2 &&& 31))))))).bind fun S2 =>
    (some (pI S2 145 1 ((S2.1 145 1) + (1 : Int32)))).bind fun S5 =>
    lp_X11_four_3 p1 K n (p2 + (-8 : Int32)) S5)
set_option maxHeartbeats 4000000 in
set_option maxRecDepth 100000 in
theorem ok_lp_X11_four_3 {X : mm_C} {RR : Nat → Nat → Option Nat} (hR : RRok RR) {p1 : Int32}  {K : fS → Option (fS)} {r : fS} (hK : ∀ (Sk : fS), K Sk = some r → mr X 0 mY_X11_four 36 [] [] (MM RR Sk) (none, MM RR r)) : ∀ (n : Nat) (p2 : Int32) (S0 : fS), lp_X11_four_3 p1 K n p2 S0 = some r → mr X 0 mY_X11_four 3 [(0, .ref 145), (1, .int p1), (2, .int p2)] [] (MM RR S0) (none, MM RR r) := by
  intro n
  induction n with
  | zero => intro p2 S0 h; exact mm_no h
  | succ n ih =>
    intro p2 S0 h
    unfold lp_X11_four_3 at h
    refine mr_iload_n (pc' := 4) dX11_four_3 rfl rfl ?_
    by_cases c1 : p2 < (0 : Int32)
    · rw [if_pos c1] at h
      refine mr_if_lt_t (t := 36) dX11_four_4 (by decide) c1 ?_
      exact mr_sub [] trivial rfl (hK _  h)
    · rw [if_neg c1] at h
      refine mr_if_lt_f (t := 36) (pc' := 7) dX11_four_4 (by decide) rfl c1 ?_
      refine mr_aload_n (pc' := 8) dX11_four_7 rfl rfl ?_
      refine mr_getR (pc' := 11) (ci := 11) (j := 0) (b := 146) hR dX11_four_8 rfl rfl rfl (by decide) (by decide) (by decide) rfl rfl ?_
      refine mr_aload_n (pc' := 12) dX11_four_11 rfl rfl ?_
      refine mr_getI (pc' := 15) (ci := 11) (j := 1) dX11_four_12 rfl rfl rfl (by decide) (by decide) rfl ?_
      refine mr_iload_n (pc' := 16) dX11_four_15 rfl rfl ?_
      refine mr_iload_n (pc' := 17) dX11_four_16 rfl rfl ?_
      refine mr_ishr (pc' := 18) dX11_four_17 rfl ?_
      refine mr_i2b (pc' := 19) dX11_four_18 rfl ?_
      obtain ⟨S2, g3, h4⟩ := Option.bind_eq_some_iff.mp h
      refine mr_bast (pc' := 20) dX11_four_19 rfl rfl rfl g3 ?_
      refine mr_aload_n (pc' := 21) dX11_four_20 rfl rfl ?_
      refine mr_dup_ref (pc' := 22) dX11_four_21 rfl ?_
      refine mr_getI (pc' := 25) (ci := 11) (j := 1) dX11_four_22 rfl rfl rfl (by decide) (by decide) rfl ?_
      refine mr_iconst (pc' := 26) (v := (1 : Int32)) dX11_four_25 rfl (by decide) ?_
      refine mr_iadd (pc' := 27) dX11_four_26 rfl ?_
      obtain ⟨S5, g6, h7⟩ := Option.bind_eq_some_iff.mp h4
      refine mr_putI (pc' := 30) (ci := 11) (j := 1) dX11_four_27 rfl rfl rfl (by decide) (by decide) rfl rfl ?_
      rw [Option.some.inj g6]
      refine mr_iinc (pc' := 33) (x' := (p2 + (-8 : Int32))) (lv' := [(2, .int (p2 + (-8 : Int32))), (0, .ref 145), (1, .int p1)]) dX11_four_30 rfl (by decide) rfl rfl rfl ?_
      refine mr_goto (t := 3) dX11_four_33 (by decide) ?_
      exact mr_sub [(0, .ref 145), (1, .int p1), (2, .int (p2 + (-8 : Int32)))] ⟨rfl, rfl, rfl, trivial⟩ rfl (ih _ _  h7)
def f_X11_four (v1 : Int32) (S : fS) : Option (fS) :=
  lp_X11_four_3 v1 (fun S8 => some S8) FU (24 : Int32) S
set_option maxHeartbeats 4000000 in
set_option maxRecDepth 100000 in
theorem ok_X11_four {X : mm_C} {RR : Nat → Nat → Option Nat} (hR : RRok RR) {v1 : Int32}  {S : fS} {r : fS} (h : f_X11_four v1 S = some r) : mr X 0 mY_X11_four 0 (lv_args 0 [.ref 145, .int v1]) [] (MM RR S) (none, MM RR r) := by
  unfold f_X11_four at h
  show mr X _ _ 0 [(0, .ref 145), (1, .int v1)] [] (MM RR S) _
  refine mr_bipush (pc' := 2) (v := (24 : Int32)) dX11_four_0 rfl (by decide) ?_
  refine mr_istore_n (pc' := 3) (lv' := [(2, .int (24 : Int32)), (0, .ref 145), (1, .int v1)]) dX11_four_2 rfl (by decide) rfl ?_
  refine mr_sub [(0, .ref 145), (1, .int v1), (2, .int (24 : Int32))] ⟨rfl, rfl, rfl, trivial⟩ rfl ?_
  refine ok_lp_X11_four_3 hR  (fun S8 h9 => ?_) FU _ _  h
  obtain rfl := Option.some.inj h9
  exact mr_return dX11_four_36 rfl
def f_X11_feed (v1 : Int32) (v2 : Int32) (v3 : Int32) (v4 : Int32) (v5 : Int32) (S : fS) : Option (Int32 × fS) :=
  if ((S.1 145 1) + (20 : Int32)) ≤ (400 : Int32) then ((f_X11_four v1 S).bind fun q2 =>
  (f_X11_four v2 q2).bind fun q5 =>
  (f_X11_four v3 q5).bind fun q8 =>
  (f_X11_four v4 q8).bind fun q11 =>
  (f_X11_four v5 q11).bind fun q14 =>
  some ((q14.1 145 1), q14)) else
  (some ((-1 : Int32), S))
set_option maxHeartbeats 4000000 in
set_option maxRecDepth 100000 in
theorem ok_X11_feed {X : mm_C} {RR : Nat → Nat → Option Nat} (hR : RRok RR) {v1 : Int32} {v2 : Int32} {v3 : Int32} {v4 : Int32} {v5 : Int32}  {S : fS} {r : Int32 × fS} (h : f_X11_feed v1 v2 v3 v4 v5 S = some r) : mr X 1 mY_X11_feed 0 (lv_args 0 [.ref 145, .int v1, .int v2, .int v3, .int v4, .int v5]) [] (MM RR S) (some (.int r.1), MM RR r.2) := by
  unfold f_X11_feed at h
  show mr X _ _ 0 [(0, .ref 145), (1, .int v1), (2, .int v2), (3, .int v3), (4, .int v4), (5, .int v5)] [] (MM RR S) _
  refine mr_aload_n (pc' := 1) dX11_feed_0 rfl rfl ?_
  refine mr_getI (pc' := 4) (ci := 11) (j := 1) dX11_feed_1 rfl rfl rfl (by decide) (by decide) rfl ?_
  refine mr_bipush (pc' := 6) (v := (20 : Int32)) dX11_feed_4 rfl (by decide) ?_
  refine mr_iadd (pc' := 7) dX11_feed_6 rfl ?_
  refine mr_sipush (pc' := 10) (v := (400 : Int32)) dX11_feed_7 rfl (by decide) ?_
  by_cases c1 : ((S.1 145 1) + (20 : Int32)) ≤ (400 : Int32)
  · rw [if_pos c1] at h
    refine mr_icmp_le_t (t := 15) dX11_feed_10 (by decide) c1 ?_
    refine mr_aload_n (pc' := 16) dX11_feed_15 rfl rfl ?_
    refine mr_iload_n (pc' := 17) dX11_feed_16 rfl rfl ?_
    obtain ⟨q2, g3, h4⟩ := Option.bind_eq_some_iff.mp h
    refine mr_cv (pc' := 20) (a := 145) (d1 := 0) dX11_feed_17 rfl rfl rfl rfl rfl rfl (by decide) rfl (by decide) (ok_X11_four hR  g3) ?_
    show mr X _ _ 20 _ [] (MM RR q2) _
    refine mr_aload_n (pc' := 21) dX11_feed_20 rfl rfl ?_
    refine mr_iload_n (pc' := 22) dX11_feed_21 rfl rfl ?_
    obtain ⟨q5, g6, h7⟩ := Option.bind_eq_some_iff.mp h4
    refine mr_cv (pc' := 25) (a := 145) (d1 := 0) dX11_feed_22 rfl rfl rfl rfl rfl rfl (by decide) rfl (by decide) (ok_X11_four hR  g6) ?_
    show mr X _ _ 25 _ [] (MM RR q5) _
    refine mr_aload_n (pc' := 26) dX11_feed_25 rfl rfl ?_
    refine mr_iload_n (pc' := 27) dX11_feed_26 rfl rfl ?_
    obtain ⟨q8, g9, h10⟩ := Option.bind_eq_some_iff.mp h7
    refine mr_cv (pc' := 30) (a := 145) (d1 := 0) dX11_feed_27 rfl rfl rfl rfl rfl rfl (by decide) rfl (by decide) (ok_X11_four hR  g9) ?_
    show mr X _ _ 30 _ [] (MM RR q8) _
    refine mr_aload_n (pc' := 31) dX11_feed_30 rfl rfl ?_
    refine mr_iload (pc' := 33) dX11_feed_31 rfl rfl ?_
    obtain ⟨q11, g12, h13⟩ := Option.bind_eq_some_iff.mp h10
    refine mr_cv (pc' := 36) (a := 145) (d1 := 0) dX11_feed_33 rfl rfl rfl rfl rfl rfl (by decide) rfl (by decide) (ok_X11_four hR  g12) ?_
    show mr X _ _ 36 _ [] (MM RR q11) _
    refine mr_aload_n (pc' := 37) dX11_feed_36 rfl rfl ?_
    refine mr_iload (pc' := 39) dX11_feed_37 rfl rfl ?_
    obtain ⟨q14, g15, h16⟩ := Option.bind_eq_some_iff.mp h13
    refine mr_cv (pc' := 42) (a := 145) (d1 := 0) dX11_feed_39 rfl rfl rfl rfl rfl rfl (by decide) rfl (by decide) (ok_X11_four hR  g15) ?_
    show mr X _ _ 42 _ [] (MM RR q14) _
    refine mr_aload_n (pc' := 43) dX11_feed_42 rfl rfl ?_
    refine mr_getI (pc' := 46) (ci := 11) (j := 1) dX11_feed_43 rfl rfl rfl (by decide) (by decide) rfl ?_
    obtain rfl := Option.some.inj h16
    exact mr_ireturn dX11_feed_46 rfl
  · rw [if_neg c1] at h
    refine mr_icmp_le_f (t := 15) (pc' := 13) dX11_feed_10 (by decide) rfl c1 ?_
    refine mr_iconst (pc' := 14) (v := (-1 : Int32)) dX11_feed_13 rfl (by decide) ?_
    obtain rfl := Option.some.inj h
    exact mr_ireturn dX11_feed_14 rfl
def f_X11_end (v1 : Int32) (S : fS) : Option (Int32 × fS) :=
  if v1 < (0 : Int32) then (some ((-1 : Int32), S)) else
  (if v1 ≤ (S.1 145 1) then ((some (pI S 145 1 v1)).bind fun S3 =>
  some (v1, S3)) else
  (some ((-1 : Int32), S)))
set_option maxHeartbeats 4000000 in
set_option maxRecDepth 100000 in
theorem ok_X11_end {X : mm_C} {RR : Nat → Nat → Option Nat} (hR : RRok RR) {v1 : Int32}  {S : fS} {r : Int32 × fS} (h : f_X11_end v1 S = some r) : mr X 0 mY_X11_end 0 (lv_args 0 [.ref 145, .int v1]) [] (MM RR S) (some (.int r.1), MM RR r.2) := by
  unfold f_X11_end at h
  show mr X _ _ 0 [(0, .ref 145), (1, .int v1)] [] (MM RR S) _
  refine mr_iload_n (pc' := 1) dX11_end_0 rfl rfl ?_
  by_cases c1 : v1 < (0 : Int32)
  · rw [if_pos c1] at h
    refine mr_if_lt_t (t := 12) dX11_end_1 (by decide) c1 ?_
    refine mr_iconst (pc' := 13) (v := (-1 : Int32)) dX11_end_12 rfl (by decide) ?_
    obtain rfl := Option.some.inj h
    exact mr_ireturn dX11_end_13 rfl
  · rw [if_neg c1] at h
    refine mr_if_lt_f (t := 12) (pc' := 4) dX11_end_1 (by decide) rfl c1 ?_
    refine mr_iload_n (pc' := 5) dX11_end_4 rfl rfl ?_
    refine mr_aload_n (pc' := 6) dX11_end_5 rfl rfl ?_
    refine mr_getI (pc' := 9) (ci := 11) (j := 1) dX11_end_6 rfl rfl rfl (by decide) (by decide) rfl ?_
    by_cases c2 : v1 ≤ (S.1 145 1)
    · rw [if_pos c2] at h
      refine mr_icmp_le_t (t := 14) dX11_end_9 (by decide) c2 ?_
      refine mr_aload_n (pc' := 15) dX11_end_14 rfl rfl ?_
      refine mr_iload_n (pc' := 16) dX11_end_15 rfl rfl ?_
      obtain ⟨S3, g4, h5⟩ := Option.bind_eq_some_iff.mp h
      refine mr_putI (pc' := 19) (ci := 11) (j := 1) dX11_end_16 rfl rfl rfl (by decide) (by decide) rfl rfl ?_
      rw [Option.some.inj g4]
      refine mr_iload_n (pc' := 20) dX11_end_19 rfl rfl ?_
      obtain rfl := Option.some.inj h5
      exact mr_ireturn dX11_end_20 rfl
    · rw [if_neg c2] at h
      refine mr_icmp_le_f (t := 14) (pc' := 12) dX11_end_9 (by decide) rfl c2 ?_
      refine mr_iconst (pc' := 13) (v := (-1 : Int32)) dX11_end_12 rfl (by decide) ?_
      obtain rfl := Option.some.inj h
      exact mr_ireturn dX11_end_13 rfl
def lp_X11_see_0  (K : fS → Option (Int32 × fS)) : Nat → fS → Option (Int32 × fS)
  | 0, _ => none
  | n + 1, S0 =>
    if (S0.1 145 1) ≤ (S0.1 145 13) then (K S0) else
    ((gI S0 146 400 (S0.1 145 13)).bind fun a2 =>
    if a2 = (32 : Int32) then ((some (pI S0 145 13 ((S0.1 145 13) + (1 : Int32)))).bind fun S6 =>
    lp_X11_see_0  K n  S6) else
    (K S0))
set_option maxHeartbeats 4000000 in
set_option maxRecDepth 100000 in
theorem ok_lp_X11_see_0 {X : mm_C} {RR : Nat → Nat → Option Nat} (hR : RRok RR)   {K : fS → Option (Int32 × fS)} {r : Int32 × fS} (hK : ∀ (Sk : fS), K Sk = some r → mr X 0 mY_X11_see 38 [(0, .ref 145)] [] (MM RR Sk) (some (.int r.1), MM RR r.2)) : ∀ (n : Nat) (S0 : fS), lp_X11_see_0  K n S0 = some r → mr X 0 mY_X11_see 0 [(0, .ref 145)] [] (MM RR S0) (some (.int r.1), MM RR r.2) := by
  intro n
  induction n with
  | zero => intro S0 h; exact mm_no h
  | succ n ih =>
    intro S0 h
    unfold lp_X11_see_0 at h
    refine mr_aload_n (pc' := 1) dX11_see_0 rfl rfl ?_
    refine mr_getI (pc' := 4) (ci := 11) (j := 13) dX11_see_1 rfl rfl rfl (by decide) (by decide) rfl ?_
    refine mr_aload_n (pc' := 5) dX11_see_4 rfl rfl ?_
    refine mr_getI (pc' := 8) (ci := 11) (j := 1) dX11_see_5 rfl rfl rfl (by decide) (by decide) rfl ?_
    by_cases c1 : (S0.1 145 1) ≤ (S0.1 145 13)
    · rw [if_pos c1] at h
      refine mr_icmp_ge_t (t := 38) dX11_see_8 (by decide) c1 ?_
      exact mr_sub [(0, .ref 145)] ⟨rfl, trivial⟩ rfl (hK _  h)
    · rw [if_neg c1] at h
      refine mr_icmp_ge_f (t := 38) (pc' := 11) dX11_see_8 (by decide) rfl c1 ?_
      refine mr_aload_n (pc' := 12) dX11_see_11 rfl rfl ?_
      refine mr_getR (pc' := 15) (ci := 11) (j := 0) (b := 146) hR dX11_see_12 rfl rfl rfl (by decide) (by decide) (by decide) rfl rfl ?_
      refine mr_aload_n (pc' := 16) dX11_see_15 rfl rfl ?_
      refine mr_getI (pc' := 19) (ci := 11) (j := 13) dX11_see_16 rfl rfl rfl (by decide) (by decide) rfl ?_
      obtain ⟨a2, g3, h4⟩ := Option.bind_eq_some_iff.mp h
      refine mr_bald (pc' := 20) dX11_see_19 rfl (Or.inl rfl) rfl g3 ?_
      refine mr_bipush (pc' := 22) (v := (32 : Int32)) dX11_see_20 rfl (by decide) ?_
      by_cases c5 : a2 = (32 : Int32)
      · rw [if_pos c5] at h4
        refine mr_icmp_ne_f (t := 38) (pc' := 25) dX11_see_22 (by decide) rfl (not_not_intro c5) ?_
        refine mr_aload_n (pc' := 26) dX11_see_25 rfl rfl ?_
        refine mr_dup_ref (pc' := 27) dX11_see_26 rfl ?_
        refine mr_getI (pc' := 30) (ci := 11) (j := 13) dX11_see_27 rfl rfl rfl (by decide) (by decide) rfl ?_
        refine mr_iconst (pc' := 31) (v := (1 : Int32)) dX11_see_30 rfl (by decide) ?_
        refine mr_iadd (pc' := 32) dX11_see_31 rfl ?_
        obtain ⟨S6, g7, h8⟩ := Option.bind_eq_some_iff.mp h4
        refine mr_putI (pc' := 35) (ci := 11) (j := 13) dX11_see_32 rfl rfl rfl (by decide) (by decide) rfl rfl ?_
        rw [Option.some.inj g7]
        refine mr_goto (t := 0) dX11_see_35 (by decide) ?_
        exact mr_sub [(0, .ref 145)] ⟨rfl, trivial⟩ rfl (ih _  h8)
      · rw [if_neg c5] at h4
        refine mr_icmp_ne_t (t := 38) dX11_see_22 (by decide) c5 ?_
        exact mr_sub [(0, .ref 145)] ⟨rfl, trivial⟩ rfl (hK _  h4)
def f_X11_see  (S : fS) : Option (Int32 × fS) :=
  lp_X11_see_0  (fun S9 => if (S9.1 145 1) ≤ (S9.1 145 13) then (some ((-1 : Int32), S9)) else
  ((gI S9 146 400 (S9.1 145 13)).bind fun a12 =>
  some ((a12 &&& (255 : Int32)), S9))) FU  S
set_option maxHeartbeats 4000000 in
set_option maxRecDepth 100000 in
theorem ok_X11_see {X : mm_C} {RR : Nat → Nat → Option Nat} (hR : RRok RR)   {S : fS} {r : Int32 × fS} (h : f_X11_see  S = some r) : mr X 0 mY_X11_see 0 (lv_args 0 [.ref 145]) [] (MM RR S) (some (.int r.1), MM RR r.2) := by
  unfold f_X11_see at h
  show mr X _ _ 0 [(0, .ref 145)] [] (MM RR S) _
  refine mr_sub [(0, .ref 145)] ⟨rfl, trivial⟩ rfl ?_
  refine ok_lp_X11_see_0 hR  (fun S9 h10 => ?_) FU _  h
  refine mr_aload_n (pc' := 39) dX11_see_38 rfl rfl ?_
  refine mr_getI (pc' := 42) (ci := 11) (j := 13) dX11_see_39 rfl rfl rfl (by decide) (by decide) rfl ?_
  refine mr_aload_n (pc' := 43) dX11_see_42 rfl rfl ?_
  refine mr_getI (pc' := 46) (ci := 11) (j := 1) dX11_see_43 rfl rfl rfl (by decide) (by decide) rfl ?_
  by_cases c11 : (S9.1 145 1) ≤ (S9.1 145 13)
  · rw [if_pos c11] at h10
    refine mr_icmp_ge_t (t := 65) dX11_see_46 (by decide) c11 ?_
    refine mr_iconst (pc' := 66) (v := (-1 : Int32)) dX11_see_65 rfl (by decide) ?_
    obtain rfl := Option.some.inj h10
    exact mr_ireturn dX11_see_66 rfl
  · rw [if_neg c11] at h10
    refine mr_icmp_ge_f (t := 65) (pc' := 49) dX11_see_46 (by decide) rfl c11 ?_
    refine mr_aload_n (pc' := 50) dX11_see_49 rfl rfl ?_
    refine mr_getR (pc' := 53) (ci := 11) (j := 0) (b := 146) hR dX11_see_50 rfl rfl rfl (by decide) (by decide) (by decide) rfl rfl ?_
    refine mr_aload_n (pc' := 54) dX11_see_53 rfl rfl ?_
    refine mr_getI (pc' := 57) (ci := 11) (j := 13) dX11_see_54 rfl rfl rfl (by decide) (by decide) rfl ?_
    obtain ⟨a12, g13, h14⟩ := Option.bind_eq_some_iff.mp h10
    refine mr_bald (pc' := 58) dX11_see_57 rfl (Or.inl rfl) rfl g13 ?_
    refine mr_sipush (pc' := 61) (v := (255 : Int32)) dX11_see_58 rfl (by decide) ?_
    refine mr_iand (pc' := 62) dX11_see_61 rfl ?_
    refine mr_goto (t := 66) dX11_see_62 (by decide) ?_
    obtain rfl := Option.some.inj h14
    exact mr_ireturn dX11_see_66 rfl
def f_X11_isLetter (v1 : Int32) (S : fS) : Option (Int32) :=
  if (S.1 145 1) ≤ v1 then (some (0 : Int32)) else
  ((gI S 146 400 v1).bind fun a2 =>
  if a2 < (97 : Int32) then (some (0 : Int32)) else
  ((gI S 146 400 v1).bind fun a6 =>
  if (122 : Int32) < a6 then (some (0 : Int32)) else
  (some (1 : Int32))))
set_option maxHeartbeats 4000000 in
set_option maxRecDepth 100000 in
theorem ok_X11_isLetter {X : mm_C} {RR : Nat → Nat → Option Nat} (hR : RRok RR) {v1 : Int32}  {S : fS} {r : Int32} (h : f_X11_isLetter v1 S = some r) : mr X 0 mY_X11_isLetter 0 (lv_args 0 [.ref 145, .int v1]) [] (MM RR S) (some (.int r), MM RR S) := by
  unfold f_X11_isLetter at h
  show mr X _ _ 0 [(0, .ref 145), (1, .int v1)] [] (MM RR S) _
  refine mr_iload_n (pc' := 1) dX11_isLetter_0 rfl rfl ?_
  refine mr_aload_n (pc' := 2) dX11_isLetter_1 rfl rfl ?_
  refine mr_getI (pc' := 5) (ci := 11) (j := 1) dX11_isLetter_2 rfl rfl rfl (by decide) (by decide) rfl ?_
  by_cases c1 : (S.1 145 1) ≤ v1
  · rw [if_pos c1] at h
    refine mr_icmp_ge_t (t := 34) dX11_isLetter_5 (by decide) c1 ?_
    refine mr_iconst (pc' := 35) (v := (0 : Int32)) dX11_isLetter_34 rfl (by decide) ?_
    obtain rfl := Option.some.inj h
    exact mr_zreturn dX11_isLetter_35 rfl (by decide)
  · rw [if_neg c1] at h
    refine mr_icmp_ge_f (t := 34) (pc' := 8) dX11_isLetter_5 (by decide) rfl c1 ?_
    refine mr_aload_n (pc' := 9) dX11_isLetter_8 rfl rfl ?_
    refine mr_getR (pc' := 12) (ci := 11) (j := 0) (b := 146) hR dX11_isLetter_9 rfl rfl rfl (by decide) (by decide) (by decide) rfl rfl ?_
    refine mr_iload_n (pc' := 13) dX11_isLetter_12 rfl rfl ?_
    obtain ⟨a2, g3, h4⟩ := Option.bind_eq_some_iff.mp h
    refine mr_bald (pc' := 14) dX11_isLetter_13 rfl (Or.inl rfl) rfl g3 ?_
    refine mr_bipush (pc' := 16) (v := (97 : Int32)) dX11_isLetter_14 rfl (by decide) ?_
    by_cases c5 : a2 < (97 : Int32)
    · rw [if_pos c5] at h4
      refine mr_icmp_lt_t (t := 34) dX11_isLetter_16 (by decide) c5 ?_
      refine mr_iconst (pc' := 35) (v := (0 : Int32)) dX11_isLetter_34 rfl (by decide) ?_
      obtain rfl := Option.some.inj h4
      exact mr_zreturn dX11_isLetter_35 rfl (by decide)
    · rw [if_neg c5] at h4
      refine mr_icmp_lt_f (t := 34) (pc' := 19) dX11_isLetter_16 (by decide) rfl c5 ?_
      refine mr_aload_n (pc' := 20) dX11_isLetter_19 rfl rfl ?_
      refine mr_getR (pc' := 23) (ci := 11) (j := 0) (b := 146) hR dX11_isLetter_20 rfl rfl rfl (by decide) (by decide) (by decide) rfl rfl ?_
      refine mr_iload_n (pc' := 24) dX11_isLetter_23 rfl rfl ?_
      obtain ⟨a6, g7, h8⟩ := Option.bind_eq_some_iff.mp h4
      refine mr_bald (pc' := 25) dX11_isLetter_24 rfl (Or.inl rfl) rfl g7 ?_
      refine mr_bipush (pc' := 27) (v := (122 : Int32)) dX11_isLetter_25 rfl (by decide) ?_
      by_cases c9 : (122 : Int32) < a6
      · rw [if_pos c9] at h8
        refine mr_icmp_gt_t (t := 34) dX11_isLetter_27 (by decide) c9 ?_
        refine mr_iconst (pc' := 35) (v := (0 : Int32)) dX11_isLetter_34 rfl (by decide) ?_
        obtain rfl := Option.some.inj h8
        exact mr_zreturn dX11_isLetter_35 rfl (by decide)
      · rw [if_neg c9] at h8
        refine mr_icmp_gt_f (t := 34) (pc' := 30) dX11_isLetter_27 (by decide) rfl c9 ?_
        refine mr_iconst (pc' := 31) (v := (1 : Int32)) dX11_isLetter_30 rfl (by decide) ?_
        refine mr_goto (t := 35) dX11_isLetter_31 (by decide) ?_
        obtain rfl := Option.some.inj h8
        exact mr_zreturn dX11_isLetter_35 rfl (by decide)
def lp_X11_isWord_10 (p1 : Int64) (K : Int64 → Int32 → fS → Option (Int32 × fS)) : Nat → Int64 → Int32 → fS → Option (Int32 × fS)
  | 0, _, _, _ => none
  | n + 1, p3, p5, S0 =>
    (f_X11_isLetter ((S0.1 145 13) + p5) S0).bind fun q4 =>
    if q4 = (0 : Int32) then (K p3 p5 S0) else
    (if (8 : Int32) ≤ p5 then (lp_X11_isWord_10 p1 K n p3 (p5 + (1 : Int32)) S0) else
    ((gI S0 146 400 ((S0.1 145 13) + p5)).bind fun a9 =>
    lp_X11_isWord_10 p1 K n ((p3 <<< (Int32.toInt64 (8 : Int32) &&& 63)) ||| (Int32.toInt64 a9)) (p5 + (1 : Int32)) S0))
set_option maxHeartbeats 4000000 in
set_option maxRecDepth 100000 in
theorem ok_lp_X11_isWord_10 {X : mm_C} {RR : Nat → Nat → Option Nat} (hR : RRok RR) {p1 : Int64}  {K : Int64 → Int32 → fS → Option (Int32 × fS)} {r : Int32 × fS} (hK : ∀ (k3 : Int64) (k5 : Int32) (Sk : fS), K k3 k5 Sk = some r → mr X 1 mY_X11_isWord 56 [(1, .long p1), (3, .long k3), (5, .int k5)] [] (MM RR Sk) (some (.int r.1), MM RR r.2)) : ∀ (n : Nat) (p3 : Int64) (p5 : Int32) (S0 : fS), lp_X11_isWord_10 p1 K n p3 p5 S0 = some r → mr X 1 mY_X11_isWord 10 [(0, .ref 145), (1, .long p1), (3, .long p3), (5, .int p5)] [] (MM RR S0) (some (.int r.1), MM RR r.2) := by
  intro n
  induction n with
  | zero => intro p3 p5 S0 h; exact mm_no h
  | succ n ih =>
    intro p3 p5 S0 h
    unfold lp_X11_isWord_10 at h
    refine mr_aload_n (pc' := 11) dX11_isWord_10 rfl rfl ?_
    refine mr_aload_n (pc' := 12) dX11_isWord_11 rfl rfl ?_
    refine mr_getI (pc' := 15) (ci := 11) (j := 13) dX11_isWord_12 rfl rfl rfl (by decide) (by decide) rfl ?_
    refine mr_iload (pc' := 17) dX11_isWord_15 rfl rfl ?_
    refine mr_iadd (pc' := 18) dX11_isWord_17 rfl ?_
    obtain ⟨q4, g5, h6⟩ := Option.bind_eq_some_iff.mp h
    refine mr_cv (pc' := 21) (a := 145) (d1 := 0) dX11_isWord_18 rfl rfl rfl rfl rfl rfl (by decide) rfl (by decide) (ok_X11_isLetter hR  g5) ?_
    show mr X _ _ 21 _ [.int q4] (MM RR S0) _
    by_cases c7 : q4 = (0 : Int32)
    · rw [if_pos c7] at h6
      refine mr_if_eq_t (t := 56) dX11_isWord_21 (by decide) c7 ?_
      exact mr_sub [(1, .long p1), (3, .long p3), (5, .int p5)] ⟨rfl, rfl, rfl, trivial⟩ rfl (hK _ _ _  h6)
    · rw [if_neg c7] at h6
      refine mr_if_eq_f (t := 56) (pc' := 24) dX11_isWord_21 (by decide) rfl c7 ?_
      refine mr_iload (pc' := 26) dX11_isWord_24 rfl rfl ?_
      refine mr_bipush (pc' := 28) (v := (8 : Int32)) dX11_isWord_26 rfl (by decide) ?_
      by_cases c8 : (8 : Int32) ≤ p5
      · rw [if_pos c8] at h6
        refine mr_icmp_ge_t (t := 50) dX11_isWord_28 (by decide) c8 ?_
        refine mr_iinc (pc' := 53) (x' := (p5 + (1 : Int32))) (lv' := [(5, .int (p5 + (1 : Int32))), (0, .ref 145), (1, .long p1), (3, .long p3)]) dX11_isWord_50 rfl (by decide) rfl rfl rfl ?_
        refine mr_goto (t := 10) dX11_isWord_53 (by decide) ?_
        exact mr_sub [(0, .ref 145), (1, .long p1), (3, .long p3), (5, .int (p5 + (1 : Int32)))] ⟨rfl, rfl, rfl, rfl, trivial⟩ rfl (ih _ _ _  h6)
      · rw [if_neg c8] at h6
        refine mr_icmp_ge_f (t := 50) (pc' := 31) dX11_isWord_28 (by decide) rfl c8 ?_
        refine mr_lload_n (pc' := 32) dX11_isWord_31 rfl rfl ?_
        refine mr_bipush (pc' := 34) (v := (8 : Int32)) dX11_isWord_32 rfl (by decide) ?_
        refine mr_lshl (pc' := 35) dX11_isWord_34 rfl ?_
        refine mr_aload_n (pc' := 36) dX11_isWord_35 rfl rfl ?_
        refine mr_getR (pc' := 39) (ci := 11) (j := 0) (b := 146) hR dX11_isWord_36 rfl rfl rfl (by decide) (by decide) (by decide) rfl rfl ?_
        refine mr_aload_n (pc' := 40) dX11_isWord_39 rfl rfl ?_
        refine mr_getI (pc' := 43) (ci := 11) (j := 13) dX11_isWord_40 rfl rfl rfl (by decide) (by decide) rfl ?_
        refine mr_iload (pc' := 45) dX11_isWord_43 rfl rfl ?_
        refine mr_iadd (pc' := 46) dX11_isWord_45 rfl ?_
        obtain ⟨a9, g10, h11⟩ := Option.bind_eq_some_iff.mp h6
        refine mr_bald (pc' := 47) dX11_isWord_46 rfl (Or.inl rfl) rfl g10 ?_
        refine mr_i2l (pc' := 48) dX11_isWord_47 rfl ?_
        refine mr_lor (pc' := 49) dX11_isWord_48 rfl ?_
        refine mr_lstore_n (pc' := 50) (lv' := [(3, .long ((p3 <<< (Int32.toInt64 (8 : Int32) &&& 63)) ||| (Int32.toInt64 a9))), (0, .ref 145), (1, .long p1), (5, .int p5)]) dX11_isWord_49 rfl (by decide) rfl ?_
        refine mr_iinc (pc' := 53) (x' := (p5 + (1 : Int32))) (lv' := [(5, .int (p5 + (1 : Int32))), (3, .long ((p3 <<< (Int32.toInt64 (8 : Int32) &&& 63)) ||| (Int32.toInt64 a9))), (0, .ref 145), (1, .long p1)]) dX11_isWord_50 rfl (by decide) rfl rfl rfl ?_
        refine mr_goto (t := 10) dX11_isWord_53 (by decide) ?_
        exact mr_sub [(0, .ref 145), (1, .long p1), (3, .long ((p3 <<< (Int32.toInt64 (8 : Int32) &&& 63)) ||| (Int32.toInt64 a9))), (5, .int (p5 + (1 : Int32)))] ⟨rfl, rfl, rfl, rfl, trivial⟩ rfl (ih _ _ _  h11)
def f_X11_isWord (v1 : Int64) (S : fS) : Option (Int32 × fS) :=
  (f_X11_see  S).bind fun q1 =>
  lp_X11_isWord_10 v1 (fun u12 u13 S14 => if u13 ≤ (0 : Int32) then (some ((0 : Int32), S14)) else
  (if (9 : Int32) ≤ u13 then (some ((0 : Int32), S14)) else
  (if u12 = v1 then (some ((1 : Int32), S14)) else
  (some ((0 : Int32), S14))))) FU (0 : Int64) (0 : Int32) q1.2
set_option maxHeartbeats 4000000 in
set_option maxRecDepth 100000 in
theorem ok_X11_isWord {X : mm_C} {RR : Nat → Nat → Option Nat} (hR : RRok RR) {v1 : Int64}  {S : fS} {r : Int32 × fS} (h : f_X11_isWord v1 S = some r) : mr X 1 mY_X11_isWord 0 (lv_args 0 [.ref 145, .long v1]) [] (MM RR S) (some (.int r.1), MM RR r.2) := by
  unfold f_X11_isWord at h
  show mr X _ _ 0 [(0, .ref 145), (1, .long v1)] [] (MM RR S) _
  refine mr_aload_n (pc' := 1) dX11_isWord_0 rfl rfl ?_
  obtain ⟨q1, g2, h3⟩ := Option.bind_eq_some_iff.mp h
  refine mr_cv (pc' := 4) (a := 145) (d1 := 0) dX11_isWord_1 rfl rfl rfl rfl rfl rfl (by decide) rfl (by decide) (ok_X11_see hR  g2) ?_
  show mr X _ _ 4 _ [.int q1.1] (MM RR q1.2) _
  refine mr_pop_int (pc' := 5) dX11_isWord_4 rfl ?_
  refine mr_lconst (pc' := 6) (v := (0 : Int64)) dX11_isWord_5 rfl (by decide) ?_
  refine mr_lstore_n (pc' := 7) (lv' := [(3, .long (0 : Int64)), (0, .ref 145), (1, .long v1)]) dX11_isWord_6 rfl (by decide) rfl ?_
  refine mr_iconst (pc' := 8) (v := (0 : Int32)) dX11_isWord_7 rfl (by decide) ?_
  refine mr_istore (pc' := 10) (lv' := [(5, .int (0 : Int32)), (3, .long (0 : Int64)), (0, .ref 145), (1, .long v1)]) dX11_isWord_8 rfl (by decide) rfl ?_
  refine mr_sub [(0, .ref 145), (1, .long v1), (3, .long (0 : Int64)), (5, .int (0 : Int32))] ⟨rfl, rfl, rfl, rfl, trivial⟩ rfl ?_
  refine ok_lp_X11_isWord_10 hR  (fun u12 u13 S14 h15 => ?_) FU _ _ _  h3
  refine mr_iload (pc' := 58) dX11_isWord_56 rfl rfl ?_
  by_cases c16 : u13 ≤ (0 : Int32)
  · rw [if_pos c16] at h15
    refine mr_if_le_t (t := 78) dX11_isWord_58 (by decide) c16 ?_
    refine mr_iconst (pc' := 79) (v := (0 : Int32)) dX11_isWord_78 rfl (by decide) ?_
    obtain rfl := Option.some.inj h15
    exact mr_zreturn dX11_isWord_79 rfl (by decide)
  · rw [if_neg c16] at h15
    refine mr_if_le_f (t := 78) (pc' := 61) dX11_isWord_58 (by decide) rfl c16 ?_
    refine mr_iload (pc' := 63) dX11_isWord_61 rfl rfl ?_
    refine mr_bipush (pc' := 65) (v := (9 : Int32)) dX11_isWord_63 rfl (by decide) ?_
    by_cases c17 : (9 : Int32) ≤ u13
    · rw [if_pos c17] at h15
      refine mr_icmp_ge_t (t := 78) dX11_isWord_65 (by decide) c17 ?_
      refine mr_iconst (pc' := 79) (v := (0 : Int32)) dX11_isWord_78 rfl (by decide) ?_
      obtain rfl := Option.some.inj h15
      exact mr_zreturn dX11_isWord_79 rfl (by decide)
    · rw [if_neg c17] at h15
      refine mr_icmp_ge_f (t := 78) (pc' := 68) dX11_isWord_65 (by decide) rfl c17 ?_
      refine mr_lload_n (pc' := 69) dX11_isWord_68 rfl rfl ?_
      refine mr_lload_n (pc' := 70) dX11_isWord_69 rfl rfl ?_
      by_cases c18 : u12 = v1
      · rw [if_pos c18] at h15
        refine mr_lcmp_ne_f (t := 78) (pc' := 74) dX11_isWord_70 rfl dX11_isWord_71 (by decide) rfl (not_not_intro c18) ?_
        refine mr_iconst (pc' := 75) (v := (1 : Int32)) dX11_isWord_74 rfl (by decide) ?_
        refine mr_goto (t := 79) dX11_isWord_75 (by decide) ?_
        obtain rfl := Option.some.inj h15
        exact mr_zreturn dX11_isWord_79 rfl (by decide)
      · rw [if_neg c18] at h15
        refine mr_lcmp_ne_t (t := 78) dX11_isWord_70 rfl dX11_isWord_71 (by decide) c18 ?_
        refine mr_iconst (pc' := 79) (v := (0 : Int32)) dX11_isWord_78 rfl (by decide) ?_
        obtain rfl := Option.some.inj h15
        exact mr_zreturn dX11_isWord_79 rfl (by decide)
def f_X11_fails (v1 : Int32) (v2 : Int32) (S : fS) : Option (Int32 × fS) :=
  if (S.1 145 14) = (0 : Int32) then ((some (pI S 145 14 (((1 : Int32) + ((8 : Int32) * v2)) + v1))).bind fun S2 =>
  some ((0 : Int32), S2)) else
  (some ((0 : Int32), S))
set_option maxHeartbeats 4000000 in
set_option maxRecDepth 100000 in
theorem ok_X11_fails {X : mm_C} {RR : Nat → Nat → Option Nat} (hR : RRok RR) {v1 : Int32} {v2 : Int32}  {S : fS} {r : Int32 × fS} (h : f_X11_fails v1 v2 S = some r) : mr X 0 mY_X11_fails 0 (lv_args 0 [.ref 145, .int v1, .int v2]) [] (MM RR S) (some (.int r.1), MM RR r.2) := by
  unfold f_X11_fails at h
  show mr X _ _ 0 [(0, .ref 145), (1, .int v1), (2, .int v2)] [] (MM RR S) _
  refine mr_aload_n (pc' := 1) dX11_fails_0 rfl rfl ?_
  refine mr_getI (pc' := 4) (ci := 11) (j := 14) dX11_fails_1 rfl rfl rfl (by decide) (by decide) rfl ?_
  by_cases c1 : (S.1 145 14) = (0 : Int32)
  · rw [if_pos c1] at h
    refine mr_if_ne_f (t := 19) (pc' := 7) dX11_fails_4 (by decide) rfl (not_not_intro c1) ?_
    refine mr_aload_n (pc' := 8) dX11_fails_7 rfl rfl ?_
    refine mr_iconst (pc' := 9) (v := (1 : Int32)) dX11_fails_8 rfl (by decide) ?_
    refine mr_bipush (pc' := 11) (v := (8 : Int32)) dX11_fails_9 rfl (by decide) ?_
    refine mr_iload_n (pc' := 12) dX11_fails_11 rfl rfl ?_
    refine mr_imul (pc' := 13) dX11_fails_12 rfl ?_
    refine mr_iadd (pc' := 14) dX11_fails_13 rfl ?_
    refine mr_iload_n (pc' := 15) dX11_fails_14 rfl rfl ?_
    refine mr_iadd (pc' := 16) dX11_fails_15 rfl ?_
    obtain ⟨S2, g3, h4⟩ := Option.bind_eq_some_iff.mp h
    refine mr_putI (pc' := 19) (ci := 11) (j := 14) dX11_fails_16 rfl rfl rfl (by decide) (by decide) rfl rfl ?_
    rw [Option.some.inj g3]
    refine mr_iconst (pc' := 20) (v := (0 : Int32)) dX11_fails_19 rfl (by decide) ?_
    obtain rfl := Option.some.inj h4
    exact mr_zreturn dX11_fails_20 rfl (by decide)
  · rw [if_neg c1] at h
    refine mr_if_ne_t (t := 19) dX11_fails_4 (by decide) c1 ?_
    refine mr_iconst (pc' := 20) (v := (0 : Int32)) dX11_fails_19 rfl (by decide) ?_
    obtain rfl := Option.some.inj h
    exact mr_zreturn dX11_fails_20 rfl (by decide)
def lp_X11_passWord_0  (K : fS → Option (fS)) : Nat → fS → Option (fS)
  | 0, _ => none
  | n + 1, S0 =>
    (f_X11_isLetter (S0.1 145 13) S0).bind fun q1 =>
    if q1 = (0 : Int32) then (K S0) else
    ((some (pI S0 145 13 ((S0.1 145 13) + (1 : Int32)))).bind fun S5 =>
    lp_X11_passWord_0  K n  S5)
set_option maxHeartbeats 4000000 in
set_option maxRecDepth 100000 in
theorem ok_lp_X11_passWord_0 {X : mm_C} {RR : Nat → Nat → Option Nat} (hR : RRok RR)   {K : fS → Option (fS)} {r : fS} (hK : ∀ (Sk : fS), K Sk = some r → mr X 1 mY_X11_passWord 24 [] [] (MM RR Sk) (none, MM RR r)) : ∀ (n : Nat) (S0 : fS), lp_X11_passWord_0  K n S0 = some r → mr X 1 mY_X11_passWord 0 [(0, .ref 145)] [] (MM RR S0) (none, MM RR r) := by
  intro n
  induction n with
  | zero => intro S0 h; exact mm_no h
  | succ n ih =>
    intro S0 h
    unfold lp_X11_passWord_0 at h
    refine mr_aload_n (pc' := 1) dX11_passWord_0 rfl rfl ?_
    refine mr_aload_n (pc' := 2) dX11_passWord_1 rfl rfl ?_
    refine mr_getI (pc' := 5) (ci := 11) (j := 13) dX11_passWord_2 rfl rfl rfl (by decide) (by decide) rfl ?_
    obtain ⟨q1, g2, h3⟩ := Option.bind_eq_some_iff.mp h
    refine mr_cv (pc' := 8) (a := 145) (d1 := 0) dX11_passWord_5 rfl rfl rfl rfl rfl rfl (by decide) rfl (by decide) (ok_X11_isLetter hR  g2) ?_
    show mr X _ _ 8 _ [.int q1] (MM RR S0) _
    by_cases c4 : q1 = (0 : Int32)
    · rw [if_pos c4] at h3
      refine mr_if_eq_t (t := 24) dX11_passWord_8 (by decide) c4 ?_
      exact mr_sub [] trivial rfl (hK _  h3)
    · rw [if_neg c4] at h3
      refine mr_if_eq_f (t := 24) (pc' := 11) dX11_passWord_8 (by decide) rfl c4 ?_
      refine mr_aload_n (pc' := 12) dX11_passWord_11 rfl rfl ?_
      refine mr_dup_ref (pc' := 13) dX11_passWord_12 rfl ?_
      refine mr_getI (pc' := 16) (ci := 11) (j := 13) dX11_passWord_13 rfl rfl rfl (by decide) (by decide) rfl ?_
      refine mr_iconst (pc' := 17) (v := (1 : Int32)) dX11_passWord_16 rfl (by decide) ?_
      refine mr_iadd (pc' := 18) dX11_passWord_17 rfl ?_
      obtain ⟨S5, g6, h7⟩ := Option.bind_eq_some_iff.mp h3
      refine mr_putI (pc' := 21) (ci := 11) (j := 13) dX11_passWord_18 rfl rfl rfl (by decide) (by decide) rfl rfl ?_
      rw [Option.some.inj g6]
      refine mr_goto (t := 0) dX11_passWord_21 (by decide) ?_
      exact mr_sub [(0, .ref 145)] ⟨rfl, trivial⟩ rfl (ih _  h7)
def f_X11_passWord  (S : fS) : Option (fS) :=
  lp_X11_passWord_0  (fun S8 => some S8) FU  S
set_option maxHeartbeats 4000000 in
set_option maxRecDepth 100000 in
theorem ok_X11_passWord {X : mm_C} {RR : Nat → Nat → Option Nat} (hR : RRok RR)   {S : fS} {r : fS} (h : f_X11_passWord  S = some r) : mr X 1 mY_X11_passWord 0 (lv_args 0 [.ref 145]) [] (MM RR S) (none, MM RR r) := by
  unfold f_X11_passWord at h
  show mr X _ _ 0 [(0, .ref 145)] [] (MM RR S) _
  refine mr_sub [(0, .ref 145)] ⟨rfl, trivial⟩ rfl ?_
  refine ok_lp_X11_passWord_0 hR  (fun S8 h9 => ?_) FU _  h
  obtain rfl := Option.some.inj h9
  exact mr_return dX11_passWord_24 rfl
def f_X11_isDigit (v1 : Int32) (S : fS) : Option (Int32) :=
  if (S.1 145 1) ≤ v1 then (some (0 : Int32)) else
  ((gI S 146 400 v1).bind fun a2 =>
  if a2 < (48 : Int32) then (some (0 : Int32)) else
  ((gI S 146 400 v1).bind fun a6 =>
  if (57 : Int32) < a6 then (some (0 : Int32)) else
  (some (1 : Int32))))
set_option maxHeartbeats 4000000 in
set_option maxRecDepth 100000 in
theorem ok_X11_isDigit {X : mm_C} {RR : Nat → Nat → Option Nat} (hR : RRok RR) {v1 : Int32}  {S : fS} {r : Int32} (h : f_X11_isDigit v1 S = some r) : mr X 0 mY_X11_isDigit 0 (lv_args 0 [.ref 145, .int v1]) [] (MM RR S) (some (.int r), MM RR S) := by
  unfold f_X11_isDigit at h
  show mr X _ _ 0 [(0, .ref 145), (1, .int v1)] [] (MM RR S) _
  refine mr_iload_n (pc' := 1) dX11_isDigit_0 rfl rfl ?_
  refine mr_aload_n (pc' := 2) dX11_isDigit_1 rfl rfl ?_
  refine mr_getI (pc' := 5) (ci := 11) (j := 1) dX11_isDigit_2 rfl rfl rfl (by decide) (by decide) rfl ?_
  by_cases c1 : (S.1 145 1) ≤ v1
  · rw [if_pos c1] at h
    refine mr_icmp_ge_t (t := 34) dX11_isDigit_5 (by decide) c1 ?_
    refine mr_iconst (pc' := 35) (v := (0 : Int32)) dX11_isDigit_34 rfl (by decide) ?_
    obtain rfl := Option.some.inj h
    exact mr_zreturn dX11_isDigit_35 rfl (by decide)
  · rw [if_neg c1] at h
    refine mr_icmp_ge_f (t := 34) (pc' := 8) dX11_isDigit_5 (by decide) rfl c1 ?_
    refine mr_aload_n (pc' := 9) dX11_isDigit_8 rfl rfl ?_
    refine mr_getR (pc' := 12) (ci := 11) (j := 0) (b := 146) hR dX11_isDigit_9 rfl rfl rfl (by decide) (by decide) (by decide) rfl rfl ?_
    refine mr_iload_n (pc' := 13) dX11_isDigit_12 rfl rfl ?_
    obtain ⟨a2, g3, h4⟩ := Option.bind_eq_some_iff.mp h
    refine mr_bald (pc' := 14) dX11_isDigit_13 rfl (Or.inl rfl) rfl g3 ?_
    refine mr_bipush (pc' := 16) (v := (48 : Int32)) dX11_isDigit_14 rfl (by decide) ?_
    by_cases c5 : a2 < (48 : Int32)
    · rw [if_pos c5] at h4
      refine mr_icmp_lt_t (t := 34) dX11_isDigit_16 (by decide) c5 ?_
      refine mr_iconst (pc' := 35) (v := (0 : Int32)) dX11_isDigit_34 rfl (by decide) ?_
      obtain rfl := Option.some.inj h4
      exact mr_zreturn dX11_isDigit_35 rfl (by decide)
    · rw [if_neg c5] at h4
      refine mr_icmp_lt_f (t := 34) (pc' := 19) dX11_isDigit_16 (by decide) rfl c5 ?_
      refine mr_aload_n (pc' := 20) dX11_isDigit_19 rfl rfl ?_
      refine mr_getR (pc' := 23) (ci := 11) (j := 0) (b := 146) hR dX11_isDigit_20 rfl rfl rfl (by decide) (by decide) (by decide) rfl rfl ?_
      refine mr_iload_n (pc' := 24) dX11_isDigit_23 rfl rfl ?_
      obtain ⟨a6, g7, h8⟩ := Option.bind_eq_some_iff.mp h4
      refine mr_bald (pc' := 25) dX11_isDigit_24 rfl (Or.inl rfl) rfl g7 ?_
      refine mr_bipush (pc' := 27) (v := (57 : Int32)) dX11_isDigit_25 rfl (by decide) ?_
      by_cases c9 : (57 : Int32) < a6
      · rw [if_pos c9] at h8
        refine mr_icmp_gt_t (t := 34) dX11_isDigit_27 (by decide) c9 ?_
        refine mr_iconst (pc' := 35) (v := (0 : Int32)) dX11_isDigit_34 rfl (by decide) ?_
        obtain rfl := Option.some.inj h8
        exact mr_zreturn dX11_isDigit_35 rfl (by decide)
      · rw [if_neg c9] at h8
        refine mr_icmp_gt_f (t := 34) (pc' := 30) dX11_isDigit_27 (by decide) rfl c9 ?_
        refine mr_iconst (pc' := 31) (v := (1 : Int32)) dX11_isDigit_30 rfl (by decide) ?_
        refine mr_goto (t := 35) dX11_isDigit_31 (by decide) ?_
        obtain rfl := Option.some.inj h8
        exact mr_zreturn dX11_isDigit_35 rfl (by decide)
def f_X11_in (v0 : Int64) (v2 : Int64) (v4 : Int64) (S : fS) : Option (Int32) :=
  if v0 < v2 then (some (0 : Int32)) else
  (if v4 < v0 then (some (0 : Int32)) else
  (some (1 : Int32)))
set_option maxHeartbeats 4000000 in
set_option maxRecDepth 100000 in
theorem ok_X11_in {X : mm_C} {RR : Nat → Nat → Option Nat} (hR : RRok RR) {v0 : Int64} {v2 : Int64} {v4 : Int64}  {S : fS} {r : Int32} (h : f_X11_in v0 v2 v4 S = some r) : mr X 0 mY_X11_in 0 (lv_args 0 [.long v0, .long v2, .long v4]) [] (MM RR S) (some (.int r), MM RR S) := by
  unfold f_X11_in at h
  show mr X _ _ 0 [(0, .long v0), (2, .long v2), (4, .long v4)] [] (MM RR S) _
  refine mr_lload_n (pc' := 1) dX11_in_0 rfl rfl ?_
  refine mr_lload_n (pc' := 2) dX11_in_1 rfl rfl ?_
  by_cases c1 : v0 < v2
  · rw [if_pos c1] at h
    refine mr_lcmp_lt_t (t := 17) dX11_in_2 rfl dX11_in_3 (by decide) c1 ?_
    refine mr_iconst (pc' := 18) (v := (0 : Int32)) dX11_in_17 rfl (by decide) ?_
    obtain rfl := Option.some.inj h
    exact mr_zreturn dX11_in_18 rfl (by decide)
  · rw [if_neg c1] at h
    refine mr_lcmp_lt_f (t := 17) (pc' := 6) dX11_in_2 rfl dX11_in_3 (by decide) rfl c1 ?_
    refine mr_lload_n (pc' := 7) dX11_in_6 rfl rfl ?_
    refine mr_lload (pc' := 9) dX11_in_7 rfl rfl ?_
    by_cases c2 : v4 < v0
    · rw [if_pos c2] at h
      refine mr_lcmp_gt_t (t := 17) dX11_in_9 rfl dX11_in_10 (by decide) c2 ?_
      refine mr_iconst (pc' := 18) (v := (0 : Int32)) dX11_in_17 rfl (by decide) ?_
      obtain rfl := Option.some.inj h
      exact mr_zreturn dX11_in_18 rfl (by decide)
    · rw [if_neg c2] at h
      refine mr_lcmp_gt_f (t := 17) (pc' := 13) dX11_in_9 rfl dX11_in_10 (by decide) rfl c2 ?_
      refine mr_iconst (pc' := 14) (v := (1 : Int32)) dX11_in_13 rfl (by decide) ?_
      refine mr_goto (t := 18) dX11_in_14 (by decide) ?_
      obtain rfl := Option.some.inj h
      exact mr_zreturn dX11_in_18 rfl (by decide)
def lp_X11_numberHere_34 (p1 : Int32) (p2 : Int32) (p3 : Int32) (K : Int32 → fS → Option (Int32 × fS)) : Nat → Int32 → fS → Option (Int32 × fS)
  | 0, _, _ => none
  | n + 1, p4, S0 =>
    (f_X11_isDigit (S0.1 145 13) S0).bind fun q8 =>
    if q8 = (0 : Int32) then (K p4 S0) else
    (if (5 : Int32) ≤ ((S0.1 145 13) - p3) then ((some (pI S0 145 13 ((S0.1 145 13) + (1 : Int32)))).bind fun S13 =>
    lp_X11_numberHere_34 p1 p2 p3 K n p4 S13) else
    ((gI S0 146 400 (S0.1 145 13)).bind fun a16 =>
    (some (pI S0 145 13 ((S0.1 145 13) + (1 : Int32)))).bind fun S19 =>
    lp_X11_numberHere_34 p1 p2 p3 K n ((((10 : Int32) * p4) + a16) - (48 : Int32)) S19))
set_option maxHeartbeats 4000000 in
set_option maxRecDepth 100000 in
theorem ok_lp_X11_numberHere_34 {X : mm_C} {RR : Nat → Nat → Option Nat} (hR : RRok RR) {p1 : Int32} {p2 : Int32} {p3 : Int32}  {K : Int32 → fS → Option (Int32 × fS)} {r : Int32 × fS} (hK : ∀ (k4 : Int32) (Sk : fS), K k4 Sk = some r → mr X 1 mY_X11_numberHere 88 [(0, .ref 145), (1, .int p1), (2, .int p2), (3, .int p3), (4, .int k4)] [] (MM RR Sk) (some (.int r.1), MM RR r.2)) : ∀ (n : Nat) (p4 : Int32) (S0 : fS), lp_X11_numberHere_34 p1 p2 p3 K n p4 S0 = some r → mr X 1 mY_X11_numberHere 34 [(0, .ref 145), (1, .int p1), (2, .int p2), (3, .int p3), (4, .int p4)] [] (MM RR S0) (some (.int r.1), MM RR r.2) := by
  intro n
  induction n with
  | zero => intro p4 S0 h; exact mm_no h
  | succ n ih =>
    intro p4 S0 h
    unfold lp_X11_numberHere_34 at h
    refine mr_aload_n (pc' := 35) dX11_numberHere_34 rfl rfl ?_
    refine mr_aload_n (pc' := 36) dX11_numberHere_35 rfl rfl ?_
    refine mr_getI (pc' := 39) (ci := 11) (j := 13) dX11_numberHere_36 rfl rfl rfl (by decide) (by decide) rfl ?_
    obtain ⟨q8, g9, h10⟩ := Option.bind_eq_some_iff.mp h
    refine mr_cv (pc' := 42) (a := 145) (d1 := 0) dX11_numberHere_39 rfl rfl rfl rfl rfl rfl (by decide) rfl (by decide) (ok_X11_isDigit hR  g9) ?_
    show mr X _ _ 42 _ [.int q8] (MM RR S0) _
    by_cases c11 : q8 = (0 : Int32)
    · rw [if_pos c11] at h10
      refine mr_if_eq_t (t := 88) dX11_numberHere_42 (by decide) c11 ?_
      exact mr_sub [(0, .ref 145), (1, .int p1), (2, .int p2), (3, .int p3), (4, .int p4)] ⟨rfl, rfl, rfl, rfl, rfl, trivial⟩ rfl (hK _ _  h10)
    · rw [if_neg c11] at h10
      refine mr_if_eq_f (t := 88) (pc' := 45) dX11_numberHere_42 (by decide) rfl c11 ?_
      refine mr_aload_n (pc' := 46) dX11_numberHere_45 rfl rfl ?_
      refine mr_getI (pc' := 49) (ci := 11) (j := 13) dX11_numberHere_46 rfl rfl rfl (by decide) (by decide) rfl ?_
      refine mr_iload_n (pc' := 50) dX11_numberHere_49 rfl rfl ?_
      refine mr_isub (pc' := 51) dX11_numberHere_50 rfl ?_
      refine mr_iconst (pc' := 52) (v := (5 : Int32)) dX11_numberHere_51 rfl (by decide) ?_
      by_cases c12 : (5 : Int32) ≤ ((S0.1 145 13) - p3)
      · rw [if_pos c12] at h10
        refine mr_icmp_ge_t (t := 75) dX11_numberHere_52 (by decide) c12 ?_
        refine mr_aload_n (pc' := 76) dX11_numberHere_75 rfl rfl ?_
        refine mr_dup_ref (pc' := 77) dX11_numberHere_76 rfl ?_
        refine mr_getI (pc' := 80) (ci := 11) (j := 13) dX11_numberHere_77 rfl rfl rfl (by decide) (by decide) rfl ?_
        refine mr_iconst (pc' := 81) (v := (1 : Int32)) dX11_numberHere_80 rfl (by decide) ?_
        refine mr_iadd (pc' := 82) dX11_numberHere_81 rfl ?_
        obtain ⟨S13, g14, h15⟩ := Option.bind_eq_some_iff.mp h10
        refine mr_putI (pc' := 85) (ci := 11) (j := 13) dX11_numberHere_82 rfl rfl rfl (by decide) (by decide) rfl rfl ?_
        rw [Option.some.inj g14]
        refine mr_goto (t := 34) dX11_numberHere_85 (by decide) ?_
        exact mr_sub [(0, .ref 145), (1, .int p1), (2, .int p2), (3, .int p3), (4, .int p4)] ⟨rfl, rfl, rfl, rfl, rfl, trivial⟩ rfl (ih _ _  h15)
      · rw [if_neg c12] at h10
        refine mr_icmp_ge_f (t := 75) (pc' := 55) dX11_numberHere_52 (by decide) rfl c12 ?_
        refine mr_bipush (pc' := 57) (v := (10 : Int32)) dX11_numberHere_55 rfl (by decide) ?_
        refine mr_iload (pc' := 59) dX11_numberHere_57 rfl rfl ?_
        refine mr_imul (pc' := 60) dX11_numberHere_59 rfl ?_
        refine mr_aload_n (pc' := 61) dX11_numberHere_60 rfl rfl ?_
        refine mr_getR (pc' := 64) (ci := 11) (j := 0) (b := 146) hR dX11_numberHere_61 rfl rfl rfl (by decide) (by decide) (by decide) rfl rfl ?_
        refine mr_aload_n (pc' := 65) dX11_numberHere_64 rfl rfl ?_
        refine mr_getI (pc' := 68) (ci := 11) (j := 13) dX11_numberHere_65 rfl rfl rfl (by decide) (by decide) rfl ?_
        obtain ⟨a16, g17, h18⟩ := Option.bind_eq_some_iff.mp h10
        refine mr_bald (pc' := 69) dX11_numberHere_68 rfl (Or.inl rfl) rfl g17 ?_
        refine mr_iadd (pc' := 70) dX11_numberHere_69 rfl ?_
        refine mr_bipush (pc' := 72) (v := (48 : Int32)) dX11_numberHere_70 rfl (by decide) ?_
        refine mr_isub (pc' := 73) dX11_numberHere_72 rfl ?_
        refine mr_istore (pc' := 75) (lv' := [(4, .int ((((10 : Int32) * p4) + a16) - (48 : Int32))), (0, .ref 145), (1, .int p1), (2, .int p2), (3, .int p3)]) dX11_numberHere_73 rfl (by decide) rfl ?_
        refine mr_aload_n (pc' := 76) dX11_numberHere_75 rfl rfl ?_
        refine mr_dup_ref (pc' := 77) dX11_numberHere_76 rfl ?_
        refine mr_getI (pc' := 80) (ci := 11) (j := 13) dX11_numberHere_77 rfl rfl rfl (by decide) (by decide) rfl ?_
        refine mr_iconst (pc' := 81) (v := (1 : Int32)) dX11_numberHere_80 rfl (by decide) ?_
        refine mr_iadd (pc' := 82) dX11_numberHere_81 rfl ?_
        obtain ⟨S19, g20, h21⟩ := Option.bind_eq_some_iff.mp h18
        refine mr_putI (pc' := 85) (ci := 11) (j := 13) dX11_numberHere_82 rfl rfl rfl (by decide) (by decide) rfl rfl ?_
        rw [Option.some.inj g20]
        refine mr_goto (t := 34) dX11_numberHere_85 (by decide) ?_
        exact mr_sub [(0, .ref 145), (1, .int p1), (2, .int p2), (3, .int p3), (4, .int ((((10 : Int32) * p4) + a16) - (48 : Int32)))] ⟨rfl, rfl, rfl, rfl, rfl, trivial⟩ rfl (ih _ _  h21)
def f_X11_numberHere (v1 : Int32) (v2 : Int32) (S : fS) : Option (Int32 × fS) :=
  (f_X11_see  S).bind fun q1 =>
  (f_X11_isDigit (q1.2.1 145 13) q1.2).bind fun q4 =>
  if q4 = (0 : Int32) then ((f_X11_fails (0 : Int32) (q1.2.1 145 13) q1.2).bind fun q41 =>
  (bZ q41.1).bind fun z44 => some (z44, q41.2)) else
  (lp_X11_numberHere_34 v1 v2 (q1.2.1 145 13) (fun u22 S23 => (some (pI S23 145 15 u22)).bind fun S25 =>
  if (5 : Int32) < ((S25.1 145 13) - (q1.2.1 145 13)) then ((f_X11_fails (1 : Int32) (q1.2.1 145 13) S25).bind fun q29 =>
  if q29.1 = (0 : Int32) then (some ((0 : Int32), q29.2)) else
  (some ((1 : Int32), q29.2))) else
  ((f_X11_in (Int32.toInt64 u22) (Int32.toInt64 v1) (Int32.toInt64 v2) S25).bind fun q33 =>
  if q33 = (0 : Int32) then ((f_X11_fails (1 : Int32) (q1.2.1 145 13) S25).bind fun q37 =>
  if q37.1 = (0 : Int32) then (some ((0 : Int32), q37.2)) else
  (some ((1 : Int32), q37.2))) else
  (some ((1 : Int32), S25)))) FU (0 : Int32) q1.2)
set_option maxHeartbeats 4000000 in
set_option maxRecDepth 100000 in
theorem ok_X11_numberHere {X : mm_C} {RR : Nat → Nat → Option Nat} (hR : RRok RR) {v1 : Int32} {v2 : Int32}  {S : fS} {r : Int32 × fS} (h : f_X11_numberHere v1 v2 S = some r) : mr X 1 mY_X11_numberHere 0 (lv_args 0 [.ref 145, .int v1, .int v2]) [] (MM RR S) (some (.int r.1), MM RR r.2) := by
  unfold f_X11_numberHere at h
  show mr X _ _ 0 [(0, .ref 145), (1, .int v1), (2, .int v2)] [] (MM RR S) _
  refine mr_aload_n (pc' := 1) dX11_numberHere_0 rfl rfl ?_
  obtain ⟨q1, g2, h3⟩ := Option.bind_eq_some_iff.mp h
  refine mr_cv (pc' := 4) (a := 145) (d1 := 0) dX11_numberHere_1 rfl rfl rfl rfl rfl rfl (by decide) rfl (by decide) (ok_X11_see hR  g2) ?_
  show mr X _ _ 4 _ [.int q1.1] (MM RR q1.2) _
  refine mr_pop_int (pc' := 5) dX11_numberHere_4 rfl ?_
  refine mr_aload_n (pc' := 6) dX11_numberHere_5 rfl rfl ?_
  refine mr_aload_n (pc' := 7) dX11_numberHere_6 rfl rfl ?_
  refine mr_getI (pc' := 10) (ci := 11) (j := 13) dX11_numberHere_7 rfl rfl rfl (by decide) (by decide) rfl ?_
  obtain ⟨q4, g5, h6⟩ := Option.bind_eq_some_iff.mp h3
  refine mr_cv (pc' := 13) (a := 145) (d1 := 0) dX11_numberHere_10 rfl rfl rfl rfl rfl rfl (by decide) rfl (by decide) (ok_X11_isDigit hR  g5) ?_
  show mr X _ _ 13 _ [.int q4] (MM RR q1.2) _
  by_cases c7 : q4 = (0 : Int32)
  · rw [if_pos c7] at h6
    refine mr_if_ne_f (t := 26) (pc' := 16) dX11_numberHere_13 (by decide) rfl (not_not_intro c7) ?_
    refine mr_aload_n (pc' := 17) dX11_numberHere_16 rfl rfl ?_
    refine mr_iconst (pc' := 18) (v := (0 : Int32)) dX11_numberHere_17 rfl (by decide) ?_
    refine mr_aload_n (pc' := 19) dX11_numberHere_18 rfl rfl ?_
    refine mr_getI (pc' := 22) (ci := 11) (j := 13) dX11_numberHere_19 rfl rfl rfl (by decide) (by decide) rfl ?_
    obtain ⟨q41, g42, h43⟩ := Option.bind_eq_some_iff.mp h6
    refine mr_cv (pc' := 25) (a := 145) (d1 := 0) dX11_numberHere_22 rfl rfl rfl rfl rfl rfl (by decide) rfl (by decide) (ok_X11_fails hR  g42) ?_
    show mr X _ _ 25 _ [.int q41.1] (MM RR q41.2) _
    obtain ⟨z44, g45, h46⟩ := Option.bind_eq_some_iff.mp h43
    obtain ⟨g47, e48⟩ := mm_ifs g45
    cases e48
    cases h46
    exact mr_zreturn dX11_numberHere_25 rfl g47
  · rw [if_neg c7] at h6
    refine mr_if_ne_t (t := 26) dX11_numberHere_13 (by decide) c7 ?_
    refine mr_aload_n (pc' := 27) dX11_numberHere_26 rfl rfl ?_
    refine mr_getI (pc' := 30) (ci := 11) (j := 13) dX11_numberHere_27 rfl rfl rfl (by decide) (by decide) rfl ?_
    refine mr_istore_n (pc' := 31) (lv' := [(3, .int (q1.2.1 145 13)), (0, .ref 145), (1, .int v1), (2, .int v2)]) dX11_numberHere_30 rfl (by decide) rfl ?_
    refine mr_iconst (pc' := 32) (v := (0 : Int32)) dX11_numberHere_31 rfl (by decide) ?_
    refine mr_istore (pc' := 34) (lv' := [(4, .int (0 : Int32)), (3, .int (q1.2.1 145 13)), (0, .ref 145), (1, .int v1), (2, .int v2)]) dX11_numberHere_32 rfl (by decide) rfl ?_
    refine mr_sub [(0, .ref 145), (1, .int v1), (2, .int v2), (3, .int (q1.2.1 145 13)), (4, .int (0 : Int32))] ⟨rfl, rfl, rfl, rfl, rfl, trivial⟩ rfl ?_
    refine ok_lp_X11_numberHere_34 hR  (fun u22 S23 h24 => ?_) FU _ _  h6
    refine mr_aload_n (pc' := 89) dX11_numberHere_88 rfl rfl ?_
    refine mr_iload (pc' := 91) dX11_numberHere_89 rfl rfl ?_
    obtain ⟨S25, g26, h27⟩ := Option.bind_eq_some_iff.mp h24
    refine mr_putI (pc' := 94) (ci := 11) (j := 15) dX11_numberHere_91 rfl rfl rfl (by decide) (by decide) rfl rfl ?_
    rw [Option.some.inj g26]
    refine mr_aload_n (pc' := 95) dX11_numberHere_94 rfl rfl ?_
    refine mr_getI (pc' := 98) (ci := 11) (j := 13) dX11_numberHere_95 rfl rfl rfl (by decide) (by decide) rfl ?_
    refine mr_iload_n (pc' := 99) dX11_numberHere_98 rfl rfl ?_
    refine mr_isub (pc' := 100) dX11_numberHere_99 rfl ?_
    refine mr_iconst (pc' := 101) (v := (5 : Int32)) dX11_numberHere_100 rfl (by decide) ?_
    by_cases c28 : (5 : Int32) < ((S25.1 145 13) - (q1.2.1 145 13))
    · rw [if_pos c28] at h27
      refine mr_icmp_gt_t (t := 117) dX11_numberHere_101 (by decide) c28 ?_
      refine mr_aload_n (pc' := 118) dX11_numberHere_117 rfl rfl ?_
      refine mr_iconst (pc' := 119) (v := (1 : Int32)) dX11_numberHere_118 rfl (by decide) ?_
      refine mr_iload_n (pc' := 120) dX11_numberHere_119 rfl rfl ?_
      obtain ⟨q29, g30, h31⟩ := Option.bind_eq_some_iff.mp h27
      refine mr_cv (pc' := 123) (a := 145) (d1 := 0) dX11_numberHere_120 rfl rfl rfl rfl rfl rfl (by decide) rfl (by decide) (ok_X11_fails hR  g30) ?_
      show mr X _ _ 123 _ [.int q29.1] (MM RR q29.2) _
      by_cases c32 : q29.1 = (0 : Int32)
      · rw [if_pos c32] at h31
        refine mr_if_eq_t (t := 130) dX11_numberHere_123 (by decide) c32 ?_
        refine mr_iconst (pc' := 131) (v := (0 : Int32)) dX11_numberHere_130 rfl (by decide) ?_
        obtain rfl := Option.some.inj h31
        exact mr_zreturn dX11_numberHere_131 rfl (by decide)
      · rw [if_neg c32] at h31
        refine mr_if_eq_f (t := 130) (pc' := 126) dX11_numberHere_123 (by decide) rfl c32 ?_
        refine mr_iconst (pc' := 127) (v := (1 : Int32)) dX11_numberHere_126 rfl (by decide) ?_
        refine mr_goto (t := 131) dX11_numberHere_127 (by decide) ?_
        obtain rfl := Option.some.inj h31
        exact mr_zreturn dX11_numberHere_131 rfl (by decide)
    · rw [if_neg c28] at h27
      refine mr_icmp_gt_f (t := 117) (pc' := 104) dX11_numberHere_101 (by decide) rfl c28 ?_
      refine mr_iload (pc' := 106) dX11_numberHere_104 rfl rfl ?_
      refine mr_i2l (pc' := 107) dX11_numberHere_106 rfl ?_
      refine mr_iload_n (pc' := 108) dX11_numberHere_107 rfl rfl ?_
      refine mr_i2l (pc' := 109) dX11_numberHere_108 rfl ?_
      refine mr_iload_n (pc' := 110) dX11_numberHere_109 rfl rfl ?_
      refine mr_i2l (pc' := 111) dX11_numberHere_110 rfl ?_
      obtain ⟨q33, g34, h35⟩ := Option.bind_eq_some_iff.mp h27
      refine mr_cs (pc' := 114) (d1 := 0) dX11_numberHere_111 rfl rfl rfl rfl (by decide) (Nat.le_of_ble_eq_true rfl) rfl rfl rfl (by decide) (ok_X11_in hR  g34) ?_
      show mr X _ _ 114 _ [.int q33] (MM RR S25) _
      by_cases c36 : q33 = (0 : Int32)
      · rw [if_pos c36] at h35
        refine mr_if_ne_f (t := 126) (pc' := 117) dX11_numberHere_114 (by decide) rfl (not_not_intro c36) ?_
        refine mr_aload_n (pc' := 118) dX11_numberHere_117 rfl rfl ?_
        refine mr_iconst (pc' := 119) (v := (1 : Int32)) dX11_numberHere_118 rfl (by decide) ?_
        refine mr_iload_n (pc' := 120) dX11_numberHere_119 rfl rfl ?_
        obtain ⟨q37, g38, h39⟩ := Option.bind_eq_some_iff.mp h35
        refine mr_cv (pc' := 123) (a := 145) (d1 := 0) dX11_numberHere_120 rfl rfl rfl rfl rfl rfl (by decide) rfl (by decide) (ok_X11_fails hR  g38) ?_
        show mr X _ _ 123 _ [.int q37.1] (MM RR q37.2) _
        by_cases c40 : q37.1 = (0 : Int32)
        · rw [if_pos c40] at h39
          refine mr_if_eq_t (t := 130) dX11_numberHere_123 (by decide) c40 ?_
          refine mr_iconst (pc' := 131) (v := (0 : Int32)) dX11_numberHere_130 rfl (by decide) ?_
          obtain rfl := Option.some.inj h39
          exact mr_zreturn dX11_numberHere_131 rfl (by decide)
        · rw [if_neg c40] at h39
          refine mr_if_eq_f (t := 130) (pc' := 126) dX11_numberHere_123 (by decide) rfl c40 ?_
          refine mr_iconst (pc' := 127) (v := (1 : Int32)) dX11_numberHere_126 rfl (by decide) ?_
          refine mr_goto (t := 131) dX11_numberHere_127 (by decide) ?_
          obtain rfl := Option.some.inj h39
          exact mr_zreturn dX11_numberHere_131 rfl (by decide)
      · rw [if_neg c36] at h35
        refine mr_if_ne_t (t := 126) dX11_numberHere_114 (by decide) c36 ?_
        refine mr_iconst (pc' := 127) (v := (1 : Int32)) dX11_numberHere_126 rfl (by decide) ?_
        refine mr_goto (t := 131) dX11_numberHere_127 (by decide) ?_
        obtain rfl := Option.some.inj h35
        exact mr_zreturn dX11_numberHere_131 rfl (by decide)
