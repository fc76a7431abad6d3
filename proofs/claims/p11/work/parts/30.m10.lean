section
/-! ahead(), elder(): the answers -/
def acb (C : Cw) (k : Nat) : Bool := decide (¬ C.2.2.1 k < 0 ∧ ¬ stn C.2.2.1 (C.2.2.1 k) C.1 ≤ 1)
section AC
variable {S : fS} {c : Nat} {C : Cw}
theorem c_acc (hC : cwC S c C) (h8 : C.1 ≤ 8) : f_X0_accompanied c S = some (o3 (cfn (acb C) C.1)) := by
  have key : ∀ d k nn, k + d = C.1 → d < nn → lp_X0_accompanied_4 c S (fun u13 => some u13) nn (o3 (cfn (acb C) k)) (o3 k) = some (o3 (cfn (acb C) C.1)) := by
    intro d
    induction d with
    | zero =>
      intro k nn hk hnn
      obtain ⟨nn, rfl⟩ : ∃ z, nn = z + 1 := ⟨nn - 1, by omega⟩
      rw [lp_X0_accompanied_4.eq_2, hC.1, if_pos ((o3_le (by omega) (by omega)).mpr (by omega)), show k = C.1 by omega]
    | succ d ih =>
      intro k nn hk hnn
      obtain ⟨nn, rfl⟩ : ∃ z, nn = z + 1 := ⟨nn - 1, by omega⟩
      have hs : cfn (acb C) (k + 1) = cfn (acb C) k + (if acb C k = true then 1 else 0) := rfl
      have hz : o3 (cfn (acb C) k) + (0 : Int32) = o3 (cfn (acb C) k) := Int32.add_zero _
      have hst := stn_le (p := C.2.2.1) (f := C.2.2.1 k) C.1
      rw [lp_X0_accompanied_4.eq_2, hC.1, if_neg (fun q => by have := (o3_le (by omega) (by omega)).mp q; omega), hz, o3_s, o3_s]
      unfold f_X0_isStanding
      rw [gI_o (by omega) (by omega), bd_some, (hC.2.2 k (by omega)).1]
      by_cases h0 : C.2.2.1 k < 0
      · rw [if_pos h0, bd_some, if_pos rfl]
        rw [if_neg (by unfold acb; rw [decide_eq_true_eq]; exact fun z => z.1 h0)] at hs
        replace hs := hs.trans (Nat.add_zero _)
        rw [← hs]
        exact ih (k + 1) nn (by omega) (by omega)
      · rw [if_neg h0, bd_some, if_neg (show ¬ (1 : Int32) = 0 by decide), bd_some, cw_standing hC h8, bd_some]
        by_cases h1 : stn C.2.2.1 (C.2.2.1 k) C.1 ≤ 1
        · rw [if_pos (show o3 _ ≤ (1 : Int32) from (o3_le (b := 1) (by omega) (by omega)).mpr h1)]
          rw [if_neg (by unfold acb; rw [decide_eq_true_eq]; exact fun z => z.2 h1)] at hs
          replace hs := hs.trans (Nat.add_zero _)
          rw [← hs]
          exact ih (k + 1) nn (by omega) (by omega)
        · rw [if_neg (show ¬ o3 _ ≤ (1 : Int32) from fun z => h1 ((o3_le (b := 1) (by omega) (by omega)).mp z))]
          rw [if_pos (by unfold acb; rw [decide_eq_true_eq]; exact ⟨h0, h1⟩)] at hs
          rw [← hs]
          exact ih (k + 1) nn (by omega) (by omega)
  exact key C.1 0 FU (by omega) (FU_lt (by omega))
theorem m_acc (hC : cwM (S.1 157) (S.2 158) C) (h8 : C.1 ≤ 8) {K : Int64 → fS → Option (Int64 × fS)} : lp_X11_ahead_81 K FU (0 : Int64) (0 : Int32) S = K (o6 (cfn (acb C) C.1)) S := by
  have key : ∀ d k nn, k + d = C.1 → d < nn → lp_X11_ahead_81 K nn (o6 (cfn (acb C) k)) (o3 k) S = K (o6 (cfn (acb C) C.1)) S := by
    intro d
    induction d with
    | zero =>
      intro k nn hk hnn
      obtain ⟨nn, rfl⟩ : ∃ z, nn = z + 1 := ⟨nn - 1, by omega⟩
      rw [lp_X11_ahead_81.eq_2, show (2 : Int32) = o3 2 from rfl, gI_o (by omega) (by omega), bd_some, hC.1, if_pos ((o3_le (by omega) (by omega)).mpr (by omega)), show k = C.1 by omega]
    | succ d ih =>
      intro k nn hk hnn
      obtain ⟨nn, rfl⟩ : ∃ z, nn = z + 1 := ⟨nn - 1, by omega⟩
      have hs : cfn (acb C) (k + 1) = cfn (acb C) k + (if acb C k = true then 1 else 0) := rfl
      have hz : o6 (cfn (acb C) k) + (0 : Int64) = o6 (cfn (acb C) k) := Int64.add_zero _
      have hst := stn_le (p := C.2.2.1) (f := C.2.2.1 k) C.1
      have hth : f_X11_thingOf (o3 k) 0 S = some (C.2.2.1 k) := (mw_thing (a := 0) (by omega) (by omega)).trans (congrArg some (hC.2.2 k (by omega)).1)
      rw [lp_X11_ahead_81.eq_2, show (2 : Int32) = o3 2 from rfl, gI_o (by omega) (by omega), bd_some, hC.1, if_neg (fun q => by have := (o3_le (by omega) (by omega)).mp q; omega), hth, bd_some, hz, o3_s, show (1 : Int64) = o6 1 from rfl, o6_add]
      by_cases h0 : C.2.2.1 k < 0
      · rw [if_pos h0]
        rw [if_neg (by unfold acb; rw [decide_eq_true_eq]; exact fun z => z.1 h0)] at hs
        replace hs := hs.trans (Nat.add_zero _)
        rw [← hs]
        exact ih (k + 1) nn (by omega) (by omega)
      · rw [if_neg h0, bd_some, mw_standing hC h8, bd_some]
        by_cases h1 : stn C.2.2.1 (C.2.2.1 k) C.1 ≤ 1
        · rw [if_pos (show o3 _ ≤ (1 : Int32) from (o3_le (b := 1) (by omega) (by omega)).mpr h1)]
          rw [if_neg (by unfold acb; rw [decide_eq_true_eq]; exact fun z => z.2 h1)] at hs
          replace hs := hs.trans (Nat.add_zero _)
          rw [← hs]
          exact ih (k + 1) nn (by omega) (by omega)
        · rw [if_neg (show ¬ o3 _ ≤ (1 : Int32) from fun z => h1 ((o3_le (b := 1) (by omega) (by omega)).mp z))]
          rw [if_pos (by unfold acb; rw [decide_eq_true_eq]; exact ⟨h0, h1⟩)] at hs
          rw [← hs]
          exact ih (k + 1) nn (by omega) (by omega)
  exact key C.1 0 FU (by omega) (FU_lt (by omega))
end AC
theorem t_11 (a1 a2 a3 a4 : Int32) (S : fS) (hR : Rel S) : ∃ r S1 S2, f_X10_ahead a1 a2 a3 a4 S = some (r, S1) ∧ f_X11_ahead a1 a2 a3 a4 S1 = some (r, S2) ∧ Rel S2 := by
  have hR0 := hR
  obtain ⟨n, s, L, M, hT, hS, hL, hM⟩ := hR
  have hS0 := hS
  have hL0 := hL
  obtain ⟨⟨n1, n2, n3, n4, n5, n6⟩, ⟨b1, b2, b3, b4, b5⟩, ⟨m1, m2, m3, m4⟩, d⟩ := hS
  obtain ⟨l1, l2, l3, l4⟩ := hL
  have h8 := n5.1
  have i1 : f_X10_isFrom a2 0 200 S = some (if ((0 : Nat) : Int) ≤ a2.toInt ∧ a2.toInt ≤ ((200 : Nat) : Int) then 1 else 0) := from_c (a := 0) (b := 200) (by omega) (by omega)
  have i2 : f_X10_isFrom a4 0 3 S = some (if ((0 : Nat) : Int) ≤ a4.toInt ∧ a4.toInt ≤ ((3 : Nat) : Int) then 1 else 0) := from_c (a := 0) (b := 3) (by omega) (by omega)
  have j1 : ∀ T : fS, f_X11_in (Int32.toInt64 a2) 0 200 T = some (if ((0 : Nat) : Int) ≤ a2.toInt ∧ a2.toInt ≤ ((200 : Nat) : Int) then 1 else 0) := fun T => in_c (a := 0) (b := 200) (by omega) (by omega)
  have j2 : ∀ T : fS, f_X11_in (Int32.toInt64 a4) 0 3 T = some (if ((0 : Nat) : Int) ≤ a4.toInt ∧ a4.toInt ≤ ((3 : Nat) : Int) then 1 else 0) := fun T => in_c (a := 0) (b := 3) (by omega) (by omega)
  have no : f_X10_ahead a1 a2 a3 a4 S = some (-1, S) → f_X11_ahead a1 a2 a3 a4 S = some (-1, S) → ∃ r S1 S2, f_X10_ahead a1 a2 a3 a4 S = some (r, S1) ∧ f_X11_ahead a1 a2 a3 a4 S1 = some (r, S2) ∧ Rel S2 := fun h g => ⟨-1, S, S, h, g, hR0⟩
  by_cases h1 : ¬ (0 ≤ a1.toInt ∧ a1.toInt < L.length)
  · refine no ?_ ?_
    · unfold f_X10_ahead; rw [l2, from_o (by omega), bd_some, if_neg h1, if_pos rfl]
    · unfold f_X11_ahead; rw [mr_o l3 (by omega), bd_some, if_neg h1, if_pos rfl]
  have h1 := Decidable.not_not.mp h1
  by_cases h2 : ¬ (((0 : Nat) : Int) ≤ a2.toInt ∧ a2.toInt ≤ ((200 : Nat) : Int))
  · refine no ?_ ?_
    · unfold f_X10_ahead; rw [l2, from_o (by omega), bd_some, if_pos h1, if_neg (show ¬ (1 : Int32) = 0 by decide), i1, bd_some, if_neg h2, if_pos rfl]
    · unfold f_X11_ahead; rw [mr_o l3 (by omega), bd_some, if_pos h1, if_neg (show ¬ (1 : Int32) = 0 by decide), j1, bd_some, if_neg h2, if_pos rfl]
  have h2 := Decidable.not_not.mp h2
  by_cases h3 : ¬ (0 ≤ a3.toInt ∧ a3.toInt < s.2.2.1.1)
  · refine no ?_ ?_
    · unfold f_X10_ahead; rw [l2, from_o (by omega), bd_some, if_pos h1, if_neg (show ¬ (1 : Int32) = 0 by decide), i1, bd_some, if_pos h2, if_neg (show ¬ (1 : Int32) = 0 by decide), ci_thing b3.1 (by omega), bd_some, if_neg h3, if_pos rfl]
    · unfold f_X11_ahead
      rw [mr_o l3 (by omega), bd_some, if_pos h1, if_neg (show ¬ (1 : Int32) = 0 by decide), j1, bd_some, if_pos h2, if_neg (show ¬ (1 : Int32) = 0 by decide), j2, bd_some, mi_thing m2.1 (by omega), bd_some]
      by_cases h4 : ((0 : Nat) : Int) ≤ a4.toInt ∧ a4.toInt ≤ ((3 : Nat) : Int)
      · rw [if_pos h4, if_neg (show ¬ (1 : Int32) = 0 by decide), if_neg h3, if_pos rfl]
      · rw [if_neg h4, if_pos rfl]
  have h3 := Decidable.not_not.mp h3
  by_cases h4 : ¬ (((0 : Nat) : Int) ≤ a4.toInt ∧ a4.toInt ≤ ((3 : Nat) : Int))
  · refine no ?_ ?_
    · unfold f_X10_ahead; rw [l2, from_o (by omega), bd_some, if_pos h1, if_neg (show ¬ (1 : Int32) = 0 by decide), i1, bd_some, if_pos h2, if_neg (show ¬ (1 : Int32) = 0 by decide), ci_thing b3.1 (by omega), bd_some, if_pos h3, if_neg (show ¬ (1 : Int32) = 0 by decide), i2, bd_some, if_neg h4, if_pos rfl]
    · unfold f_X11_ahead; rw [mr_o l3 (by omega), bd_some, if_pos h1, if_neg (show ¬ (1 : Int32) = 0 by decide), j1, bd_some, if_pos h2, if_neg (show ¬ (1 : Int32) = 0 by decide), j2, bd_some, if_neg h4, if_pos rfl]
  have h4 := Decidable.not_not.mp h4
  obtain ⟨h, e1, e2⟩ := o3_ex (x := a2) (by omega)
  obtain ⟨th, e3, e4⟩ := o3_ex h3.1
  have hth : th < s.2.2.1.1 := by omega
  obtain ⟨S1, Q, c1, c2, c3, c4, c5, f1, f2⟩ := c_look (v := a1) (h := h) hS0 hL0 (by omega) (by omega)
  have q157 : S1.1 157 = S.1 157 := funext fun k => f1 157 k (by omega) (by omega)
  have q158 : S1.2 158 = S.2 158 := funext fun k => f2 158 k (by omega) (by omega)
  obtain ⟨T1, t1, t2, t3, t4, t5⟩ := m_keeps S1
  have q157' : T1.1 157 = S.1 157 := (funext fun k => t4 157 k (by omega)).trans q157
  have q158' : T1.2 158 = S.2 158 := (funext fun k => t5 158 k (by omega)).trans q158
  have hru : ruM T1 a1 Q := c5 T1 (fun r hr => cdM_eq (l4 r hr).2 (fun a k _ => (t4 a k (by omega)).trans (f1 a k (by omega) (by omega))))
  generalize hCC : cHrs s.1 s.2.1 Q h s.2.2.1 = C at c2 c3 c4
  have hlive : ∀ K : fS → Option (Int64 × fS), ∃ T2, lp_X11_ahead_52 a1 (o3 h) (o3 th) a4 K FU (0 : Int32) T1 = K T2 ∧ cwM (T2.1 157) (T2.2 158) C ∧ eI T1 T2 := fun K => by
    obtain ⟨T2, u1, u2, u3⟩ := m_aheadl (v := a1) (p3 := o3 th) (p4 := a4) (Q := Q) n3 n4 n1 n2 (h := h) (by omega) (K := K) h 0 FU T1 s.2.2.1 (by omega) (FU_lt (by omega)) (okD_of n5) (by have := n5.2.1; omega) (by rw [q157', q158']; exact m2) (by rw [q157']; exact m1) (rHm_eq d (fun k => (t5 _ k (by omega)).trans (f2 _ k (by omega) (by omega)))) hru
    rw [hCC] at u2
    exact ⟨T2, u1, u2, u3⟩
  have hthC : th < C.1 := by omega
  have hC8 : C.1 ≤ 8 := c3.1
  obtain ⟨ag, g1, g2⟩ := age_oD c3 hthC
  obtain ⟨w1, w2, w3, w4, w5⟩ := c2.2.2 th hthC
  have cAns : f_X10_ahead a1 a2 a3 a4 S = some (if a4 = 0 then (if C.2.2.1 th < 0 then -2 else Int32.toInt64 (C.2.2.1 th)) else if a4 = 3 then o6 (cfn (acb C) C.1) else lw ag 232792560 (a4 - 1), S1) := by
    unfold f_X10_ahead
    rw [l2, from_o (by omega), bd_some, if_pos h1, if_neg (show ¬ (1 : Int32) = 0 by decide), i1, bd_some, if_pos h2, if_neg (show ¬ (1 : Int32) = 0 by decide), ci_thing b3.1 (by omega), bd_some, if_pos h3, if_neg (show ¬ (1 : Int32) = 0 by decide), i2, bd_some, if_pos h4, if_neg (show ¬ (1 : Int32) = 0 by decide), e1, c1, bd_some, e3]
    by_cases z0 : a4 = 0
    · rw [if_pos z0, if_pos z0]
      unfold f_X0_isStanding
      rw [gI_o (by omega) (by omega), bd_some, w1]
      by_cases z1 : C.2.2.1 th < 0
      · rw [if_pos z1, if_pos z1, bd_some, if_pos rfl]
      · rw [if_neg z1, if_neg z1, bd_some, if_neg (show ¬ (1 : Int32) = 0 by decide), bd_some]
    · rw [if_neg z0, if_neg z0]
      by_cases z3 : a4 = 3
      · have := cfn_le (f := acb C) C.1
        rw [if_pos z3, if_pos z3, c_acc c2 hC8, bd_some, o6_of3 (by omega)]
      · rw [if_neg z3, if_neg z3, gL_o (by omega) (by omega), bd_some, show S1.2 36 th = o6 ag from w5.trans g1, show (232792560 : Int64) = o6 232792560 from rfl, c_low (by omega) (by omega) (by omega), bd_some]
  have mPre : f_X11_ahead a1 a2 a3 a4 S1 = lp_X11_ahead_52 a1 (o3 h) (o3 th) a4 (fun S24 => if a4 = (3 : Int32) then (lp_X11_ahead_81  (fun u65 S66 => (f_X11_putsBack  S66).bind fun q68 =>
  some (u65, q68)) FU (0 : Int64) (0 : Int32) S24) else
  (if a4 = (0 : Int32) then ((f_X11_thingOf (o3 th) (0 : Int32) S24).bind fun q37 =>
  if (0 : Int32) ≤ q37 then ((f_X11_thingOf (o3 th) (0 : Int32) S24).bind fun q41 =>
  (f_X11_putsBack  S24).bind fun q44 =>
  some ((Int32.toInt64 q41), q44)) else
  ((f_X11_putsBack  S24).bind fun q47 =>
  some ((-2 : Int64), q47))) else
  ((gL S24 158 8 (o3 th)).bind fun a28 =>
  (f_X11_lowest a28 (232792560 : Int64) (a4 - (1 : Int32)) S24).bind fun q31 =>
  (f_X11_putsBack  S24).bind fun q34 =>
  some (q31, q34)))) FU (0 : Int32) T1 := by
    unfold f_X11_ahead
    rw [mr_o ((f1 _ _ (by omega) (by omega)).trans l3) (by omega), bd_some, if_pos h1, if_neg (show ¬ (1 : Int32) = 0 by decide), j1, bd_some, if_pos h2, if_neg (show ¬ (1 : Int32) = 0 by decide), j2, bd_some, if_pos h4, if_neg (show ¬ (1 : Int32) = 0 by decide), mi_thing (m := s.2.2.1.1) (by rw [q157]; exact m2.1) (by omega), bd_some, if_pos h3, if_neg (show ¬ (1 : Int32) = 0 by decide), t1, bd_some, e1, e3]
  obtain ⟨T2, u1, u2, u3⟩ := hlive (fun S24 => if a4 = (3 : Int32) then (lp_X11_ahead_81  (fun u65 S66 => (f_X11_putsBack  S66).bind fun q68 =>
  some (u65, q68)) FU (0 : Int64) (0 : Int32) S24) else
  (if a4 = (0 : Int32) then ((f_X11_thingOf (o3 th) (0 : Int32) S24).bind fun q37 =>
  if (0 : Int32) ≤ q37 then ((f_X11_thingOf (o3 th) (0 : Int32) S24).bind fun q41 =>
  (f_X11_putsBack  S24).bind fun q44 =>
  some ((Int32.toInt64 q41), q44)) else
  ((f_X11_putsBack  S24).bind fun q47 =>
  some ((-2 : Int64), q47))) else
  ((gL S24 158 8 (o3 th)).bind fun a28 =>
  (f_X11_lowest a28 (232792560 : Int64) (a4 - (1 : Int32)) S24).bind fun q31 =>
  (f_X11_putsBack  S24).bind fun q34 =>
  some (q31, q34))))
  obtain ⟨T3, v1, v2, v3, v4, v5⟩ := m_puts T2
  obtain ⟨x1, x2, x3, x4, x5⟩ := u2.2.2 th hthC
  have hth0 : f_X11_thingOf (o3 th) 0 T2 = some (C.2.2.1 th) := (mw_thing (a := 0) (by omega) (by omega)).trans (congrArg some x1)
  refine ⟨_, S1, T3, cAns, ?_, look_rel (S := S) (S1 := S1) hT hS0 hL0 hM f1 f2 (fun a k x y z => ?_) (fun a k x y z w => ?_) (fun k hk => ?_) (fun k hk => ?_)⟩
  · rw [mPre, u1]
    by_cases z3 : a4 = 3
    · rw [if_pos z3, if_neg (show ¬ a4 = 0 by rw [z3]; decide), if_pos z3, m_acc u2 hC8, v1, bd_some]
    · rw [if_neg z3]
      by_cases z0 : a4 = 0
      · rw [if_pos z0, if_pos z0, hth0, bd_some]
        by_cases z1 : C.2.2.1 th < 0
        · rw [if_pos z1, if_neg (show ¬ (0 : Int32) ≤ C.2.2.1 th by rw [ni_lt] at z1; rw [ni_le]; omega), v1, bd_some]
        · rw [if_neg z1, if_pos (show (0 : Int32) ≤ C.2.2.1 th by rw [ni_lt] at z1; rw [ni_le]; omega), bd_some, v1, bd_some]
      · rw [if_neg z0, if_neg z0, if_neg z3, gL_o (by omega) (by omega), bd_some, x5, g1, show (232792560 : Int64) = o6 232792560 from rfl, m_low (by omega) (by omega) (by omega), bd_some, v1, bd_some]
  · rw [v4 a k x, u3.1 a k (by omega) z, t4 a k y]
  · rw [v5 a k z, u3.2 a k x y z, t5 a k w]
  · rw [v2 k hk, u3.1 159 k (by omega) (by omega), t2 k hk]
  · rw [v3 k hk, u3.2 160 k (by omega) (by omega) (by omega), t3 k hk]

/-! elder() -/
def elx (A : Nat → Int64) : Nat → Nat → Nat → Nat
  | 0, _, i => i
  | d + 1, k, i => elx A d (k + 1) (if A k ≤ A i then i else k)
def yox (A : Nat → Int64) : Nat → Nat → Nat → Nat
  | 0, _, i => i
  | d + 1, k, i => yox A d (k + 1) (if A i ≤ A k then i else k)
theorem elx_lt {A : Nat → Int64} : ∀ d k i, i < k + d → elx A d k i < k + d := by
  intro d
  induction d with
  | zero => intro k i h; exact h
  | succ d ih =>
    intro k i h
    show elx A d (k + 1) _ < _
    have := ih (k + 1) (if A k ≤ A i then i else k) (by split <;> omega)
    omega
theorem yox_lt {A : Nat → Int64} : ∀ d k i, i < k + d → yox A d k i < k + d := by
  intro d
  induction d with
  | zero => intro k i h; exact h
  | succ d ih =>
    intro k i h
    show yox A d (k + 1) _ < _
    have := ih (k + 1) (if A i ≤ A k then i else k) (by split <;> omega)
    omega
section EL
variable {S : fS} {c : Nat} {C : Cw}
theorem cw_elx (hC : cwC S c C) (h8 : C.1 ≤ 8) (h1 : 0 < C.1) : f_X0_eldest c S = some (o3 (elx C.2.2.2.2.2.2 (C.1 - 1) 1 0)) := by
  have key : ∀ d k nn i, k + d = C.1 → d < nn → i < C.1 → lp_X0_eldest_4 c S (fun u9 => some u9) nn (o3 i) (o3 k) = some (o3 (elx C.2.2.2.2.2.2 d k i)) := by
    intro d
    induction d with
    | zero =>
      intro k nn i hk hnn hi
      obtain ⟨nn, rfl⟩ : ∃ z, nn = z + 1 := ⟨nn - 1, by omega⟩
      rw [lp_X0_eldest_4.eq_2, hC.1, if_pos ((o3_le (by omega) (by omega)).mpr (by omega))]
      rfl
    | succ d ih =>
      intro k nn i hk hnn hi
      obtain ⟨nn, rfl⟩ : ∃ z, nn = z + 1 := ⟨nn - 1, by omega⟩
      have he : elx C.2.2.2.2.2.2 (d + 1) k i = elx C.2.2.2.2.2.2 d (k + 1) (if C.2.2.2.2.2.2 k ≤ C.2.2.2.2.2.2 i then i else k) := rfl
      rw [lp_X0_eldest_4.eq_2, hC.1, if_neg (fun q => by have := (o3_le (by omega) (by omega)).mp q; omega), gL_o (by omega) (by omega), bd_some, gL_o (by omega) (by omega), bd_some, (hC.2.2 k (by omega)).2.2.2.2, (hC.2.2 i hi).2.2.2.2, o3_s, he]
      by_cases h : C.2.2.2.2.2.2 k ≤ C.2.2.2.2.2.2 i
      · rw [if_pos h, if_pos h]
        exact ih (k + 1) nn i (by omega) (by omega) hi
      · rw [if_neg h, if_neg h]
        exact ih (k + 1) nn k (by omega) (by omega) (by omega)
  exact key (C.1 - 1) 1 FU 0 (by omega) (FU_lt (by omega)) h1
theorem cw_yox (hC : cwC S c C) (h8 : C.1 ≤ 8) (h1 : 0 < C.1) : f_X0_youngest c S = some (o3 (yox C.2.2.2.2.2.2 (C.1 - 1) 1 0)) := by
  have key : ∀ d k nn i, k + d = C.1 → d < nn → i < C.1 → lp_X0_youngest_4 c S (fun u9 => some u9) nn (o3 i) (o3 k) = some (o3 (yox C.2.2.2.2.2.2 d k i)) := by
    intro d
    induction d with
    | zero =>
      intro k nn i hk hnn hi
      obtain ⟨nn, rfl⟩ : ∃ z, nn = z + 1 := ⟨nn - 1, by omega⟩
      rw [lp_X0_youngest_4.eq_2, hC.1, if_pos ((o3_le (by omega) (by omega)).mpr (by omega))]
      rfl
    | succ d ih =>
      intro k nn i hk hnn hi
      obtain ⟨nn, rfl⟩ : ∃ z, nn = z + 1 := ⟨nn - 1, by omega⟩
      have he : yox C.2.2.2.2.2.2 (d + 1) k i = yox C.2.2.2.2.2.2 d (k + 1) (if C.2.2.2.2.2.2 i ≤ C.2.2.2.2.2.2 k then i else k) := rfl
      rw [lp_X0_youngest_4.eq_2, hC.1, if_neg (fun q => by have := (o3_le (by omega) (by omega)).mp q; omega), gL_o (by omega) (by omega), bd_some, gL_o (by omega) (by omega), bd_some, (hC.2.2 k (by omega)).2.2.2.2, (hC.2.2 i hi).2.2.2.2, o3_s, he]
      by_cases h : C.2.2.2.2.2.2 i ≤ C.2.2.2.2.2.2 k
      · rw [if_pos h, if_pos h]
        exact ih (k + 1) nn i (by omega) (by omega) hi
      · rw [if_neg h, if_neg h]
        exact ih (k + 1) nn k (by omega) (by omega) (by omega)
  exact key (C.1 - 1) 1 FU 0 (by omega) (FU_lt (by omega)) h1
theorem m_elx (hC : cwM (S.1 157) (S.2 158) C) (h8 : C.1 ≤ 8) (h1 : 0 < C.1) {v : Int32} {K : Int32 → Int32 → fS → Option (Int64 × fS)} : lp_X11_elder_83 v K FU (0 : Int32) (0 : Int32) (1 : Int32) S = K (o3 (elx C.2.2.2.2.2.2 (C.1 - 1) 1 0)) (o3 (yox C.2.2.2.2.2.2 (C.1 - 1) 1 0)) S := by
  have key : ∀ d k nn i j, k + d = C.1 → d < nn → i < C.1 → j < C.1 → lp_X11_elder_83 v K nn (o3 i) (o3 j) (o3 k) S = K (o3 (elx C.2.2.2.2.2.2 d k i)) (o3 (yox C.2.2.2.2.2.2 d k j)) S := by
    intro d
    induction d with
    | zero =>
      intro k nn i j hk hnn hi hj
      obtain ⟨nn, rfl⟩ : ∃ z, nn = z + 1 := ⟨nn - 1, by omega⟩
      rw [lp_X11_elder_83.eq_2, show (2 : Int32) = o3 2 from rfl, gI_o (by omega) (by omega), bd_some, hC.1, if_pos ((o3_le (by omega) (by omega)).mpr (by omega))]
      rfl
    | succ d ih =>
      intro k nn i j hk hnn hi hj
      obtain ⟨nn, rfl⟩ : ∃ z, nn = z + 1 := ⟨nn - 1, by omega⟩
      have he : elx C.2.2.2.2.2.2 (d + 1) k i = elx C.2.2.2.2.2.2 d (k + 1) (if C.2.2.2.2.2.2 k ≤ C.2.2.2.2.2.2 i then i else k) := rfl
      have hy : yox C.2.2.2.2.2.2 (d + 1) k j = yox C.2.2.2.2.2.2 d (k + 1) (if C.2.2.2.2.2.2 j ≤ C.2.2.2.2.2.2 k then j else k) := rfl
      have ga : ∀ z, z < C.1 → gL S 158 8 (o3 z) = some (C.2.2.2.2.2.2 z) := fun z hz => (gL_o (by omega) (by omega)).trans (congrArg some (hC.2.2 z hz).2.2.2.2)
      rw [lp_X11_elder_83.eq_2, show (2 : Int32) = o3 2 from rfl, gI_o (by omega) (by omega), bd_some, hC.1, if_neg (fun q => by have := (o3_le (by omega) (by omega)).mp q; omega), ga k (by omega), ga i hi, ga j hj]
      simp only [bd_some]
      rw [o3_s, he, hy]
      by_cases h : C.2.2.2.2.2.2 k ≤ C.2.2.2.2.2.2 i
      · rw [if_pos h, if_pos h]
        by_cases g : C.2.2.2.2.2.2 j ≤ C.2.2.2.2.2.2 k
        · rw [if_pos g, if_pos g]
          exact ih (k + 1) nn i j (by omega) (by omega) hi hj
        · rw [if_neg g, if_neg g]
          exact ih (k + 1) nn i k (by omega) (by omega) hi (by omega)
      · rw [if_neg h, if_neg h]
        by_cases g : C.2.2.2.2.2.2 j ≤ C.2.2.2.2.2.2 k
        · rw [if_pos g, if_pos g]
          exact ih (k + 1) nn k j (by omega) (by omega) (by omega) hj
        · rw [if_neg g, if_neg g]
          exact ih (k + 1) nn k k (by omega) (by omega) (by omega) (by omega)
  exact key (C.1 - 1) 1 FU 0 0 (by omega) (FU_lt (by omega)) h1 h1
end EL
def eldK (v : Int32) : Int32 → Int32 → fS → Option (Int64 × fS) := fun u48 u49 S50 => if v = (0 : Int32) then ((f_X11_putsBack  S50).bind fun q69 =>
  some ((Int32.toInt64 u48), q69)) else
  (if v = (1 : Int32) then ((f_X11_putsBack  S50).bind fun q66 =>
  some ((Int32.toInt64 u49), q66)) else
  ((gL S50 158 8 u48).bind fun a54 =>
  (gL S50 158 8 u49).bind fun a57 =>
  (f_X11_lowest (a54 - a57) (232792560 : Int64) (v - (2 : Int32)) S50).bind fun q60 =>
  (f_X11_putsBack  S50).bind fun q63 =>
  some (q60, q63)))
theorem t_27 (a1 a2 a3 : Int32) (S : fS) (hR : Rel S) : ∃ r S1 S2, f_X10_elder a1 a2 a3 S = some (r, S1) ∧ f_X11_elder a1 a2 a3 S1 = some (r, S2) ∧ Rel S2 := by
  have hR0 := hR
  obtain ⟨n, s, L, M, hT, hS, hL, hM⟩ := hR
  have hS0 := hS
  have hL0 := hL
  obtain ⟨⟨n1, n2, n3, n4, n5, n6⟩, ⟨b1, b2, b3, b4, b5⟩, ⟨m1, m2, m3, m4⟩, d⟩ := hS
  obtain ⟨l1, l2, l3, l4⟩ := hL
  have h8 := n5.1
  have i1 : f_X10_isFrom a2 0 200 S = some (if ((0 : Nat) : Int) ≤ a2.toInt ∧ a2.toInt ≤ ((200 : Nat) : Int) then 1 else 0) := from_c (a := 0) (b := 200) (by omega) (by omega)
  have i2 : f_X10_isFrom a3 0 3 S = some (if ((0 : Nat) : Int) ≤ a3.toInt ∧ a3.toInt ≤ ((3 : Nat) : Int) then 1 else 0) := from_c (a := 0) (b := 3) (by omega) (by omega)
  have j1 : ∀ T : fS, f_X11_in (Int32.toInt64 a2) 0 200 T = some (if ((0 : Nat) : Int) ≤ a2.toInt ∧ a2.toInt ≤ ((200 : Nat) : Int) then 1 else 0) := fun T => in_c (a := 0) (b := 200) (by omega) (by omega)
  have j2 : ∀ T : fS, f_X11_in (Int32.toInt64 a3) 0 3 T = some (if ((0 : Nat) : Int) ≤ a3.toInt ∧ a3.toInt ≤ ((3 : Nat) : Int) then 1 else 0) := fun T => in_c (a := 0) (b := 3) (by omega) (by omega)
  /- the reference, in one form -/
  have hm : ∀ T : fS, T.1 145 2 = o3 L.length → T.1 157 2 = o3 s.2.2.1.1 → f_X11_elder a1 a2 a3 T = if -1 ≤ a1.toInt ∧ a1.toInt < L.length then (if ((0 : Nat) : Int) ≤ a2.toInt ∧ a2.toInt ≤ ((200 : Nat) : Int) then (if ((0 : Nat) : Int) ≤ a3.toInt ∧ a3.toInt ≤ ((3 : Nat) : Int) then (if s.2.2.1.1 = 0 then some (-1, T) else ((f_X11_keeps T).bind fun q14 => lp_X11_elder_57 a1 a2 a3 (fun S21 => lp_X11_elder_83 a3 (eldK a3) FU (0 : Int32) (0 : Int32) (1 : Int32) S21) FU (0 : Int32) q14)) else some (-1, T)) else some (-1, T)) else some (-1, T) := fun T h2 h3 => by
    have hg : gI T 157 158 2 = some (o3 s.2.2.1.1) := (gI_o (k := 2) (by omega) (by omega)).trans (congrArg some h3)
    have hrest : ((f_X11_in (Int32.toInt64 a2) (0 : Int64) (200 : Int64) T).bind fun q2 => if q2 = (0 : Int32) then (some ((-1 : Int64), T)) else ((f_X11_in (Int32.toInt64 a3) (0 : Int64) (3 : Int64) T).bind fun q6 => if q6 = (0 : Int32) then (some ((-1 : Int64), T)) else ((gI T 157 158 (2 : Int32)).bind fun a10 => if a10 = (0 : Int32) then (some ((-1 : Int64), T)) else ((f_X11_keeps  T).bind fun q14 => lp_X11_elder_57 a1 a2 a3 (fun S21 => lp_X11_elder_83 a3 (eldK a3) FU (0 : Int32) (0 : Int32) (1 : Int32) S21) FU (0 : Int32) q14)))) = (if ((0 : Nat) : Int) ≤ a2.toInt ∧ a2.toInt ≤ ((200 : Nat) : Int) then (if ((0 : Nat) : Int) ≤ a3.toInt ∧ a3.toInt ≤ ((3 : Nat) : Int) then (if s.2.2.1.1 = 0 then some (-1, T) else ((f_X11_keeps T).bind fun q14 => lp_X11_elder_57 a1 a2 a3 (fun S21 => lp_X11_elder_83 a3 (eldK a3) FU (0 : Int32) (0 : Int32) (1 : Int32) S21) FU (0 : Int32) q14)) else some (-1, T)) else some (-1, T)) := by
      rw [j1, bd_some, j2, bd_some, hg, bd_some]
      by_cases z : ((0 : Nat) : Int) ≤ a2.toInt ∧ a2.toInt ≤ ((200 : Nat) : Int)
      · rw [if_pos z, if_pos z, if_neg (show ¬ (1 : Int32) = 0 by decide)]
        by_cases z' : ((0 : Nat) : Int) ≤ a3.toInt ∧ a3.toInt ≤ ((3 : Nat) : Int)
        · rw [if_pos z', if_pos z', if_neg (show ¬ (1 : Int32) = 0 by decide)]
          by_cases z0 : s.2.2.1.1 = 0
          · rw [if_pos z0, if_pos (show o3 s.2.2.1.1 = (0 : Int32) by rw [z0]; rfl)]
          · rw [if_neg z0, if_neg (show ¬ o3 s.2.2.1.1 = (0 : Int32) from fun q => z0 ((o3_inj (b := 0) (by omega) (by omega)).mp q))]
        · rw [if_neg z', if_neg z', if_pos rfl]
      · rw [if_neg z, if_neg z, if_pos rfl]
    unfold f_X11_elder
    by_cases h1 : a1 = -1
    · rw [if_pos h1]
      refine hrest.trans ?_
      rw [if_pos (show -1 ≤ a1.toInt ∧ a1.toInt < (L.length : Int) from by rw [h1, show (-1 : Int32).toInt = -1 from rfl]; omega)]
    · rw [if_neg h1, mr_o h2 (by omega), bd_some]
      have h1' : a1.toInt ≠ -1 := fun q => h1 (ni_eq.mpr q)
      by_cases z : 0 ≤ a1.toInt ∧ a1.toInt < L.length
      · rw [if_pos z, if_neg (show ¬ (1 : Int32) = 0 by decide)]
        refine hrest.trans ?_
        rw [if_pos (show -1 ≤ a1.toInt ∧ a1.toInt < (L.length : Int) by omega)]
      · rw [if_neg z, if_pos rfl, if_neg (show ¬ (-1 ≤ a1.toInt ∧ a1.toInt < (L.length : Int)) by omega)]
  have no : f_X10_elder a1 a2 a3 S = some (-1, S) → f_X11_elder a1 a2 a3 S = some (-1, S) → ∃ r S1 S2, f_X10_elder a1 a2 a3 S = some (r, S1) ∧ f_X11_elder a1 a2 a3 S1 = some (r, S2) ∧ Rel S2 := fun h g => ⟨-1, S, S, h, g, hR0⟩
  by_cases h1 : ¬ (-1 ≤ a1.toInt ∧ a1.toInt < L.length)
  · refine no ?_ (by rw [hm S l3 m2.1, if_neg h1])
    unfold f_X10_elder; rw [rn_o l2 (by omega), bd_some, if_neg h1, if_pos rfl]
  have h1 := Decidable.not_not.mp h1
  by_cases h2 : ¬ (((0 : Nat) : Int) ≤ a2.toInt ∧ a2.toInt ≤ ((200 : Nat) : Int))
  · refine no ?_ (by rw [hm S l3 m2.1, if_pos h1, if_neg h2])
    unfold f_X10_elder; rw [rn_o l2 (by omega), bd_some, if_pos h1, if_neg (show ¬ (1 : Int32) = 0 by decide), i1, bd_some, if_neg h2, if_pos rfl]
  have h2 := Decidable.not_not.mp h2
  by_cases h0 : s.2.2.1.1 = 0
  · refine no ?_ (by
      rw [hm S l3 m2.1, if_pos h1, if_pos h2]
      by_cases h3 : ((0 : Nat) : Int) ≤ a3.toInt ∧ a3.toInt ≤ ((3 : Nat) : Int)
      · rw [if_pos h3, if_pos h0]
      · rw [if_neg h3])
    unfold f_X10_elder; rw [rn_o l2 (by omega), bd_some, if_pos h1, if_neg (show ¬ (1 : Int32) = 0 by decide), i1, bd_some, if_pos h2, if_neg (show ¬ (1 : Int32) = 0 by decide), show S.1 11 5 = _ from b3.1, if_pos (show o3 s.2.2.1.1 = (0 : Int32) by rw [h0]; rfl)]
  by_cases h3 : ¬ (((0 : Nat) : Int) ≤ a3.toInt ∧ a3.toInt ≤ ((3 : Nat) : Int))
  · refine no ?_ (by rw [hm S l3 m2.1, if_pos h1, if_pos h2, if_neg h3])
    unfold f_X10_elder; rw [rn_o l2 (by omega), bd_some, if_pos h1, if_neg (show ¬ (1 : Int32) = 0 by decide), i1, bd_some, if_pos h2, if_neg (show ¬ (1 : Int32) = 0 by decide), show S.1 11 5 = _ from b3.1, if_neg (show ¬ o3 s.2.2.1.1 = (0 : Int32) from fun q => h0 ((o3_inj (b := 0) (by omega) (by omega)).mp q)), i2, bd_some, if_neg h3, if_pos rfl]
  have h3 := Decidable.not_not.mp h3
  obtain ⟨h, e1, e2⟩ := o3_ex (x := a2) (by omega)
  obtain ⟨S1, Q, c1, c2, c3, c4, c5, f1, f2⟩ := c_look (v := a1) (h := h) hS0 hL0 h1 (by omega)
  have q157 : S1.1 157 = S.1 157 := funext fun k => f1 157 k (by omega) (by omega)
  have q158 : S1.2 158 = S.2 158 := funext fun k => f2 158 k (by omega) (by omega)
  obtain ⟨T1, t1, t2, t3, t4, t5⟩ := m_keeps S1
  have q157' : T1.1 157 = S.1 157 := (funext fun k => t4 157 k (by omega)).trans q157
  have q158' : T1.2 158 = S.2 158 := (funext fun k => t5 158 k (by omega)).trans q158
  have hru : ruM T1 a1 Q := c5 T1 (fun r hr => cdM_eq (l4 r hr).2 (fun a k _ => (t4 a k (by omega)).trans (f1 a k (by omega) (by omega))))
  obtain ⟨T2, u1, u2, u3⟩ := m_elderl (v := a1) (p3 := a3) (Q := Q) n3 n4 n1 n2 (h := h) (by omega) (K := fun S21 => lp_X11_elder_83 a3 (eldK a3) FU (0 : Int32) (0 : Int32) (1 : Int32) S21) h 0 FU T1 s.2.2.1 (by omega) (FU_lt (by omega)) (okD_of n5) (by have := n5.2.1; omega) (by rw [q157', q158']; exact m2) (by rw [q157']; exact m1) (rHm_eq d (fun k => (t5 _ k (by omega)).trans (f2 _ k (by omega) (by omega)))) hru
  generalize cHrs s.1 s.2.1 Q h s.2.2.1 = C at c2 c3 c4 u2
  have hC8 : C.1 ≤ 8 := c3.1
  have hC0 : 0 < C.1 := by omega
  obtain ⟨T3, v1, v2, v3, v4, v5⟩ := m_puts T2
  have hx1 := cw_elx c2 hC8 hC0
  have hy1 := cw_yox c2 hC8 hC0
  have hxl : elx C.2.2.2.2.2.2 (C.1 - 1) 1 0 < C.1 := by have := elx_lt (A := C.2.2.2.2.2.2) (C.1 - 1) 1 0 (by omega); omega
  have hyl : yox C.2.2.2.2.2.2 (C.1 - 1) 1 0 < C.1 := by have := yox_lt (A := C.2.2.2.2.2.2) (C.1 - 1) 1 0 (by omega); omega
  have hle : C.2.2.2.2.2.2 (yox C.2.2.2.2.2.2 (C.1 - 1) 1 0) ≤ C.2.2.2.2.2.2 (elx C.2.2.2.2.2.2 (C.1 - 1) 1 0) := by
    obtain ⟨i, p1, p2, p3⟩ := cw_eldest c2 hC8 hC0
    rw [hx1] at p2
    have : elx C.2.2.2.2.2.2 (C.1 - 1) 1 0 = i := (o3_inj (by omega) (by omega)).mp (Option.some.inj p2)
    rw [this]
    exact p3 _ hyl
  have hM := m_elx u2 hC8 hC0 (v := a3) (K := eldK a3)
  have ga : ∀ z, z < C.1 → gL T2 158 8 (o3 z) = some (C.2.2.2.2.2.2 z) := fun z hz => (gL_o (by omega) (by omega)).trans (congrArg some (u2.2.2 z hz).2.2.2.2)
  have gc : ∀ z, z < C.1 → gL S1 36 8 (o3 z) = some (C.2.2.2.2.2.2 z) := fun z hz => (gL_o (by omega) (by omega)).trans (congrArg some (c2.2.2 z hz).2.2.2.2)
  generalize elx C.2.2.2.2.2.2 (C.1 - 1) 1 0 = x at *
  generalize yox C.2.2.2.2.2.2 (C.1 - 1) 1 0 = y at *
  obtain ⟨ax, g1, g2⟩ := age_oD c3 hxl
  obtain ⟨ay, g3, g4⟩ := age_oD c3 hyl
  have hay : ay ≤ ax := by rw [g1, g3] at hle; exact (o6_le (by omega) (by omega)).mp hle
  refine ⟨if (2 : Int32) ≤ a3 then lw (ax - ay) 232792560 (a3 - 2) else if a3 = 0 then o6 x else o6 y, S1, T3, ?_, ?_, look_rel (S := S) (S1 := S1) hT hS0 hL0 ‹rIm M S› f1 f2 (fun a k x y z => ?_) (fun a k x y z w => ?_) (fun k hk => ?_) (fun k hk => ?_)⟩
  · unfold f_X10_elder
    rw [rn_o l2 (by omega), bd_some, if_pos h1, if_neg (show ¬ (1 : Int32) = 0 by decide), i1, bd_some, if_pos h2, if_neg (show ¬ (1 : Int32) = 0 by decide), show S.1 11 5 = _ from b3.1, if_neg (show ¬ o3 s.2.2.1.1 = (0 : Int32) from fun q => h0 ((o3_inj (b := 0) (by omega) (by omega)).mp q)), i2, bd_some, if_pos h3, if_neg (show ¬ (1 : Int32) = 0 by decide), e1, c1, bd_some, hx1, bd_some, hy1, bd_some]
    by_cases z2 : (2 : Int32) ≤ a3
    · rw [if_pos z2, if_pos z2, gc x hxl, gc y hyl, bd_some, bd_some, g1, g3, o6_sub hay, show (232792560 : Int64) = o6 232792560 from rfl, c_low (by omega) (by omega) (by omega), bd_some]
    · rw [if_neg z2, if_neg z2]
      by_cases z0 : a3 = 0
      · rw [if_pos z0, if_pos z0, o6_of3 (by omega)]
      · rw [if_neg z0, if_neg z0, o6_of3 (by omega)]
  · rw [hm S1 ((f1 _ _ (by omega) (by omega)).trans l3) (by rw [q157]; exact m2.1), if_pos h1, if_pos h2, if_pos h3, if_neg h0, t1, bd_some, e1]
    refine (show lp_X11_elder_57 a1 (o3 h) a3 (fun S21 => lp_X11_elder_83 a3 (eldK a3) FU (0 : Int32) (0 : Int32) (1 : Int32) S21) FU (0 : Int32) T1 = _ from u1).trans ?_
    rw [hM]
    unfold eldK
    by_cases z0 : a3 = 0
    · rw [if_pos z0, v1, bd_some, if_neg (show ¬ (2 : Int32) ≤ a3 by rw [z0]; decide), if_pos z0, o6_of3 (by omega)]
    · rw [if_neg z0]
      by_cases z1 : a3 = 1
      · rw [if_pos z1, v1, bd_some, if_neg (show ¬ (2 : Int32) ≤ a3 by rw [z1]; decide), if_neg z0, o6_of3 (by omega)]
      · have z2 : (2 : Int32) ≤ a3 := by
          have y0 : a3.toInt ≠ 0 := fun q => z0 (ni_eq.mpr q)
          have y1 : a3.toInt ≠ 1 := fun q => z1 (ni_eq.mpr q)
          exact ni_le.mpr (by show 2 ≤ a3.toInt; omega)
        rw [if_neg z1, if_pos z2, ga x hxl, ga y hyl, bd_some, bd_some, g1, g3, o6_sub hay, show (232792560 : Int64) = o6 232792560 from rfl, m_low (by omega) (by omega) (by omega), bd_some, v1, bd_some]
  · rw [v4 a k x, u3.1 a k (by omega) z, t4 a k y]
  · rw [v5 a k z, u3.2 a k x y z, t5 a k w]
  · rw [v2 k hk, u3.1 159 k (by omega) (by omega), t2 k hk]
  · rw [v3 k hk, u3.2 160 k (by omega) (by omega) (by omega), t3 k hk]
end
section
/-! the best gain within some hours -/
def bt (mx : Int32) (x y : Int64) : Int64 := if x < 0 then y else if y < 0 then x else if mx = 0 then (if y ≤ x then y else x) else (if x ≤ y then y else x)
def bs (v : Nat → Int64) (mx : Int32) : Nat → Nat → Int64 → Int64
  | 0, _, x => x
  | d + 1, k, x => bs v mx d (k + 1) (bt mx (v k) x)
def stv (g p : Int64) : Int64 := if 0 ≤ g then g + p else -1
def gsv (E : List St5) (G : Nat → Nat → Int64) (h f k : Nat) : Int64 := if oeI (E.getD k d5) f = -1 then -1 else if h < (E.getD k d5).2.2.1 then -1 else if 0 ≤ G (h - (E.getD k d5).2.2.1) (oeI (E.getD k d5) f).toNatClampNeg then G (h - (E.getD k d5).2.2.1) (oeI (E.getD k d5) f).toNatClampNeg + o6 (E.getD k d5).2.2.1 * pc (E.getD k d5).2.2.2 else -1
def gF (F : List (Nat × Nat)) (E : List St5) (tg : Nat) (mx : Int32) : Nat → Nat → Nat → Int64
  | 0, _, f => if f = tg then 0 else -1
  | n + 1, h, f => if h = 0 then (if f = tg then 0 else -1) else bs (gsv E (gF F E tg mx n) h f) mx E.length 0 (stv (gF F E tg mx n (h - 1) f) (pc (F.getD f (0, 0))))
def GG (F : List (Nat × Nat)) (E : List St5) (tg : Nat) (mx : Int32) (h f : Nat) : Int64 := gF F E tg mx h h f
theorem bs_cg {v w : Nat → Int64} {mx : Int32} : ∀ d k x, (∀ j, k ≤ j → j < k + d → v j = w j) → bs v mx d k x = bs w mx d k x := by
  intro d
  induction d with
  | zero => intro k x _; rfl
  | succ d ih =>
    intro k x h
    show bs v mx d (k + 1) (bt mx (v k) x) = bs w mx d (k + 1) (bt mx (w k) x)
    rw [h k (Nat.le_refl _) (by omega)]
    exact ih (k + 1) _ (fun j h1 h2 => h j (by omega) (by omega))
theorem gsv_cg {E : List St5} {G H : Nat → Nat → Int64} {m h f k : Nat} (hE : ∀ q ∈ E, okS m q) (hk : k < E.length) (e : ∀ j g, j < h → G j g = H j g) : gsv E G h f k = gsv E H h f k := by
  unfold gsv
  obtain ⟨_, _, _, s4, _⟩ := hE _ (gd_mem (d := d5) hk)
  by_cases h1 : oeI (E.getD k d5) f = -1
  · rw [if_pos h1, if_pos h1]
  · rw [if_neg h1, if_neg h1]
    by_cases h2 : h < (E.getD k d5).2.2.1
    · rw [if_pos h2, if_pos h2]
    · rw [if_neg h2, if_neg h2, e _ _ (by omega)]
theorem gF_st {F : List (Nat × Nat)} {E : List St5} {tg m : Nat} {mx : Int32} (hE : ∀ q ∈ E, okS m q) : ∀ n, (∀ h f, h ≤ n → gF F E tg mx n h f = GG F E tg mx h f) := by
  intro n
  induction n using Nat.strongRecOn with
  | _ n ih =>
    intro h f hn
    cases n with
    | zero =>
      have : h = 0 := by omega
      subst this
      rfl
    | succ n =>
      cases h with
      | zero => rfl
      | succ h =>
        have e1 : gF F E tg mx (n + 1) (h + 1) f = bs (gsv E (gF F E tg mx n) (h + 1) f) mx E.length 0 (stv (gF F E tg mx n h f) (pc (F.getD f (0, 0)))) := rfl
        have e2 : GG F E tg mx (h + 1) f = bs (gsv E (gF F E tg mx h) (h + 1) f) mx E.length 0 (stv (GG F E tg mx h f) (pc (F.getD f (0, 0)))) := rfl
        rw [e1, e2, ih n (by omega) h f (by omega)]
        refine bs_cg _ _ _ (fun j h1 h2 => gsv_cg hE (by omega) (fun a g ha => ?_))
        rw [ih n (by omega) a g (by omega)]
        by_cases hh : h < n + 1
        · rw [ih h hh a g (by omega)]
        · exact absurd hn (by omega)
theorem GG_0 {F : List (Nat × Nat)} {E : List St5} {tg f : Nat} {mx : Int32} : GG F E tg mx 0 f = if f = tg then 0 else -1 := rfl
theorem GG_s {F : List (Nat × Nat)} {E : List St5} {tg m f h : Nat} {mx : Int32} (hE : ∀ q ∈ E, okS m q) : GG F E tg mx (h + 1) f = bs (gsv E (GG F E tg mx) (h + 1) f) mx E.length 0 (stv (GG F E tg mx h f) (pc (F.getD f (0, 0)))) := by
  have e2 : GG F E tg mx (h + 1) f = bs (gsv E (gF F E tg mx h) (h + 1) f) mx E.length 0 (stv (GG F E tg mx h f) (pc (F.getD f (0, 0)))) := rfl
  rw [e2]
  exact bs_cg _ _ _ (fun j h1 h2 => gsv_cg hE (by omega) (fun a g ha => gF_st hE h a g (by omega)))
/-- as a number, or -1 -/
def nb (x : Int64) (h : Nat) : Prop := x = -1 ∨ ∃ g, x = o6 g ∧ g ≤ 4655851200 * h
theorem nb_bt {mx : Int32} {x y : Int64} {h : Nat} (hx : nb x h) (hy : nb y h) : nb (bt mx x y) h := by
  unfold bt
  split
  · exact hy
  · split
    · exact hx
    · split
      · split
        · exact hy
        · exact hx
      · split
        · exact hy
        · exact hx
theorem nb_bs {v : Nat → Int64} {mx : Int32} {h : Nat} : ∀ d k x, nb x h → (∀ j, k ≤ j → j < k + d → nb (v j) h) → nb (bs v mx d k x) h := by
  intro d
  induction d with
  | zero => intro k x hx _; exact hx
  | succ d ih =>
    intro k x hx hv
    exact ih (k + 1) _ (nb_bt (hv k (Nat.le_refl _) (by omega)) hx) (fun j h1 h2 => hv j (by omega) (by omega))
theorem GG_nb {F : List (Nat × Nat)} {E : List St5} {tg : Nat} {mx : Int32} (hF : ∀ q ∈ F, okF q) (hE : ∀ q ∈ E, okS F.length q) (hm : F.length ≤ 10) : ∀ h f, h ≤ 120 → f < F.length → nb (GG F E tg mx h f) h := by
  intro h
  induction h using Nat.strongRecOn with
  | _ h ih =>
    intro f hh hf
    cases h with
    | zero =>
      rw [GG_0]
      split
      · exact Or.inr ⟨0, rfl, by omega⟩
      · exact Or.inl rfl
    | succ h =>
      rw [GG_s hE]
      refine nb_bs _ _ _ ?_ (fun j _ hj => ?_)
      · unfold stv
        rcases ih h (by omega) f (by omega) hf with e | ⟨g, e1, e2⟩
        · rw [e, if_neg (by decide)]; exact Or.inl rfl
        · have hp := pcn_le (hF _ (gd_mem (d := (0, 0)) hf))
          rw [e1, if_pos (o6_0le (by omega)), pc_o, o6_add]
          exact Or.inr ⟨_, rfl, by omega⟩
      · have hj : j < E.length := by omega
        have hq := hE _ (gd_mem (d := d5) hj)
        obtain ⟨s1, s2, s3, s4, s5, s6⟩ := hq
        unfold gsv
        rcases oe_or (a := f) (hE _ (gd_mem (d := d5) hj)) hm with ⟨o, o1, o2, _⟩ | ⟨o2, _⟩
        · rw [o2, if_neg (o3_m1 (by omega)), o3_nat (by omega)]
          by_cases h2 : h + 1 < (E.getD j d5).2.2.1
          · rw [if_pos h2]; exact Or.inl rfl
          · rw [if_neg h2]
            rcases ih (h + 1 - (E.getD j d5).2.2.1) (by omega) o (by omega) o1 with e | ⟨g, e1, e2⟩
            · rw [e, if_neg (by decide)]; exact Or.inl rfl
            · have hp := pcn_le s6
              have hmul : (E.getD j d5).2.2.1 * ((E.getD j d5).2.2.2.1 * pz (E.getD j d5).2.2.2) ≤ (E.getD j d5).2.2.1 * 4655851200 := Nat.mul_le_mul_left _ hp.2
              have hd : 4655851200 * (h + 1 - (E.getD j d5).2.2.1) + 4655851200 * (E.getD j d5).2.2.1 = 4655851200 * (h + 1) := by rw [← Nat.mul_add]; congr 1; omega
              rw [e1, if_pos (o6_0le (by omega)), pc_o, o6_mul, o6_add]
              exact Or.inr ⟨_, rfl, by omega⟩
        · rw [o2, if_pos rfl]; exact Or.inl rfl
section PC
variable {F : List (Nat × Nat)} {E : List St5} {tg : Nat} {mx : Int32}
/-- the class's table, whole up to hour h -/
def tbC (F : List (Nat × Nat)) (E : List St5) (tg : Nat) (mx : Int32) (S : fS) (h : Nat) : Prop := ∀ j f, j ≤ h → f < F.length → S.2 44 (10 * j + f) = GG F E tg mx j f
theorem cg_of {S : fS} {h j f : Nat} (hT : tbC F E tg mx S h) (hj : j ≤ h) (h120 : h ≤ 120) (hf : f < F.length) (hm : F.length ≤ 10) : f_X1_gainOf (o3 j) (o3 f) S = some (GG F E tg mx j f) := by
  unfold f_X1_gainOf
  rw [if_neg (o3_nn (by omega)), if_pos (show o3 j ≤ (120 : Int32) from (o3_le (b := 120) (by omega) (by omega)).mpr (by omega)), show (10 : Int32) = o3 10 from rfl, o3_mul, o3_add, gL_o (by omega) (by omega), bd_some, show j * 10 + f = 10 * j + f by omega, hT j f hj hf]
theorem cg_stay {S : fS} {h f : Nat} (b1 : twC S 4 F E) (hT : tbC F E tg mx S h) (h120 : h + 1 ≤ 120) (hf : f < F.length) (hm : F.length ≤ 10) : f_X1_gainByStaying 4 (o3 (h + 1)) (o3 f) S = some (stv (GG F E tg mx h f) (pc (F.getD f (0, 0)))) := by
  unfold f_X1_gainByStaying stv
  rw [show (1 : Int32) = o3 1 from rfl, o3_sub (by omega), show h + 1 - 1 = h by omega, cg_of hT (Nat.le_refl _) (by omega) hf hm, bd_some, show gL S (4 + 1) 10 (o3 f) = _ from cf_p b1 hm hf, bd_some]
  split <;> rfl
theorem cg_stair {S : fS} {h f k : Nat} (b1 : twC S 4 F E) (hE : ∀ q ∈ E, okS F.length q) (hT : tbC F E tg mx S h) (h120 : h + 1 ≤ 120) (hf : f < F.length) (hm : F.length ≤ 10) (hl : E.length ≤ 12) (hk : k < E.length) : f_X1_gainByStair 4 (o3 (h + 1)) (o3 f) (o3 k) S = some (gsv E (GG F E tg mx) (h + 1) f k) := by
  obtain ⟨s1, s2, s3, s4, s5, s6⟩ := hE _ (gd_mem (d := d5) hk)
  obtain ⟨w1, w2, w3, w4⟩ := b1.2.2.2 k hk
  unfold f_X1_gainByStair gsv
  rw [ch_other b1 hE hm hl hk (by omega), bd_some, gI_o (by omega) (by omega), bd_some, w3]
  rcases oe_or (a := f) (hE _ (gd_mem (d := d5) hk)) hm with ⟨o, o1, o2, _⟩ | ⟨o2, _⟩
  · rw [o2, if_pos (o3_0le (by omega)), if_neg (o3_m1 (by omega)), o3_nat (by omega)]
    by_cases h2 : h + 1 < (E.getD k d5).2.2.1
    · have hneg : f_X1_gainOf (o3 (h + 1) - o3 (E.getD k d5).2.2.1) (o3 o) S = some (-1) := by
        unfold f_X1_gainOf
        rw [if_pos]
        rw [ni_lt, ni_sub (by rw [o3_int (by omega), o3_int (by omega)]; omega) (by rw [o3_int (by omega), o3_int (by omega)]; omega), o3_int (by omega), o3_int (by omega), ni_0]
        omega
      rw [hneg, bd_some, if_neg (by decide), if_pos h2]
    · rw [if_neg h2, o3_sub (by omega), cg_of hT (by omega) (by omega) o1 hm, bd_some, gL_o (by omega) (by omega), bd_some, w4, o6_of3 (by omega)]
      split <;> rfl
  · rw [o2, if_neg (by decide), if_neg (by decide), if_pos rfl]
/-- taken or left: the better one -/
theorem cg_pick {x y : Int64} {S : fS} {β : Type} {A : Int64 → Option β} : ((f_X1_isBetter x y mx S).bind fun q8 => if q8 = (0 : Int32) then A y else A x) = A (bt mx x y) := by
  unfold f_X1_isBetter bt
  by_cases h1 : x < 0
  · simp only [if_pos h1, bd_some, if_true]
  · simp only [if_neg h1]
    by_cases h2 : y < 0
    · rw [if_neg (show ¬ (0 : Int64) ≤ y by rw [nl_lt] at h2; rw [nl_le]; omega), bd_some, if_neg (by decide), if_pos h2]
    · rw [if_pos (show (0 : Int64) ≤ y by rw [nl_lt] at h2; rw [nl_le]; omega), if_neg h2]
      by_cases h3 : mx = 0
      · rw [if_pos h3, if_pos h3]
        by_cases h4 : y ≤ x
        · rw [if_pos h4, if_pos h4, bd_some, if_pos rfl]
        · rw [if_neg h4, if_neg h4, bd_some, if_neg (by decide)]
      · rw [if_neg h3, if_neg h3]
        by_cases h4 : x ≤ y
        · rw [if_pos h4, if_pos h4, bd_some, if_pos rfl]
        · rw [if_neg h4, if_neg h4, bd_some, if_neg (by decide)]
theorem cg_best {S : fS} {h f : Nat} (b1 : twC S 4 F E) (hE : ∀ q ∈ E, okS F.length q) (hT : tbC F E tg mx S h) (h120 : h + 1 ≤ 120) (hf : f < F.length) (hm : F.length ≤ 10) (hl : E.length ≤ 12) : f_X1_bestGain 4 (o3 (h + 1)) (o3 f) mx S = some (GG F E tg mx (h + 1) f) := by
  have key : ∀ d k nn x, k + d = E.length → d < nn → lp_X1_bestGain_12 4 (o3 (h + 1)) (o3 f) mx S (fun u12 => some u12) nn x (o3 k) = some (bs (gsv E (GG F E tg mx) (h + 1) f) mx d k x) := by
    intro d
    induction d with
    | zero =>
      intro k nn x hk hnn
      obtain ⟨nn, rfl⟩ : ∃ z, nn = z + 1 := ⟨nn - 1, by omega⟩
      rw [lp_X1_bestGain_12.eq_2, b1.2.1, if_pos ((o3_le (by omega) (by omega)).mpr (by omega))]
      rfl
    | succ d ih =>
      intro k nn x hk hnn
      obtain ⟨nn, rfl⟩ : ∃ z, nn = z + 1 := ⟨nn - 1, by omega⟩
      rw [lp_X1_bestGain_12.eq_2, b1.2.1, if_neg (fun q => by have := (o3_le (by omega) (by omega)).mp q; omega), cg_stair b1 hE hT h120 hf hm hl (by omega), bd_some, o3_s]
      refine (cg_pick (A := fun z => lp_X1_bestGain_12 4 (o3 (h + 1)) (o3 f) mx S (fun u12 => some u12) nn z (o3 (k + 1)))).trans ?_
      exact ih (k + 1) nn _ (by omega) (by omega)
  unfold f_X1_bestGain
  rw [cg_stay b1 hT h120 hf hm, bd_some, GG_s hE]
  exact key E.length 0 FU _ (by omega) (FU_lt (by omega))
end PC
end
section
/-! plan(): both tables, the answers -/
section PC2
variable {F : List (Nat × Nat)} {E : List St5} {tg : Nat} {mx : Int32}
def e44 (S T : fS) : Prop := T.1 = S.1 ∧ ∀ a k, a ≠ 44 → T.2 a k = S.2 a k
theorem e44.rf {S : fS} : e44 S S := ⟨rfl, fun _ _ _ => rfl⟩
theorem e44.tr {S T U : fS} (h : e44 S T) (g : e44 T U) : e44 S U := ⟨g.1.trans h.1, fun a k n => (g.2 a k n).trans (h.2 a k n)⟩
theorem e44_p {S : fS} {k : Nat} {x : Int64} : e44 S (pL S 44 k x) := ⟨rfl, fun a j h => pL_ne (by omega)⟩
theorem twC_44 {S T : fS} (h : twC S 4 F E) (e : e44 S T) : twC T 4 F E := twC_eq h (fun a k _ _ => by rw [e.1]) (fun a k _ _ => e.2 a k (by omega))
theorem me_3 {p3 p4 : Int32} (htg : tg < 2147483648) {K : fS → Option fS} : ∀ d k nn (S : fS), k + d = 10 → d < nn → (∀ j, j < k → S.2 44 j = if j = tg then 0 else -1) → ∃ T, lp_X1_measure_3 4 (o3 tg) p3 p4 K nn (o3 k) S = K T ∧ (∀ j, j < 10 → T.2 44 j = if j = tg then 0 else -1) ∧ e44 S T := by
  intro d
  induction d with
  | zero =>
    intro k nn S hk hnn hj
    obtain ⟨nn, rfl⟩ : ∃ z, nn = z + 1 := ⟨nn - 1, by omega⟩
    rw [lp_X1_measure_3.eq_2, if_pos (show (10 : Int32) ≤ o3 k from (o3_le (a := 10) (by omega) (by omega)).mpr (by omega))]
    exact ⟨S, rfl, fun j h => hj j (by omega), e44.rf⟩
  | succ d ih =>
    intro k nn S hk hnn hj
    obtain ⟨nn, rfl⟩ : ∃ z, nn = z + 1 := ⟨nn - 1, by omega⟩
    have key : ∀ x, x = (if k = tg then (0 : Int64) else -1) → ∃ T, lp_X1_measure_3 4 (o3 tg) p3 p4 K nn (o3 (k + 1)) (pL S 44 k x) = K T ∧ (∀ j, j < 10 → T.2 44 j = if j = tg then 0 else -1) ∧ e44 S T := fun x hx => by
      obtain ⟨T, t1, t2, t3⟩ := ih (k + 1) nn (pL S 44 k x) (by omega) (by omega) (fun j h => by
        by_cases e : j = k
        · subst e; rw [pL_eq, hx]
        · rw [pL_ne (by omega)]; exact hj j (by omega))
      exact ⟨T, t1, t2, e44_p.tr t3⟩
    rw [lp_X1_measure_3.eq_2, if_neg (show ¬ (10 : Int32) ≤ o3 k from fun q => by have := (o3_le (a := 10) (by omega) (by omega)).mp q; omega), sL_o (by omega) (by omega), sL_o (by omega) (by omega), bd_some, bd_some, o3_s]
    by_cases e : k = tg
    · rw [if_pos ((o3_inj (by omega) htg).mpr e)]
      exact key 0 (by rw [if_pos e])
    · rw [if_neg (fun q => e ((o3_inj (by omega) htg).mp q))]
      exact key (-1) (by rw [if_neg e])
theorem me_55 (hE : ∀ q ∈ E, okS F.length q) (hm : F.length ≤ 10) (hl : E.length ≤ 12) {p3 : Int32} {h : Nat} (h120 : h + 1 ≤ 120) {K : fS → Option fS} : ∀ d k nn (S : fS), k + d = F.length → d < nn → twC S 4 F E → tbC F E tg mx S h → (∀ f, f < k → S.2 44 (10 * (h + 1) + f) = GG F E tg mx (h + 1) f) → ∃ T, lp_X1_measure_55 4 p3 mx (o3 (h + 1)) K nn (o3 k) S = K T ∧ tbC F E tg mx T (h + 1) ∧ e44 S T := by
  intro d
  induction d with
  | zero =>
    intro k nn S hk hnn b1 hT hj
    obtain ⟨nn, rfl⟩ : ∃ z, nn = z + 1 := ⟨nn - 1, by omega⟩
    rw [lp_X1_measure_55.eq_2, b1.1, if_pos ((o3_le (by omega) (by omega)).mpr (by omega))]
    refine ⟨S, rfl, fun j f h1 h2 => ?_, e44.rf⟩
    by_cases e : j = h + 1
    · rw [e]; exact hj f (by omega)
    · exact hT j f (by omega) h2
  | succ d ih =>
    intro k nn S hk hnn b1 hT hj
    obtain ⟨nn, rfl⟩ : ∃ z, nn = z + 1 := ⟨nn - 1, by omega⟩
    rw [lp_X1_measure_55.eq_2, b1.1, if_neg (fun q => by have := (o3_le (by omega) (by omega)).mp q; omega), cg_best b1 hE hT h120 (by omega) hm hl, bd_some, show (10 : Int32) = o3 10 from rfl, o3_mul, o3_add, sL_o (by omega) (by omega), bd_some, o3_s]
    obtain ⟨T, t1, t2, t3⟩ := ih (k + 1) nn (pL S 44 ((h + 1) * 10 + k) (GG F E tg mx (h + 1) k)) (by omega) (by omega) (twC_44 b1 e44_p) (fun j f h1 h2 => by rw [pL_ne (by omega)]; exact hT j f h1 h2) (fun f hf => by
      by_cases e : f = k
      · subst e; rw [show 10 * (h + 1) + f = (h + 1) * 10 + f by omega, pL_eq]
      · rw [pL_ne (by omega)]; exact hj f (by omega))
    exact ⟨T, t1, t2, e44_p.tr t3⟩
theorem me_39 (hE : ∀ q ∈ E, okS F.length q) (hm : F.length ≤ 10) (hl : E.length ≤ 12) {n : Nat} (hn : n ≤ 120) {K : fS → Option fS} : ∀ d h nn (S : fS), h + d = n → d < nn → twC S 4 F E → tbC F E tg mx S h → ∃ T, lp_X1_measure_39 4 (o3 n) mx K nn (o3 (h + 1)) S = K T ∧ tbC F E tg mx T n ∧ e44 S T := by
  intro d
  induction d with
  | zero =>
    intro h nn S hk hnn b1 hT
    obtain ⟨nn, rfl⟩ : ∃ z, nn = z + 1 := ⟨nn - 1, by omega⟩
    rw [lp_X1_measure_39.eq_2, if_pos ((o3_lt (by omega) (by omega)).mpr (by omega))]
    rw [show h = n by omega] at hT
    exact ⟨S, rfl, hT, e44.rf⟩
  | succ d ih =>
    intro h nn S hk hnn b1 hT
    obtain ⟨nn, rfl⟩ : ∃ z, nn = z + 1 := ⟨nn - 1, by omega⟩
    rw [lp_X1_measure_39.eq_2, if_neg (fun q => by have := (o3_lt (by omega) (by omega)).mp q; omega), if_neg (show ¬ (120 : Int32) < o3 (h + 1) from fun q => by have := (o3_lt (a := 120) (by omega) (by omega)).mp q; omega)]
    obtain ⟨T1, a1, a2, a3⟩ := me_55 (p3 := o3 n) hE hm hl (h := h) (by omega) (K := fun S20 => lp_X1_measure_39 4 (o3 n) mx K nn (o3 (h + 1) + 1) S20) F.length 0 FU S (by omega) (FU_lt (by omega)) b1 hT (fun f hf => absurd hf (Nat.not_lt_zero _))
    obtain ⟨T, t1, t2, t3⟩ := ih (h + 1) nn T1 (by omega) (by omega) (twC_44 b1 a3) a2
    refine ⟨T, a1.trans ?_, t2, a3.tr t3⟩
    rw [o3_s]
    exact t1
theorem c_meas {S : fS} (b1 : twC S 4 F E) (hE : ∀ q ∈ E, okS F.length q) (hm : F.length ≤ 10) (hl : E.length ≤ 12) {n : Nat} (hn : n ≤ 120) (htg : tg < F.length) : ∃ T, f_X1_measure 4 (o3 tg) (o3 n) mx S = some T ∧ tbC F E tg mx T n ∧ e44 S T := by
  obtain ⟨T1, a1, a2, a3⟩ := me_3 (tg := tg) (p3 := o3 n) (p4 := mx) (by omega) (K := fun S9 => lp_X1_measure_39 4 (o3 n) mx (fun S22 => some S22) FU (1 : Int32) S9) 10 0 FU S (by omega) (FU_lt (by omega)) (fun j hj => absurd hj (Nat.not_lt_zero _))
  obtain ⟨T, t1, t2, t3⟩ := me_39 (tg := tg) (mx := mx) hE hm hl hn (K := fun S22 => some S22) n 0 FU T1 (by omega) (FU_lt (by omega)) (twC_44 b1 a3) (fun j f h1 h2 => by
    have : j = 0 := by omega
    subst this
    rw [show 10 * 0 + f = f by omega, a2 f (by omega), GG_0])
  exact ⟨T, a1.trans t1, t2, a3.tr t3⟩
end PC2
section PM2
variable {F : List (Nat × Nat)} {E : List St5} {tg : Nat} {mx : Int32} {n : Nat}
/-- the reference's table, whole from hour t on, of n hours -/
def tbM (F : List (Nat × Nat)) (E : List St5) (tg : Nat) (mx : Int32) (n : Nat) (S : fS) (t : Nat) : Prop := ∀ j f, t ≤ j → j ≤ n → f < F.length → S.2 162 (10 * j + f) = GG F E tg mx (n - j) f
def e162 (S T : fS) : Prop := T.1 = S.1 ∧ ∀ a k, a ≠ 162 → T.2 a k = S.2 a k
theorem e162.rf {S : fS} : e162 S S := ⟨rfl, fun _ _ _ => rfl⟩
theorem e162.tr {S T U : fS} (h : e162 S T) (g : e162 T U) : e162 S U := ⟨g.1.trans h.1, fun a k n => (g.2 a k n).trans (h.2 a k n)⟩
theorem e162_p {S : fS} {k : Nat} {x : Int64} : e162 S (pL S 162 k x) := ⟨rfl, fun a j h => pL_ne (by omega)⟩
theorem mg_stay {S : fS} {t f : Nat} (m1 : twM (S.1 157) F E) (hF : ∀ q ∈ F, okF q) (hT : tbM F E tg mx n S (t + 1)) (hn : n ≤ 120) (ht : t < n) (hf : f < F.length) (hm : F.length ≤ 10) : f_X11_by (o3 f) (o3 t) (-1) (o3 n) S = some (stv (GG F E tg mx (n - t - 1) f) (pc (F.getD f (0, 0)))) := by
  unfold f_X11_by stv
  rw [if_neg (show ¬ (0 : Int32) ≤ -1 by decide), if_neg (show ¬ (0 : Int32) ≤ -1 by decide), if_neg (o3_nn (by omega)), o3_s, if_neg (fun q => by have := (o3_lt (by omega) (by omega)).mp q; omega), show (10 : Int32) = o3 10 from rfl, o3_mul, o3_add, gL_o (by omega) (by omega), bd_some, hT (t + 1) f (Nat.le_refl _) (by omega) hf, show n - (t + 1) = n - t - 1 by omega, bd_some, if_neg (show ¬ (0 : Int32) ≤ -1 by decide), mp_floor m1 hF hm hf, bd_some, show Int32.toInt64 1 = (1 : Int64) from rfl, show (1 : Int64) * pc (F.getD f (0, 0)) = pc (F.getD f (0, 0)) from Int64.one_mul _]
  split <;> rfl
theorem mg_stair {S : fS} {t f k : Nat} (m1 : twM (S.1 157) F E) (hE : ∀ q ∈ E, okS F.length q) (hT : tbM F E tg mx n S (t + 1)) (hn : n ≤ 120) (ht : t < n) (hf : f < F.length) (hm : F.length ≤ 10) (hl : E.length ≤ 12) (hk : k < E.length) : f_X11_by (o3 f) (o3 t) (o3 k) (o3 n) S = some (gsv E (GG F E tg mx) (n - t) f k) := by
  obtain ⟨s1, s2, s3, s4, s5, s6⟩ := hE _ (gd_mem (d := d5) hk)
  obtain ⟨u1, u2, u3, u4, u5⟩ := mh_stair m1 hl hk
  have u3 : f_X11_stairOf (o3 k) 2 S = some (o3 (E.getD k d5).2.2.1) := u3
  unfold f_X11_by gsv
  rw [if_pos (o3_0le (by omega)), u3, bd_some, if_pos (o3_0le (by omega)), mh_other m1 hE hm hl hk (by omega), bd_some, o3_add]
  rcases oe_or (a := f) (hE _ (gd_mem (d := d5) hk)) hm with ⟨o, o1, o2, _⟩ | ⟨o2, _⟩
  · rw [o2, if_neg (o3_nn (by omega)), if_neg (o3_m1 (by omega)), o3_nat (by omega)]
    by_cases h2 : n - t < (E.getD k d5).2.2.1
    · rw [if_pos ((o3_lt (by omega) (by omega)).mpr (by omega)), if_pos h2]
    · rw [if_neg (fun q => by have := (o3_lt (by omega) (by omega)).mp q; omega), if_neg h2, show (10 : Int32) = o3 10 from rfl, o3_mul, o3_add, gL_o (by omega) (by omega), bd_some, hT _ _ (by omega) (by omega) o1, show n - (t + (E.getD k d5).2.2.1) = n - t - (E.getD k d5).2.2.1 by omega, bd_some, if_pos (o3_0le (by omega)), mp_stair m1 hE hl hk, bd_some, o6_of3 (by omega)]
      split <;> rfl
  · rw [o2, if_pos (by decide), if_pos rfl]
theorem mg_pick {x y : Int64} {S : fS} {β : Type} {A : Int64 → Option β} : (if x < (0 : Int64) then A y else ((f_X11_isBetter x y mx S).bind fun q9 => if q9 = (0 : Int32) then A y else A x)) = A (bt mx x y) := by
  unfold f_X11_isBetter bt
  by_cases h1 : x < 0
  · simp only [if_pos h1]
  · simp only [if_neg h1]
    by_cases h2 : y < 0
    · rw [if_pos h2, bd_some, if_neg (by decide), if_pos h2]
    · rw [if_neg h2, if_neg h2]
      by_cases h3 : mx = 0
      · rw [if_pos h3, if_pos h3]
        by_cases h4 : y ≤ x
        · rw [if_pos h4, if_pos h4, bd_some, if_pos rfl]
        · rw [if_neg h4, if_neg h4, bd_some, if_neg (by decide)]
      · rw [if_neg h3, if_neg h3]
        by_cases h4 : x ≤ y
        · rw [if_pos h4, if_pos h4, bd_some, if_pos rfl]
        · rw [if_neg h4, if_neg h4, bd_some, if_neg (by decide)]
theorem bt_m1 {x : Int64} (h : x < 0 → x = -1) : bt mx x (-1) = x := by
  unfold bt
  by_cases h1 : x < 0
  · rw [if_pos h1, h h1]
  · rw [if_neg h1, if_pos (by decide)]
theorem stv_m1 {g p : Int64} (hp : 0 ≤ g → ¬ g + p < 0) : stv g p < 0 → stv g p = -1 := by
  unfold stv
  split
  · intro h; rename_i hg; exact absurd h (hp hg)
  · intro _; rfl
theorem mg_best {S : fS} {t f : Nat} (m1 : twM (S.1 157) F E) (hF : ∀ q ∈ F, okF q) (hE : ∀ q ∈ E, okS F.length q) (hT : tbM F E tg mx n S (t + 1)) (hn : n ≤ 120) (ht : t < n) (hf : f < F.length) (hm : F.length ≤ 10) (hl : E.length ≤ 12) : f_X11_bestFrom (o3 f) (o3 t) (o3 n) mx S = some (GG F E tg mx (n - t) f) := by
  have hg1 : gI S 157 158 1 = some (o3 E.length) := (gI_o (k := 1) (by omega) (by omega)).trans (congrArg some m1.2.1)
  have key : ∀ d k nn x, k + d = E.length → d < nn → lp_X11_bestFrom_8 (o3 f) (o3 t) (o3 n) mx S (fun u13 => some u13) nn x (o3 k) = some (bs (gsv E (GG F E tg mx) (n - t) f) mx d k x) := by
    intro d
    induction d with
    | zero =>
      intro k nn x hk hnn
      obtain ⟨nn, rfl⟩ : ∃ z, nn = z + 1 := ⟨nn - 1, by omega⟩
      rw [lp_X11_bestFrom_8.eq_2, hg1, bd_some, if_pos ((o3_le (by omega) (by omega)).mpr (by omega))]
      rfl
    | succ d ih =>
      intro k nn x hk hnn
      obtain ⟨nn, rfl⟩ : ∃ z, nn = z + 1 := ⟨nn - 1, by omega⟩
      rw [lp_X11_bestFrom_8.eq_2, hg1, bd_some, if_neg (fun q => by have := (o3_le (by omega) (by omega)).mp q; omega), mg_stair m1 hE hT hn ht hf hm hl (by omega), bd_some, o3_s]
      refine (mg_pick (A := fun z => lp_X11_bestFrom_8 (o3 f) (o3 t) (o3 n) mx S (fun u13 => some u13) nn z (o3 (k + 1)))).trans ?_
      exact ih (k + 1) nn _ (by omega) (by omega)
  unfold f_X11_bestFrom
  obtain ⟨fu, hfu⟩ : ∃ z, FU = z + 1 := ⟨FU - 1, by have := FU_lt (d := 1) (by omega); omega⟩
  have hfu2 : E.length < fu := by have := FU_lt (d := E.length + 1) (by omega); omega
  rw [hfu, lp_X11_bestFrom_8.eq_2, hg1, bd_some, if_neg (show ¬ o3 E.length ≤ (-1 : Int32) from fun q => by have q := ni_le.mp q; rw [o3_int (by omega), show (-1 : Int32).toInt = -1 from rfl] at q; omega), mg_stay m1 hF hT hn ht hf hm, bd_some, show (-1 : Int32) + 1 = o3 0 from rfl]
  refine (mg_pick (A := fun z => lp_X11_bestFrom_8 (o3 f) (o3 t) (o3 n) mx S (fun u13 => some u13) fu z (o3 0))).trans ?_
  have hs : stv (GG F E tg mx (n - t - 1) f) (pc (F.getD f (0, 0))) < 0 → stv (GG F E tg mx (n - t - 1) f) (pc (F.getD f (0, 0))) = -1 := by
    refine stv_m1 (fun hg => ?_)
    have hp := pcn_le (hF _ (gd_mem (d := (0, 0)) hf))
    rcases GG_nb (tg := tg) (mx := mx) hF hE hm (n - t - 1) f (by omega) hf with e | ⟨g, e1, e2⟩
    · rw [e] at hg; exact absurd hg (by decide)
    · rw [e1, pc_o, o6_add]; exact o6_nn (by omega)
  rw [bt_m1 hs, key E.length 0 fu _ (by omega) hfu2]
  obtain ⟨h, e⟩ : ∃ h, n - t = h + 1 := ⟨n - t - 1, by omega⟩
  rw [e, GG_s hE, show h + 1 - 1 = h by omega]
end PM2
end
section
theorem bs_mem {v : Nat → Int64} {mx : Int32} : ∀ d k x, bs v mx d k x = x ∨ ∃ j, k ≤ j ∧ j < k + d ∧ bs v mx d k x = v j := by
  intro d
  induction d with
  | zero => intro k x; exact Or.inl rfl
  | succ d ih =>
    intro k x
    have e : bs v mx (d + 1) k x = bs v mx d (k + 1) (bt mx (v k) x) := rfl
    have hb : bt mx (v k) x = v k ∨ bt mx (v k) x = x := by
      unfold bt
      split
      · exact Or.inr rfl
      · split
        · exact Or.inl rfl
        · split
          · split
            · exact Or.inr rfl
            · exact Or.inl rfl
          · split
            · exact Or.inr rfl
            · exact Or.inl rfl
    rcases ih (k + 1) (bt mx (v k) x) with h | ⟨j, j1, j2, j3⟩
    · rcases hb with h' | h'
      · exact Or.inr ⟨k, Nat.le_refl _, by omega, by rw [e, h, h']⟩
      · exact Or.inl (by rw [e, h, h'])
    · exact Or.inr ⟨j, by omega, by omega, by rw [e, j3]⟩
/-- the first one of that worth -/
def pf (v : Nat → Int64) (q : Int64) : Nat → Nat → Option Nat
  | 0, _ => none
  | d + 1, k => if v k = q then some k else pf v q d (k + 1)
theorem pf_ex {v : Nat → Int64} {q : Int64} : ∀ d k, (∃ j, k ≤ j ∧ j < k + d ∧ v j = q) → ∃ j, pf v q d k = some j ∧ j < k + d := by
  intro d
  induction d with
  | zero => intro k ⟨j, h1, h2, _⟩; omega
  | succ d ih =>
    intro k ⟨j, h1, h2, h3⟩
    have e : pf v q (d + 1) k = if v k = q then some k else pf v q d (k + 1) := rfl
    rw [e]
    by_cases h : v k = q
    · rw [if_pos h]; exact ⟨k, rfl, by omega⟩
    · rw [if_neg h]
      have : j ≠ k := fun z => h (z ▸ h3)
      obtain ⟨i, i1, i2⟩ := ih (k + 1) ⟨j, by omega, by omega, h3⟩
      exact ⟨i, i1, by omega⟩
section PM3
variable {F : List (Nat × Nat)} {E : List St5} {tg : Nat} {mx : Int32} {n : Nat}
theorem pn_57 {p1 p4 p5 : Int32} (htg : tg < 2147483648) (hn : n ≤ 120) {K : fS → Option (Int64 × fS)} : ∀ d k nn (S : fS), k + d = 10 → d < nn → (∀ j, j < k → S.2 162 (10 * n + j) = if j = tg then 0 else -1) → ∃ T, lp_X11_plan_57 p1 (o3 tg) (o3 n) p4 p5 K nn (o3 k) S = K T ∧ (∀ j, j < 10 → T.2 162 (10 * n + j) = if j = tg then 0 else -1) ∧ e162 S T := by
  intro d
  induction d with
  | zero =>
    intro k nn S hk hnn hj
    obtain ⟨nn, rfl⟩ : ∃ z, nn = z + 1 := ⟨nn - 1, by omega⟩
    rw [lp_X11_plan_57.eq_2, if_pos (show (10 : Int32) ≤ o3 k from (o3_le (a := 10) (by omega) (by omega)).mpr (by omega))]
    exact ⟨S, rfl, fun j h => hj j (by omega), e162.rf⟩
  | succ d ih =>
    intro k nn S hk hnn hj
    obtain ⟨nn, rfl⟩ : ∃ z, nn = z + 1 := ⟨nn - 1, by omega⟩
    have key : ∀ x, x = (if k = tg then (0 : Int64) else -1) → ∃ T, lp_X11_plan_57 p1 (o3 tg) (o3 n) p4 p5 K nn (o3 (k + 1)) (pL S 162 (10 * n + k) x) = K T ∧ (∀ j, j < 10 → T.2 162 (10 * n + j) = if j = tg then 0 else -1) ∧ e162 S T := fun x hx => by
      obtain ⟨T, t1, t2, t3⟩ := ih (k + 1) nn (pL S 162 (10 * n + k) x) (by omega) (by omega) (fun j h => by
        by_cases e : j = k
        · subst e; rw [pL_eq, hx]
        · rw [pL_ne (by omega)]; exact hj j (by omega))
      exact ⟨T, t1, t2, e162_p.tr t3⟩
    rw [lp_X11_plan_57.eq_2, if_neg (show ¬ (10 : Int32) ≤ o3 k from fun q => by have := (o3_le (a := 10) (by omega) (by omega)).mp q; omega), show (10 : Int32) = o3 10 from rfl, o3_mul, o3_add, sL_o (by omega) (by omega), sL_o (by omega) (by omega), bd_some, bd_some, o3_s]
    by_cases e : k = tg
    · rw [if_pos ((o3_inj (by omega) htg).mpr e)]
      exact key 0 (by rw [if_pos e])
    · rw [if_neg (fun q => e ((o3_inj (by omega) htg).mp q))]
      exact key (-1) (by rw [if_neg e])
theorem tbM_s {S : fS} {t : Nat} (hT : tbM F E tg mx n S (t + 1)) (hj : ∀ f, f < F.length → S.2 162 (10 * t + f) = GG F E tg mx (n - t) f) : tbM F E tg mx n S t := fun j f h1 h2 h3 => by
  by_cases e : j = t
  · rw [e]; exact hj f h3
  · exact hT j f (by omega) h2 h3
theorem pn_108 {p1 p5 : Int32} (hF : ∀ q ∈ F, okF q) (hE : ∀ q ∈ E, okS F.length q) (hm : F.length ≤ 10) (hl : E.length ≤ 12) (hn : n ≤ 120) {t : Nat} (ht : t < n) {K : fS → Option (Int64 × fS)} : ∀ d k nn (S : fS), k + d = F.length → d < nn → twM (S.1 157) F E → tbM F E tg mx n S (t + 1) → (∀ f, f < k → S.2 162 (10 * t + f) = GG F E tg mx (n - t) f) → ∃ T, lp_X11_plan_108 p1 (o3 n) mx p5 (o3 t) K nn (o3 k) S = K T ∧ tbM F E tg mx n T t ∧ e162 S T := by
  intro d
  induction d with
  | zero =>
    intro k nn S hk hnn m1 hT hj
    obtain ⟨nn, rfl⟩ : ∃ z, nn = z + 1 := ⟨nn - 1, by omega⟩
    rw [lp_X11_plan_108.eq_2, show gI S 157 158 0 = some (o3 F.length) from (gI_o (k := 0) (by omega) (by omega)).trans (congrArg some m1.1), bd_some, if_pos ((o3_le (by omega) (by omega)).mpr (by omega))]
    exact ⟨S, rfl, tbM_s hT (fun f hf => hj f (by omega)), e162.rf⟩
  | succ d ih =>
    intro k nn S hk hnn m1 hT hj
    obtain ⟨nn, rfl⟩ : ∃ z, nn = z + 1 := ⟨nn - 1, by omega⟩
    rw [lp_X11_plan_108.eq_2, show gI S 157 158 0 = some (o3 F.length) from (gI_o (k := 0) (by omega) (by omega)).trans (congrArg some m1.1), bd_some, if_neg (fun q => by have := (o3_le (by omega) (by omega)).mp q; omega), mg_best m1 hF hE hT hn ht (by omega) hm hl, bd_some, show (10 : Int32) = o3 10 from rfl, o3_mul, o3_add, sL_o (by omega) (by omega), bd_some, o3_s]
    obtain ⟨T, t1, t2, t3⟩ := ih (k + 1) nn (pL S 162 (10 * t + k) (GG F E tg mx (n - t) k)) (by omega) (by omega) m1 (fun j f h1 h2 h3 => by rw [pL_ne (by omega)]; exact hT j f h1 h2 h3) (fun f hf => by
      by_cases e : f = k
      · subst e; rw [pL_eq]
      · rw [pL_ne (by omega)]; exact hj f (by omega))
    exact ⟨T, t1, t2, e162_p.tr t3⟩
theorem pn_100 {p1 p5 : Int32} (hF : ∀ q ∈ F, okF q) (hE : ∀ q ∈ E, okS F.length q) (hm : F.length ≤ 10) (hl : E.length ≤ 12) (hn : n ≤ 120) {K : fS → Option (Int64 × fS)} : ∀ t nn (S : fS), t ≤ n → t < nn → twM (S.1 157) F E → tbM F E tg mx n S t → ∃ T, lp_X11_plan_100 p1 (o3 n) mx p5 K nn (o3 t - 1) S = K T ∧ tbM F E tg mx n T 0 ∧ e162 S T := by
  intro t
  induction t with
  | zero =>
    intro nn S htn hnn m1 hT
    obtain ⟨nn, rfl⟩ : ∃ z, nn = z + 1 := ⟨nn - 1, by omega⟩
    rw [lp_X11_plan_100.eq_2, if_pos (show o3 0 - 1 < (0 : Int32) by decide)]
    exact ⟨S, rfl, hT, e162.rf⟩
  | succ t ih =>
    intro nn S htn hnn m1 hT
    obtain ⟨nn, rfl⟩ : ∃ z, nn = z + 1 := ⟨nn - 1, by omega⟩
    rw [lp_X11_plan_100.eq_2, show o3 (t + 1) - 1 = o3 t from by rw [show (1 : Int32) = o3 1 from rfl, o3_sub (by omega)]; rfl, if_neg (o3_nn (by omega))]
    obtain ⟨T1, a1, a2, a3⟩ := pn_108 (tg := tg) (mx := mx) (p1 := p1) (p5 := p5) hF hE hm hl hn (t := t) (by omega) (K := fun S42 => lp_X11_plan_100 p1 (o3 n) mx p5 K nn (o3 t + (-1 : Int32)) S42) F.length 0 FU S (by omega) (FU_lt (by omega)) m1 hT (fun f hf => absurd hf (Nat.not_lt_zero _))
    obtain ⟨T, t1, t2, t3⟩ := ih nn T1 (by omega) (by omega) (by rw [a3.1]; exact m1) a2
    refine ⟨T, a1.trans ?_, t2, a3.tr t3⟩
    rw [show o3 t + (-1 : Int32) = o3 t - 1 from (Int32.sub_eq_add_neg _ _).symm]
    exact t1
theorem pn_218 {K : Int32 → fS → Option (Int64 × fS)} {S : fS} {f : Nat} {q : Int64} {i : Nat} (hby : ∀ k, k < E.length → f_X11_by (o3 f) 0 (o3 k) (o3 n) S = some (gsv E (GG F E tg mx) n f k)) : ∀ d k nn, k + d ≤ E.length → d < nn → pf (gsv E (GG F E tg mx) n f) q d k = some i → lp_X11_plan_218 (o3 n) (o3 f) q K nn (o3 k) S = K (o3 i) S := by
  intro d
  induction d with
  | zero => intro k nn _ _ h; exact nomatch h
  | succ d ih =>
    intro k nn hk hnn h
    obtain ⟨nn, rfl⟩ : ∃ z, nn = z + 1 := ⟨nn - 1, by omega⟩
    have e : pf (gsv E (GG F E tg mx) n f) q (d + 1) k = if gsv E (GG F E tg mx) n f k = q then some k else pf (gsv E (GG F E tg mx) n f) q d (k + 1) := rfl
    rw [e] at h
    rw [lp_X11_plan_218.eq_2, hby k (by omega), bd_some, o3_s]
    by_cases z : gsv E (GG F E tg mx) n f k = q
    · rw [if_pos z] at h ⊢
      obtain rfl := Option.some.inj h
      rfl
    · rw [if_neg z] at h ⊢
      exact ih (k + 1) nn (by omega) (by omega) h
theorem cf_34 {S : fS} {f : Nat} {q : Int64} {i : Nat} (hE2 : S.1 4 7 = o3 E.length) (hl : E.length ≤ 12) (hby : ∀ k, k < E.length → f_X1_gainByStair 4 (o3 n) (o3 f) (o3 k) S = some (gsv E (GG F E tg mx) n f k)) : ∀ d k nn, k + d ≤ E.length → d < nn → pf (gsv E (GG F E tg mx) n f) q d k = some i → lp_X1_firstStep_34 4 (o3 n) (o3 f) q S (fun _ => some (-2)) nn (o3 k) = some (o3 i) := by
  intro d
  induction d with
  | zero => intro k nn _ _ h; exact nomatch h
  | succ d ih =>
    intro k nn hk hnn h
    obtain ⟨nn, rfl⟩ : ∃ z, nn = z + 1 := ⟨nn - 1, by omega⟩
    have e : pf (gsv E (GG F E tg mx) n f) q (d + 1) k = if gsv E (GG F E tg mx) n f k = q then some k else pf (gsv E (GG F E tg mx) n f) q d (k + 1) := rfl
    rw [e] at h
    rw [lp_X1_firstStep_34.eq_2, hE2, if_neg (fun q => by have := (o3_le (by omega) (by omega)).mp q; omega), hby k (by omega), bd_some, o3_s]
    by_cases z : gsv E (GG F E tg mx) n f k = q
    · rw [if_pos z] at h ⊢
      obtain rfl := Option.some.inj h
      rfl
    · rw [if_neg z] at h ⊢
      exact ih (k + 1) nn (by omega) (by omega) h
end PM3
/-- what measuring leaves alike -/
theorem meas_rel {S S1 S2 : fS} (hR : Rel S) (e1 : e44 S S1) (e2 : e162 S1 S2) : Rel S2 := by
  obtain ⟨n, s, L, M, hT, hS, hL, hM⟩ := hR
  have k1 : ∀ a k, S2.1 a k = S.1 a k := fun a k => by rw [e2.1, e1.1]
  have k2 : ∀ a k, a ≠ 44 → a ≠ 162 → S2.2 a k = S.2 a k := fun a k x y => (e2.2 a k y).trans (e1.2 a k x)
  refine ⟨n, s, L, M, ?_, ?_, ?_, ?_⟩
  · exact rTp_eq hT (k1 _ _) (k1 _ _) (fun k => k1 _ _) (fun k => k1 _ _)
  · exact rSc_eq hS (fun a k _ _ => k1 a k) (fun a k _ _ => k2 a k (by omega) (by omega)) (by rw [k1 3 3]; exact hS.2.1.2.2.2.2) (fun k => k1 _ _) (fun a k _ => k2 a k (by omega) (by omega))
  · exact rRu_eq hL (k1 _ _) (k1 _ _) (fun a k _ _ _ => k1 a k) (fun a k _ => k1 a k)
  · exact rIm_eq hM (fun a k _ _ => k1 a k) (fun a k _ _ => k2 a k (by omega) (by omega)) (fun k => k1 _ _) (fun k => k2 _ k (by omega) (by omega)) (fun k => k1 _ _)
theorem t_16 (a1 a2 a3 a4 a5 : Int32) (S : fS) (hR : Rel S) : ∃ r S1 S2, f_X10_plan a1 a2 a3 a4 a5 S = some (r, S1) ∧ f_X11_plan a1 a2 a3 a4 a5 S1 = some (r, S2) ∧ Rel S2 := by
  have hR0 := hR
  obtain ⟨n', s, L, M, hT, ⟨⟨n1, n2, n3, n4, n5, n6⟩, ⟨b1, b2, b3, b4, b5⟩, ⟨m1, m2, m3, m4⟩, d⟩, hL, hM⟩ := hR
  have h8 := n5.1
  have i1 : f_X10_isFrom a3 0 120 S = some (if ((0 : Nat) : Int) ≤ a3.toInt ∧ a3.toInt ≤ ((120 : Nat) : Int) then 1 else 0) := from_c (a := 0) (b := 120) (by omega) (by omega)
  have i2 : f_X10_isFrom a5 0 2 S = some (if ((0 : Nat) : Int) ≤ a5.toInt ∧ a5.toInt ≤ ((2 : Nat) : Int) then 1 else 0) := from_c (a := 0) (b := 2) (by omega) (by omega)
  have j1 : ∀ T : fS, f_X11_in (Int32.toInt64 a3) 0 120 T = some (if ((0 : Nat) : Int) ≤ a3.toInt ∧ a3.toInt ≤ ((120 : Nat) : Int) then 1 else 0) := fun T => in_c (a := 0) (b := 120) (by omega) (by omega)
  have j2 : ∀ T : fS, f_X11_in (Int32.toInt64 a5) 0 2 T = some (if ((0 : Nat) : Int) ≤ a5.toInt ∧ a5.toInt ≤ ((2 : Nat) : Int) then 1 else 0) := fun T => in_c (a := 0) (b := 2) (by omega) (by omega)
  have no : f_X10_plan a1 a2 a3 a4 a5 S = some (-1, S) → f_X11_plan a1 a2 a3 a4 a5 S = some (-1, S) → ∃ r S1 S2, f_X10_plan a1 a2 a3 a4 a5 S = some (r, S1) ∧ f_X11_plan a1 a2 a3 a4 a5 S1 = some (r, S2) ∧ Rel S2 := fun h g => ⟨-1, S, S, h, g, hR0⟩
  by_cases h1 : ¬ (0 ≤ a1.toInt ∧ a1.toInt < s.2.2.1.1)
  · refine no ?_ ?_
    · unfold f_X10_plan f_X10_isStanding; rw [ci_thing b3.1 (by omega), bd_some, if_neg h1, if_pos rfl, bd_some, if_pos rfl]
    · unfold f_X11_plan; rw [mi_thing m2.1 (by omega), bd_some, if_neg h1, if_pos rfl]
  have h1 := Decidable.not_not.mp h1
  obtain ⟨th, e1, e2⟩ := o3_ex h1.1
  have hth : th < s.2.2.1.1 := by omega
  have cStand : f_X10_isStanding (o3 th) S = some (if s.2.2.1.2.2.1 th < 0 then 0 else 1) := by
    unfold f_X10_isStanding f_X0_isStanding
    rw [ci_thing b3.1 (by omega), bd_some, ← e1, if_pos h1, if_neg (show ¬ (1 : Int32) = 0 by decide), e1, gI_o (by omega) (by omega), bd_some, show S.1 (11 + 1) th = _ from (b3.2.2 th hth).1]
    by_cases z : s.2.2.1.2.2.1 th < 0
    · rw [if_pos z, if_pos z, bd_some, if_pos rfl]
    · rw [if_neg z, if_neg z, bd_some, if_neg (by decide)]
  have mTh : ∀ T : fS, T.1 = S.1 → f_X11_thingOf (o3 th) 0 T = some (s.2.2.1.2.2.1 th) := fun T hTT => (mw_thing (a := 0) (by omega) (by omega)).trans (congrArg some (by rw [hTT]; exact (m2.2.2 th hth).1))
  have mIs : ∀ T : fS, T.1 = S.1 → f_X11_isThing (o3 th) T = some 1 := fun T hTT => by rw [mi_thing (m := s.2.2.1.1) (by rw [hTT]; exact m2.1) (by omega), ← e1, if_pos h1]
  by_cases h0 : s.2.2.1.2.2.1 th < 0
  · refine no ?_ ?_
    · unfold f_X10_plan; rw [e1, cStand, if_pos h0, bd_some, if_pos rfl]
    · unfold f_X11_plan; rw [e1, mIs S rfl, bd_some, if_neg (show ¬ (1 : Int32) = 0 by decide), mTh S rfl, bd_some, if_pos h0]
  obtain ⟨f, f1, f2⟩ := okT_nn (n5.2.2 th hth).1 n1 h0
  by_cases h2 : ¬ (0 ≤ a2.toInt ∧ a2.toInt < s.1.length)
  · refine no ?_ ?_
    · unfold f_X10_plan; rw [e1, cStand, if_neg h0, bd_some, if_neg (show ¬ (1 : Int32) = 0 by decide), ci_floor b1.1 (by omega), bd_some, if_neg h2, if_pos rfl]
    · unfold f_X11_plan; rw [e1, mIs S rfl, bd_some, if_neg (show ¬ (1 : Int32) = 0 by decide), mTh S rfl, bd_some, if_neg h0, mi_floor m1.1 (by omega), bd_some, if_neg h2, if_pos rfl]
  have h2 := Decidable.not_not.mp h2
  by_cases h3 : ¬ (((0 : Nat) : Int) ≤ a3.toInt ∧ a3.toInt ≤ ((120 : Nat) : Int))
  · refine no ?_ ?_
    · unfold f_X10_plan; rw [e1, cStand, if_neg h0, bd_some, if_neg (show ¬ (1 : Int32) = 0 by decide), ci_floor b1.1 (by omega), bd_some, if_pos h2, if_neg (show ¬ (1 : Int32) = 0 by decide), i1, bd_some, if_neg h3, if_pos rfl]
    · unfold f_X11_plan; rw [e1, mIs S rfl, bd_some, if_neg (show ¬ (1 : Int32) = 0 by decide), mTh S rfl, bd_some, if_neg h0, mi_floor m1.1 (by omega), bd_some, if_pos h2, if_neg (show ¬ (1 : Int32) = 0 by decide), j1, bd_some, if_neg h3, if_pos rfl]
  have h3 := Decidable.not_not.mp h3
  by_cases h5 : ¬ (((0 : Nat) : Int) ≤ a5.toInt ∧ a5.toInt ≤ ((2 : Nat) : Int))
  · refine no ?_ ?_
    · unfold f_X10_plan; rw [e1, cStand, if_neg h0, bd_some, if_neg (show ¬ (1 : Int32) = 0 by decide), ci_floor b1.1 (by omega), bd_some, if_pos h2, if_neg (show ¬ (1 : Int32) = 0 by decide), i1, bd_some, if_pos h3, if_neg (show ¬ (1 : Int32) = 0 by decide), i2, bd_some, if_neg h5, if_pos rfl]
    · unfold f_X11_plan; rw [e1, mIs S rfl, bd_some, if_neg (show ¬ (1 : Int32) = 0 by decide), mTh S rfl, bd_some, if_neg h0, mi_floor m1.1 (by omega), bd_some, if_pos h2, if_neg (show ¬ (1 : Int32) = 0 by decide), j1, bd_some, if_pos h3, if_neg (show ¬ (1 : Int32) = 0 by decide), j2, bd_some, if_neg h5, if_pos rfl]
  have h5 := Decidable.not_not.mp h5
  obtain ⟨tg, e3, e4⟩ := o3_ex h2.1
  have htg : tg < s.1.length := by omega
  obtain ⟨n, e5, e6⟩ := o3_ex (x := a3) (by omega)
  have hn : n ≤ 120 := by omega
  obtain ⟨S1, c1, c2, c3⟩ := c_meas (mx := a4) b1 n4 n1 n2 hn htg
  obtain ⟨ag, g1, g2⟩ := age_o n5 hth
  have hnb := GG_nb (tg := tg) (mx := a4) n3 n4 n1 n f hn f1
  have gc : gL S1 16 8 (o3 th) = some (o6 ag) := (gL_o (by omega) (by omega)).trans (congrArg some ((c3.2 16 th (by omega)).trans (((b3.2.2 th hth).2.2.2.2).trans g1)))
  /- the reference's table -/
  have mtab : ∀ K : fS → Option (Int64 × fS), ∃ T, lp_X11_plan_57 (o3 th) (o3 tg) (o3 n) a4 a5 (fun S29 => lp_X11_plan_100 (o3 th) (o3 n) a4 a5 K FU (o3 n - (1 : Int32)) S29) FU (0 : Int32) S1 = K T ∧ tbM s.1 s.2.1 tg a4 n T 0 ∧ e162 S1 T := fun K => by
    obtain ⟨T1, t1, t2, t3⟩ := pn_57 (tg := tg) (n := n) (p1 := o3 th) (p4 := a4) (p5 := a5) (by omega) hn (K := fun S29 => lp_X11_plan_100 (o3 th) (o3 n) a4 a5 K FU (o3 n - (1 : Int32)) S29) 10 0 FU S1 (by omega) (FU_lt (by omega)) (fun j hj => absurd hj (Nat.not_lt_zero _))
    obtain ⟨T, u1, u2, u3⟩ := pn_100 (F := s.1) (E := s.2.1) (tg := tg) (mx := a4) (n := n) (p1 := o3 th) (p5 := a5) n3 n4 n1 n2 hn (K := K) n FU T1 (Nat.le_refl _) (FU_lt (by omega)) (by rw [t3.1, c3.1]; exact m1) (fun j g h1 h2 h3 => by
      have : j = n := by omega
      subst this
      rw [t2 g (by omega), Nat.sub_self, GG_0])
    exact ⟨T, t1.trans u1, u2, t3.tr u3⟩
  have mPre : ∀ K' : fS → Option (Int64 × fS), K' = (fun S44 => (f_X11_thingOf (o3 th) (0 : Int32) S44).bind fun q46 =>
  (gL S44 162 1210 q46).bind fun a49 =>
  if (0 : Int64) ≤ a49 then (if (2 : Int32) ≤ a5 then (if o3 n = (0 : Int32) then (some ((-4 : Int64), S44)) else
  (lp_X11_plan_218 (o3 n) q46 a49 (fun u59 S60 => if (0 : Int32) ≤ u59 then (some ((Int32.toInt64 u59), S60)) else
  (some ((-3 : Int64), S60))) FU (-1 : Int32) S44)) else
  ((gL S44 158 8 (o3 th)).bind fun a63 =>
  (f_X11_lowest (a63 + a49) (232792560 : Int64) a5 S44).bind fun q66 =>
  some (q66, S44))) else
  (some ((-2 : Int64), S44))) → f_X11_plan a1 a2 a3 a4 a5 S1 = lp_X11_plan_57 (o3 th) (o3 tg) (o3 n) a4 a5 (fun S29 => lp_X11_plan_100 (o3 th) (o3 n) a4 a5 K' FU (o3 n - (1 : Int32)) S29) FU (0 : Int32) S1 := fun K' hK => by
    subst hK
    unfold f_X11_plan
    rw [e1, mIs S1 c3.1, bd_some, if_neg (show ¬ (1 : Int32) = 0 by decide), mTh S1 c3.1, bd_some, if_neg h0, mi_floor (m := s.1.length) (by rw [c3.1]; exact m1.1) (by omega), bd_some, if_pos h2, if_neg (show ¬ (1 : Int32) = 0 by decide), j1, bd_some, if_pos h3, if_neg (show ¬ (1 : Int32) = 0 by decide), j2, bd_some, if_pos h5, if_neg (show ¬ (1 : Int32) = 0 by decide), e3, e5]
  obtain ⟨S2, t1, t2, t3⟩ := mtab _
  have mFin := (mPre _ rfl).trans t1
  clear mPre mtab
  have e157 : S2.1 = S.1 := t3.1.trans c3.1
  have g162 : gL S2 162 1210 (o3 f) = some (GG s.1 s.2.1 tg a4 n f) := by
    have := t2 0 f (by omega) (by omega) f1
    rw [show 10 * 0 + f = f by omega, Nat.sub_zero] at this
    exact (gL_o (by omega) (by omega)).trans (congrArg some this)
  have gm : gL S2 158 8 (o3 th) = some (o6 ag) := (gL_o (by omega) (by omega)).trans (congrArg some ((t3.2 158 th (by omega)).trans ((c3.2 158 th (by omega)).trans (((m2.2.2 th hth).2.2.2.2).trans g1))))
  rw [mTh S2 e157, bd_some, f2, g162, bd_some] at mFin
  have hrel := meas_rel hR0 c3 t3
  have cFin : f_X10_plan a1 a2 a3 a4 a5 S = (if (0 : Int64) ≤ GG s.1 s.2.1 tg a4 n f then (if a5 = (2 : Int32) then ((f_X1_firstStep 4 (o3 n) (o3 f) S1).bind fun q34 => some ((Int32.toInt64 q34), S1)) else ((gL S1 16 8 (o3 th)).bind fun a28 => (f_X10_lowest (a28 + GG s.1 s.2.1 tg a4 n f) (232792560 : Int64) a5 S1).bind fun q31 => some (q31, S1))) else (some ((-2 : Int64), S1))) := by
    unfold f_X10_plan
    rw [e1, cStand, if_neg h0, bd_some, if_neg (show ¬ (1 : Int32) = 0 by decide), ci_floor b1.1 (by omega), bd_some, if_pos h2, if_neg (show ¬ (1 : Int32) = 0 by decide), i1, bd_some, if_pos h3, if_neg (show ¬ (1 : Int32) = 0 by decide), i2, bd_some, if_pos h5, if_neg (show ¬ (1 : Int32) = 0 by decide), gI_o (by omega) (by omega), bd_some, show S.1 12 th = s.2.2.1.2.2.1 th from (b3.2.2 th hth).1, f2, e3, e5, c1, bd_some, cg_of c2 (Nat.le_refl _) hn f1 n1, bd_some]
  rw [cFin]
  rcases hnb with e | ⟨g, q1, q2⟩
  · rw [e] at mFin ⊢
    rw [if_neg (show ¬ (0 : Int64) ≤ -1 by decide)] at mFin ⊢
    exact ⟨-2, S1, S2, rfl, mFin, hrel⟩
  · have hpos : (0 : Int64) ≤ GG s.1 s.2.1 tg a4 n f := by rw [q1]; exact o6_0le (by omega)
    rw [if_pos hpos] at mFin ⊢
    by_cases z2 : a5 = 2
    · rw [if_pos (show (2 : Int32) ≤ a5 by rw [z2]; decide)] at mFin
      rw [if_pos z2]
      unfold f_X1_firstStep
      by_cases zn : n = 0
      · rw [if_pos (show o3 n = (0 : Int32) by rw [zn]; rfl)] at mFin ⊢
        exact ⟨_, S1, S2, rfl, mFin, hrel⟩
      · have zn' : ¬ o3 n = (0 : Int32) := fun q => zn ((o3_inj (b := 0) (by omega) (by omega)).mp q)
        rw [if_neg zn'] at mFin ⊢
        obtain ⟨h, hh⟩ : ∃ h, n = h + 1 := ⟨n - 1, by omega⟩
        have b1' : twC S1 4 s.1 s.2.1 := twC_44 b1 c3
        have c2' : tbC s.1 s.2.1 tg a4 S1 h := fun j g h1 h2 => c2 j g (by omega) h2
        have hT' : tbM s.1 s.2.1 tg a4 n S2 (0 + 1) := fun j g h1 h2 h3 => t2 j g (by omega) h2 h3
        have m1' : twM (S2.1 157) s.1 s.2.1 := by rw [e157]; exact m1
        obtain ⟨fu, hfu⟩ : ∃ z, FU = z + 1 := ⟨FU - 1, by have := FU_lt (d := 1) (by omega); omega⟩
        have hfu2 : s.2.1.length < fu := by have := FU_lt (d := s.2.1.length + 1) (by omega); omega
        have hst : stv (GG s.1 s.2.1 tg a4 (n - 0 - 1) f) (pc (s.1.getD f (0, 0))) = stv (GG s.1 s.2.1 tg a4 h f) (pc (s.1.getD f (0, 0))) := by rw [show n - 0 - 1 = h by omega]
        have mby : f_X11_by (o3 f) 0 (-1) (o3 n) S2 = some (stv (GG s.1 s.2.1 tg a4 h f) (pc (s.1.getD f (0, 0)))) := (mg_stay (t := 0) m1' n3 hT' hn (by omega) f1 n1).trans (congrArg some hst)
        rw [hfu, lp_X11_plan_218.eq_2, mby, bd_some] at mFin
        rw [cg_of c2 (Nat.le_refl _) hn f1 n1, bd_some]
        have hcs : f_X1_gainByStaying 4 (o3 n) (o3 f) S1 = some (stv (GG s.1 s.2.1 tg a4 h f) (pc (s.1.getD f (0, 0)))) := by rw [hh]; exact cg_stay b1' c2' (by omega) f1 n1
        rw [hcs, bd_some]
        by_cases zs : stv (GG s.1 s.2.1 tg a4 h f) (pc (s.1.getD f (0, 0))) = GG s.1 s.2.1 tg a4 n f
        · rw [if_pos zs] at mFin ⊢
          rw [if_neg (show ¬ (0 : Int32) ≤ -1 by decide)] at mFin
          exact ⟨_, S1, S2, rfl, mFin, hrel⟩
        · rw [if_neg zs] at mFin ⊢
          rw [show (-1 : Int32) + 1 = o3 0 from rfl] at mFin
          have hmem : ∃ j, 0 ≤ j ∧ j < 0 + s.2.1.length ∧ gsv s.2.1 (GG s.1 s.2.1 tg a4) n f j = GG s.1 s.2.1 tg a4 n f := by
            have hg : GG s.1 s.2.1 tg a4 n f = bs (gsv s.2.1 (GG s.1 s.2.1 tg a4) n f) a4 s.2.1.length 0 (stv (GG s.1 s.2.1 tg a4 h f) (pc (s.1.getD f (0, 0)))) := by rw [hh]; exact GG_s n4
            rcases bs_mem (v := gsv s.2.1 (GG s.1 s.2.1 tg a4) n f) (mx := a4) s.2.1.length 0 (stv (GG s.1 s.2.1 tg a4 h f) (pc (s.1.getD f (0, 0)))) with w | ⟨j, w1, w2, w3⟩
            · exact absurd (w.symm.trans hg.symm) zs
            · exact ⟨j, w1, w2, by rw [hg]; exact w3.symm⟩
          obtain ⟨i, p1, p2⟩ := pf_ex s.2.1.length 0 hmem
          have hc34 : lp_X1_firstStep_34 4 (o3 n) (o3 f) (GG s.1 s.2.1 tg a4 n f) S1 (fun _ => some (-2)) FU (0 : Int32) = some (o3 i) := cf_34 (F := s.1) (E := s.2.1) (tg := tg) (mx := a4) b1'.2.1 n2 (fun k hk => by rw [hh]; exact cg_stair b1' n4 c2' (by omega) f1 n1 n2 hk) s.2.1.length 0 FU (by omega) (FU_lt (by omega)) p1
          rw [hc34, bd_some]
          rw [pn_218 (F := s.1) (E := s.2.1) (tg := tg) (mx := a4) (n := n) (S := S2) (f := f) (q := GG s.1 s.2.1 tg a4 n f) (i := i) (fun k hk => (mg_stair (t := 0) m1' n4 hT' hn (by omega) f1 n1 n2 hk).trans (by rw [Nat.sub_zero])) s.2.1.length 0 fu (by omega) hfu2 p1, if_pos (o3_0le (by omega))] at mFin
          exact ⟨_, S1, S2, rfl, mFin, hrel⟩
    · have z2' : ¬ (2 : Int32) ≤ a5 := fun q => z2 (ni_eq.mpr (by have q := ni_le.mp q; rw [show (2 : Int32).toInt = 2 from rfl] at q ⊢; omega))
      rw [if_neg z2', gm, bd_some, q1, o6_add, show (232792560 : Int64) = o6 232792560 from rfl, m_low (by omega) (by omega) (by omega), bd_some] at mFin
      rw [if_neg z2, gc, bd_some, q1, o6_add, show (232792560 : Int64) = o6 232792560 from rfl, c_low (by omega) (by omega) (by omega), bd_some]
      exact ⟨_, S1, S2, rfl, mFin, hrel⟩
end
