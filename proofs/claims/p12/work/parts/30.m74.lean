section
/-! ahead(), elder(): the answers -/
def acb (C : Cw) (k : Nat) : Bool := decide (¬ C.2.2.1 k < 0 ∧ ¬ stn C.2.2.1 (C.2.2.1 k) C.1 ≤ 1)
section AC
variable {S : fS} {c : Nat} {C : Cw}
theorem c_acc (hC : cwC S c C) (h8 : C.1 ≤ 8) : f_X0_accompanied c S = some (o3 (cfn (acb C) C.1)) := by
  have key : ∀ d k nn, k + d = C.1 → d < nn → lp_X0_accompanied_4 c S (fun u13 => some u13) nn (o3 (cfn (acb C) k)) (o3 k) = some (o3 (cfn (acb C) C.1)) := by
    intro d
    induction d with
    | zero =>
      intro k nn hk hnn
      obtain ⟨nn, rfl⟩ : ∃ z, nn = z + 1 := ⟨nn - 1, by omega⟩
      rw [lp_X0_accompanied_4.eq_2, hC.1, if_pos ((o3_le (by omega) (by omega)).mpr (by omega)), show k = C.1 by omega]
    | succ d ih =>
      intro k nn hk hnn
      obtain ⟨nn, rfl⟩ : ∃ z, nn = z + 1 := ⟨nn - 1, by omega⟩
      have hs : cfn (acb C) (k + 1) = cfn (acb C) k + (if acb C k = true then 1 else 0) := rfl
      have hz : o3 (cfn (acb C) k) + (0 : Int32) = o3 (cfn (acb C) k) := Int32.add_zero _
      have hst := stn_le (p := C.2.2.1) (f := C.2.2.1 k) C.1
      rw [lp_X0_accompanied_4.eq_2, hC.1, if_neg (fun q => by have := (o3_le (by omega) (by omega)).mp q; omega), hz, o3_s, o3_s]
      unfold f_X0_isStanding
      rw [gI_o (by omega) (by omega), bd_some, (hC.2.2 k (by omega)).1]
      by_cases h0 : C.2.2.1 k < 0
      · rw [if_pos h0, bd_some, if_pos rfl]
        rw [if_neg (by unfold acb; rw [decide_eq_true_eq]; exact fun z => z.1 h0)] at hs
        replace hs := hs.trans (Nat.add_zero _)
        rw [← hs]
        exact ih (k + 1) nn (by omega) (by omega)
      · rw [if_neg h0, bd_some, if_neg (show ¬ (1 : Int32) = 0 by decide), bd_some, cw_standing hC h8, bd_some]
        by_cases h1 : stn C.2.2.1 (C.2.2.1 k) C.1 ≤ 1
        · rw [if_pos (show o3 _ ≤ (1 : Int32) from (o3_le (b := 1) (by omega) (by omega)).mpr h1)]
          rw [if_neg (by unfold acb; rw [decide_eq_true_eq]; exact fun z => z.2 h1)] at hs
          replace hs := hs.trans (Nat.add_zero _)
          rw [← hs]
          exact ih (k + 1) nn (by omega) (by omega)
        · rw [if_neg (show ¬ o3 _ ≤ (1 : Int32) from fun z => h1 ((o3_le (b := 1) (by omega) (by omega)).mp z))]
          rw [if_pos (by unfold acb; rw [decide_eq_true_eq]; exact ⟨h0, h1⟩)] at hs
          rw [← hs]
          exact ih (k + 1) nn (by omega) (by omega)
  exact key C.1 0 FU (by omega) (FU_lt (by omega))
theorem m_acc (hC : cwM (S.1 157) (S.2 158) C) (h8 : C.1 ≤ 8) {K : Int64 → fS → Option (Int64 × fS)} : lp_X11_ahead_81 K FU (0 : Int64) (0 : Int32) S = K (o6 (cfn (acb C) C.1)) S := by
  have key : ∀ d k nn, k + d = C.1 → d < nn → lp_X11_ahead_81 K nn (o6 (cfn (acb C) k)) (o3 k) S = K (o6 (cfn (acb C) C.1)) S := by
    intro d
    induction d with
    | zero =>
      intro k nn hk hnn
      obtain ⟨nn, rfl⟩ : ∃ z, nn = z + 1 := ⟨nn - 1, by omega⟩
      rw [lp_X11_ahead_81.eq_2, show (2 : Int32) = o3 2 from rfl, gI_o (by omega) (by omega), bd_some, hC.1, if_pos ((o3_le (by omega) (by omega)).mpr (by omega)), show k = C.1 by omega]
    | succ d ih =>
      intro k nn hk hnn
      obtain ⟨nn, rfl⟩ : ∃ z, nn = z + 1 := ⟨nn - 1, by omega⟩
      have hs : cfn (acb C) (k + 1) = cfn (acb C) k + (if acb C k = true then 1 else 0) := rfl
      have hz : o6 (cfn (acb C) k) + (0 : Int64) = o6 (cfn (acb C) k) := Int64.add_zero _
      have hst := stn_le (p := C.2.2.1) (f := C.2.2.1 k) C.1
      have hth : f_X11_thingOf (o3 k) 0 S = some (C.2.2.1 k) := (mw_thing (a := 0) (by omega) (by omega)).trans (congrArg some (hC.2.2 k (by omega)).1)
      rw [lp_X11_ahead_81.eq_2, show (2 : Int32) = o3 2 from rfl, gI_o (by omega) (by omega), bd_some, hC.1, if_neg (fun q => by have := (o3_le (by omega) (by omega)).mp q; omega), hth, bd_some, hz, o3_s, show (1 : Int64) = o6 1 from rfl, o6_add]
      by_cases h0 : C.2.2.1 k < 0
      · rw [if_pos h0]
        rw [if_neg (by unfold acb; rw [decide_eq_true_eq]; exact fun z => z.1 h0)] at hs
        replace hs := hs.trans (Nat.add_zero _)
        rw [← hs]
        exact ih (k + 1) nn (by omega) (by omega)
      · rw [if_neg h0, bd_some, mw_standing hC h8, bd_some]
        by_cases h1 : stn C.2.2.1 (C.2.2.1 k) C.1 ≤ 1
        · rw [if_pos (show o3 _ ≤ (1 : Int32) from (o3_le (b := 1) (by omega) (by omega)).mpr h1)]
          rw [if_neg (by unfold acb; rw [decide_eq_true_eq]; exact fun z => z.2 h1)] at hs
          replace hs := hs.trans (Nat.add_zero _)
          rw [← hs]
          exact ih (k + 1) nn (by omega) (by omega)
        · rw [if_neg (show ¬ o3 _ ≤ (1 : Int32) from fun z => h1 ((o3_le (b := 1) (by omega) (by omega)).mp z))]
          rw [if_pos (by unfold acb; rw [decide_eq_true_eq]; exact ⟨h0, h1⟩)] at hs
          rw [← hs]
          exact ih (k + 1) nn (by omega) (by omega)
  exact key C.1 0 FU (by omega) (FU_lt (by omega))
end AC
theorem t_11 (a1 a2 a3 a4 : Int32) (S : fS) (hR : Rel S) : ∃ r S1 S2, f_X10_ahead a1 a2 a3 a4 S = some (r, S1) ∧ f_X11_ahead a1 a2 a3 a4 S1 = some (r, S2) ∧ Rel S2 := by
  have hR0 := hR
  obtain ⟨n, s, L, M, hT, hS, hL, hM⟩ := hR
  have hS0 := hS
  have hL0 := hL
  obtain ⟨⟨n1, n2, n3, n4, n5, n6⟩, ⟨b1, b2, b3, b4, b5⟩, ⟨m1, m2, m3, m4⟩, d⟩ := hS
  obtain ⟨l1, l2, l3, l4⟩ := hL
  have h8 := n5.1
  have i1 : f_X10_isFrom a2 0 200 S = some (if ((0 : Nat) : Int) ≤ a2.toInt ∧ a2.toInt ≤ ((200 : Nat) : Int) then 1 else 0) := from_c (a := 0) (b := 200) (by omega) (by omega)
  have i2 : f_X10_isFrom a4 0 3 S = some (if ((0 : Nat) : Int) ≤ a4.toInt ∧ a4.toInt ≤ ((3 : Nat) : Int) then 1 else 0) := from_c (a := 0) (b := 3) (by omega) (by omega)
  have j1 : ∀ T : fS, f_X11_in (Int32.toInt64 a2) 0 200 T = some (if ((0 : Nat) : Int) ≤ a2.toInt ∧ a2.toInt ≤ ((200 : Nat) : Int) then 1 else 0) := fun T => in_c (a := 0) (b := 200) (by omega) (by omega)
  have j2 : ∀ T : fS, f_X11_in (Int32.toInt64 a4) 0 3 T = some (if ((0 : Nat) : Int) ≤ a4.toInt ∧ a4.toInt ≤ ((3 : Nat) : Int) then 1 else 0) := fun T => in_c (a := 0) (b := 3) (by omega) (by omega)
  have no : f_X10_ahead a1 a2 a3 a4 S = some (-1, S) → f_X11_ahead a1 a2 a3 a4 S = some (-1, S) → ∃ r S1 S2, f_X10_ahead a1 a2 a3 a4 S = some (r, S1) ∧ f_X11_ahead a1 a2 a3 a4 S1 = some (r, S2) ∧ Rel S2 := fun h g => ⟨-1, S, S, h, g, hR0⟩
  by_cases h1 : ¬ (0 ≤ a1.toInt ∧ a1.toInt < L.length)
  · refine no ?_ ?_
    · unfold f_X10_ahead; rw [l2, from_o (by omega), bd_some, if_neg h1, if_pos rfl]
    · unfold f_X11_ahead; rw [mr_o l3 (by omega), bd_some, if_neg h1, if_pos rfl]
  have h1 := Decidable.not_not.mp h1
  by_cases h2 : ¬ (((0 : Nat) : Int) ≤ a2.toInt ∧ a2.toInt ≤ ((200 : Nat) : Int))
  · refine no ?_ ?_
    · unfold f_X10_ahead; rw [l2, from_o (by omega), bd_some, if_pos h1, if_neg (show ¬ (1 : Int32) = 0 by decide), i1, bd_some, if_neg h2, if_pos rfl]
    · unfold f_X11_ahead; rw [mr_o l3 (by omega), bd_some, if_pos h1, if_neg (show ¬ (1 : Int32) = 0 by decide), j1, bd_some, if_neg h2, if_pos rfl]
  have h2 := Decidable.not_not.mp h2
  by_cases h3 : ¬ (0 ≤ a3.toInt ∧ a3.toInt < s.2.2.1.1)
  · refine no ?_ ?_
    · unfold f_X10_ahead; rw [l2, from_o (by omega), bd_some, if_pos h1, if_neg (show ¬ (1 : Int32) = 0 by decide), i1, bd_some, if_pos h2, if_neg (show ¬ (1 : Int32) = 0 by decide), ci_thing b3.1 (by omega), bd_some, if_neg h3, if_pos rfl]
    · unfold f_X11_ahead
      rw [mr_o l3 (by omega), bd_some, if_pos h1, if_neg (show ¬ (1 : Int32) = 0 by decide), j1, bd_some, if_pos h2, if_neg (show ¬ (1 : Int32) = 0 by decide), j2, bd_some, mi_thing m2.1 (by omega), bd_some]
      by_cases h4 : ((0 : Nat) : Int) ≤ a4.toInt ∧ a4.toInt ≤ ((3 : Nat) : Int)
      · rw [if_pos h4, if_neg (show ¬ (1 : Int32) = 0 by decide), if_neg h3, if_pos rfl]
      · rw [if_neg h4, if_pos rfl]
  have h3 := Decidable.not_not.mp h3
  by_cases h4 : ¬ (((0 : Nat) : Int) ≤ a4.toInt ∧ a4.toInt ≤ ((3 : Nat) : Int))
  · refine no ?_ ?_
    · unfold f_X10_ahead; rw [l2, from_o (by omega), bd_some, if_pos h1, if_neg (show ¬ (1 : Int32) = 0 by decide), i1, bd_some, if_pos h2, if_neg (show ¬ (1 : Int32) = 0 by decide), ci_thing b3.1 (by omega), bd_some, if_pos h3, if_neg (show ¬ (1 : Int32) = 0 by decide), i2, bd_some, if_neg h4, if_pos rfl]
    · unfold f_X11_ahead; rw [mr_o l3 (by omega), bd_some, if_pos h1, if_neg (show ¬ (1 : Int32) = 0 by decide), j1, bd_some, if_pos h2, if_neg (show ¬ (1 : Int32) = 0 by decide), j2, bd_some, if_neg h4, if_pos rfl]
  have h4 := Decidable.not_not.mp h4
  obtain ⟨h, e1, e2⟩ := o3_ex (x := a2) (by omega)
  obtain ⟨th, e3, e4⟩ := o3_ex h3.1
  have hth : th < s.2.2.1.1 := by omega
  obtain ⟨S1, Q, c1, c2, c3, c4, c5, f1, f2⟩ := c_look (v := a1) (h := h) hS0 hL0 (by omega) (by omega)
  have q157 : S1.1 157 = S.1 157 := funext fun k => f1 157 k (by omega) (by omega)
  have q158 : S1.2 158 = S.2 158 := funext fun k => f2 158 k (by omega) (by omega)
  obtain ⟨T1, t1, t2, t3, t4, t5⟩ := m_keeps S1
  have q157' : T1.1 157 = S.1 157 := (funext fun k => t4 157 k (by omega)).trans q157
  have q158' : T1.2 158 = S.2 158 := (funext fun k => t5 158 k (by omega)).trans q158
  have hru : ruM T1 a1 Q := c5 T1 (fun r hr => cdM_eq (l4 r hr).2 (fun a k _ => (t4 a k (by omega)).trans (f1 a k (by omega) (by omega))))
  generalize hCC : cHrs s.1 s.2.1 Q h s.2.2.1 = C at c2 c3 c4
  have hlive : ∀ K : fS → Option (Int64 × fS), ∃ T2, lp_X11_ahead_52 a1 (o3 h) (o3 th) a4 K FU (0 : Int32) T1 = K T2 ∧ cwM (T2.1 157) (T2.2 158) C ∧ eI T1 T2 := fun K => by
    obtain ⟨T2, u1, u2, u3⟩ := m_aheadl (v := a1) (p3 := o3 th) (p4 := a4) (Q := Q) n3 n4 n1 n2 (h := h) (by omega) (K := K) h 0 FU T1 s.2.2.1 (by omega) (FU_lt (by omega)) (okD_of n5) (by have := n5.2.1; omega) (by rw [q157', q158']; exact m2) (by rw [q157']; exact m1) (rHm_eq d (fun k => (t5 _ k (by omega)).trans (f2 _ k (by omega) (by omega)))) hru
    rw [hCC] at u2
    exact ⟨T2, u1, u2, u3⟩
  have hthC : th < C.1 := by omega
  have hC8 : C.1 ≤ 8 := c3.1
  obtain ⟨ag, g1, g2⟩ := age_oD c3 hthC
  obtain ⟨w1, w2, w3, w4, w5⟩ := c2.2.2 th hthC
  have cAns : f_X10_ahead a1 a2 a3 a4 S = some (if a4 = 0 then (if C.2.2.1 th < 0 then -2 else Int32.toInt64 (C.2.2.1 th)) else if a4 = 3 then o6 (cfn (acb C) C.1) else lw ag 232792560 (a4 - 1), S1) := by
    unfold f_X10_ahead
    rw [l2, from_o (by omega), bd_some, if_pos h1, if_neg (show ¬ (1 : Int32) = 0 by decide), i1, bd_some, if_pos h2, if_neg (show ¬ (1 : Int32) = 0 by decide), ci_thing b3.1 (by omega), bd_some, if_pos h3, if_neg (show ¬ (1 : Int32) = 0 by decide), i2, bd_some, if_pos h4, if_neg (show ¬ (1 : Int32) = 0 by decide), e1, c1, bd_some, e3]
    by_cases z0 : a4 = 0
    · rw [if_pos z0, if_pos z0]
      unfold f_X0_isStanding
      rw [gI_o (by omega) (by omega), bd_some, w1]
      by_cases z1 : C.2.2.1 th < 0
      · rw [if_pos z1, if_pos z1, bd_some, if_pos rfl]
      · rw [if_neg z1, if_neg z1, bd_some, if_neg (show ¬ (1 : Int32) = 0 by decide), bd_some]
    · rw [if_neg z0, if_neg z0]
      by_cases z3 : a4 = 3
      · have := cfn_le (f := acb C) C.1
        rw [if_pos z3, if_pos z3, c_acc c2 hC8, bd_some, o6_of3 (by omega)]
      · rw [if_neg z3, if_neg z3, gL_o (by omega) (by omega), bd_some, show S1.2 36 th = o6 ag from w5.trans g1, show (232792560 : Int64) = o6 232792560 from rfl, c_low (by omega) (by omega) (by omega), bd_some]
  have mPre : f_X11_ahead a1 a2 a3 a4 S1 = lp_X11_ahead_52 a1 (o3 h) (o3 th) a4 (fun S24 => if a4 = (3 : Int32) then (lp_X11_ahead_81  (fun u65 S66 => (f_X11_putsBack  S66).bind fun q68 =>
  some (u65, q68)) FU (0 : Int64) (0 : Int32) S24) else
  (if a4 = (0 : Int32) then ((f_X11_thingOf (o3 th) (0 : Int32) S24).bind fun q37 =>
  if (0 : Int32) ≤ q37 then ((f_X11_thingOf (o3 th) (0 : Int32) S24).bind fun q41 =>
  (f_X11_putsBack  S24).bind fun q44 =>
  some ((Int32.toInt64 q41), q44)) else
  ((f_X11_putsBack  S24).bind fun q47 =>
  some ((-2 : Int64), q47))) else
  ((gL S24 158 8 (o3 th)).bind fun a28 =>
  (f_X11_lowest a28 (232792560 : Int64) (a4 - (1 : Int32)) S24).bind fun q31 =>
  (f_X11_putsBack  S24).bind fun q34 =>
  some (q31, q34)))) FU (0 : Int32) T1 := by
    unfold f_X11_ahead
    rw [mr_o ((f1 _ _ (by omega) (by omega)).trans l3) (by omega), bd_some, if_pos h1, if_neg (show ¬ (1 : Int32) = 0 by decide), j1, bd_some, if_pos h2, if_neg (show ¬ (1 : Int32) = 0 by decide), j2, bd_some, if_pos h4, if_neg (show ¬ (1 : Int32) = 0 by decide), mi_thing (m := s.2.2.1.1) (by rw [q157]; exact m2.1) (by omega), bd_some, if_pos h3, if_neg (show ¬ (1 : Int32) = 0 by decide), t1, bd_some, e1, e3]
  obtain ⟨T2, u1, u2, u3⟩ := hlive (fun S24 => if a4 = (3 : Int32) then (lp_X11_ahead_81  (fun u65 S66 => (f_X11_putsBack  S66).bind fun q68 =>
  some (u65, q68)) FU (0 : Int64) (0 : Int32) S24) else
  (if a4 = (0 : Int32) then ((f_X11_thingOf (o3 th) (0 : Int32) S24).bind fun q37 =>
  if (0 : Int32) ≤ q37 then ((f_X11_thingOf (o3 th) (0 : Int32) S24).bind fun q41 =>
  (f_X11_putsBack  S24).bind fun q44 =>
  some ((Int32.toInt64 q41), q44)) else
  ((f_X11_putsBack  S24).bind fun q47 =>
  some ((-2 : Int64), q47))) else
  ((gL S24 158 8 (o3 th)).bind fun a28 =>
  (f_X11_lowest a28 (232792560 : Int64) (a4 - (1 : Int32)) S24).bind fun q31 =>
  (f_X11_putsBack  S24).bind fun q34 =>
  some (q31, q34))))
  obtain ⟨T3, v1, v2, v3, v4, v5⟩ := m_puts T2
  obtain ⟨x1, x2, x3, x4, x5⟩ := u2.2.2 th hthC
  have hth0 : f_X11_thingOf (o3 th) 0 T2 = some (C.2.2.1 th) := (mw_thing (a := 0) (by omega) (by omega)).trans (congrArg some x1)
  refine ⟨_, S1, T3, cAns, ?_, look_rel (S := S) (S1 := S1) hT hS0 hL0 hM f1 f2 (fun a k x y z => ?_) (fun a k x y z w => ?_) (fun k hk => ?_) (fun k hk => ?_)⟩
  · rw [mPre, u1]
    by_cases z3 : a4 = 3
    · rw [if_pos z3, if_neg (show ¬ a4 = 0 by rw [z3]; decide), if_pos z3, m_acc u2 hC8, v1, bd_some]
    · rw [if_neg z3]
      by_cases z0 : a4 = 0
      · rw [if_pos z0, if_pos z0, hth0, bd_some]
        by_cases z1 : C.2.2.1 th < 0
        · rw [if_pos z1, if_neg (show ¬ (0 : Int32) ≤ C.2.2.1 th by rw [ni_lt] at z1; rw [ni_le]; omega), v1, bd_some]
        · rw [if_neg z1, if_pos (show (0 : Int32) ≤ C.2.2.1 th by rw [ni_lt] at z1; rw [ni_le]; omega), bd_some, v1, bd_some]
      · rw [if_neg z0, if_neg z0, if_neg z3, gL_o (by omega) (by omega), bd_some, x5, g1, show (232792560 : Int64) = o6 232792560 from rfl, m_low (by omega) (by omega) (by omega), bd_some, v1, bd_some]
  · rw [v4 a k x, u3.1 a k (by omega) z, t4 a k y]
  · rw [v5 a k z, u3.2 a k x y z, t5 a k w]
  · rw [v2 k hk, u3.1 159 k (by omega) (by omega), t2 k hk]
  · rw [v3 k hk, u3.2 160 k (by omega) (by omega) (by omega), t3 k hk]

/-! elder() -/
def elx (A : Nat → Int64) : Nat → Nat → Nat → Nat
  | 0, _, i => i
  | d + 1, k, i => elx A d (k + 1) (if A k ≤ A i then i else k)
def yox (A : Nat → Int64) : Nat → Nat → Nat → Nat
  | 0, _, i => i
  | d + 1, k, i => yox A d (k + 1) (if A i ≤ A k then i else k)
theorem elx_lt {A : Nat → Int64} : ∀ d k i, i < k + d → elx A d k i < k + d := by
  intro d
  induction d with
  | zero => intro k i h; exact h
  | succ d ih =>
    intro k i h
    show elx A d (k + 1) _ < _
    have := ih (k + 1) (if A k ≤ A i then i else k) (by split <;> omega)
    omega
theorem yox_lt {A : Nat → Int64} : ∀ d k i, i < k + d → yox A d k i < k + d := by
  intro d
  induction d with
  | zero => intro k i h; exact h
  | succ d ih =>
    intro k i h
    show yox A d (k + 1) _ < _
    have := ih (k + 1) (if A i ≤ A k then i else k) (by split <;> omega)
    omega
section EL
variable {S : fS} {c : Nat} {C : Cw}
theorem cw_elx (hC : cwC S c C) (h8 : C.1 ≤ 8) (h1 : 0 < C.1) : f_X0_eldest c S = some (o3 (elx C.2.2.2.2.2.2 (C.1 - 1) 1 0)) := by
  have key : ∀ d k nn i, k + d = C.1 → d < nn → i < C.1 → lp_X0_eldest_4 c S (fun u9 => some u9) nn (o3 i) (o3 k) = some (o3 (elx C.2.2.2.2.2.2 d k i)) := by
    intro d
    induction d with
    | zero =>
      intro k nn i hk hnn hi
      obtain ⟨nn, rfl⟩ : ∃ z, nn = z + 1 := ⟨nn - 1, by omega⟩
      rw [lp_X0_eldest_4.eq_2, hC.1, if_pos ((o3_le (by omega) (by omega)).mpr (by omega))]
      rfl
    | succ d ih =>
      intro k nn i hk hnn hi
      obtain ⟨nn, rfl⟩ : ∃ z, nn = z + 1 := ⟨nn - 1, by omega⟩
      have he : elx C.2.2.2.2.2.2 (d + 1) k i = elx C.2.2.2.2.2.2 d (k + 1) (if C.2.2.2.2.2.2 k ≤ C.2.2.2.2.2.2 i then i else k) := rfl
      rw [lp_X0_eldest_4.eq_2, hC.1, if_neg (fun q => by have := (o3_le (by omega) (by omega)).mp q; omega), gL_o (by omega) (by omega), bd_some, gL_o (by omega) (by omega), bd_some, (hC.2.2 k (by omega)).2.2.2.2, (hC.2.2 i hi).2.2.2.2, o3_s, he]
      by_cases h : C.2.2.2.2.2.2 k ≤ C.2.2.2.2.2.2 i
      · rw [if_pos h, if_pos h]
        exact ih (k + 1) nn i (by omega) (by omega) hi
      · rw [if_neg h, if_neg h]
        exact ih (k + 1) nn k (by omega) (by omega) (by omega)
  exact key (C.1 - 1) 1 FU 0 (by omega) (FU_lt (by omega)) h1
theorem cw_yox (hC : cwC S c C) (h8 : C.1 ≤ 8) (h1 : 0 < C.1) : f_X0_youngest c S = some (o3 (yox C.2.2.2.2.2.2 (C.1 - 1) 1 0)) := by
  have key : ∀ d k nn i, k + d = C.1 → d < nn → i < C.1 → lp_X0_youngest_4 c S (fun u9 => some u9) nn (o3 i) (o3 k) = some (o3 (yox C.2.2.2.2.2.2 d k i)) := by
    intro d
    induction d with
    | zero =>
      intro k nn i hk hnn hi
      obtain ⟨nn, rfl⟩ : ∃ z, nn = z + 1 := ⟨nn - 1, by omega⟩
      rw [lp_X0_youngest_4.eq_2, hC.1, if_pos ((o3_le (by omega) (by omega)).mpr (by omega))]
      rfl
    | succ d ih =>
      intro k nn i hk hnn hi
      obtain ⟨nn, rfl⟩ : ∃ z, nn = z + 1 := ⟨nn - 1, by omega⟩
      have he : yox C.2.2.2.2.2.2 (d + 1) k i = yox C.2.2.2.2.2.2 d (k + 1) (if C.2.2.2.2.2.2 i ≤ C.2.2.2.2.2.2 k then i else k) := rfl
      rw [lp_X0_youngest_4.eq_2, hC.1, if_neg (fun q => by have := (o3_le (by omega) (by omega)).mp q; omega), gL_o (by omega) (by omega), bd_some, gL_o (by omega) (by omega), bd_some, (hC.2.2 k (by omega)).2.2.2.2, (hC.2.2 i hi).2.2.2.2, o3_s, he]
      by_cases h : C.2.2.2.2.2.2 i ≤ C.2.2.2.2.2.2 k
      · rw [if_pos h, if_pos h]
        exact ih (k + 1) nn i (by omega) (by omega) hi
      · rw [if_neg h, if_neg h]
        exact ih (k + 1) nn k (by omega) (by omega) (by omega)
  exact key (C.1 - 1) 1 FU 0 (by omega) (FU_lt (by omega)) h1
theorem m_elx (hC : cwM (S.1 157) (S.2 158) C) (h8 : C.1 ≤ 8) (h1 : 0 < C.1) {v : Int32} {K : Int32 → Int32 → fS → Option (Int64 × fS)} : lp_X11_elder_83 v K FU (0 : Int32) (0 : Int32) (1 : Int32) S = K (o3 (elx C.2.2.2.2.2.2 (C.1 - 1) 1 0)) (o3 (yox C.2.2.2.2.2.2 (C.1 - 1) 1 0)) S := by
  have key : ∀ d k nn i j, k + d = C.1 → d < nn → i < C.1 → j < C.1 → lp_X11_elder_83 v K nn (o3 i) (o3 j) (o3 k) S = K (o3 (elx C.2.2.2.2.2.2 d k i)) (o3 (yox C.2.2.2.2.2.2 d k j)) S := by
    intro d
    induction d with
    | zero =>
      intro k nn i j hk hnn hi hj
      obtain ⟨nn, rfl⟩ : ∃ z, nn = z + 1 := ⟨nn - 1, by omega⟩
      rw [lp_X11_elder_83.eq_2, show (2 : Int32) = o3 2 from rfl, gI_o (by omega) (by omega), bd_some, hC.1, if_pos ((o3_le (by omega) (by omega)).mpr (by omega))]
      rfl
    | succ d ih =>
      intro k nn i j hk hnn hi hj
      obtain ⟨nn, rfl⟩ : ∃ z, nn = z + 1 := ⟨nn - 1, by omega⟩
      have he : elx C.2.2.2.2.2.2 (d + 1) k i = elx C.2.2.2.2.2.2 d (k + 1) (if C.2.2.2.2.2.2 k ≤ C.2.2.2.2.2.2 i then i else k) := rfl
      have hy : yox C.2.2.2.2.2.2 (d + 1) k j = yox C.2.2.2.2.2.2 d (k + 1) (if C.2.2.2.2.2.2 j ≤ C.2.2.2.2.2.2 k then j else k) := rfl
      have ga : ∀ z, z < C.1 → gL S 158 8 (o3 z) = some (C.2.2.2.2.2.2 z) := fun z hz => (gL_o (by omega) (by omega)).trans (congrArg some (hC.2.2 z hz).2.2.2.2)
      rw [lp_X11_elder_83.eq_2, show (2 : Int32) = o3 2 from rfl, gI_o (by omega) (by omega), bd_some, hC.1, if_neg (fun q => by have := (o3_le (by omega) (by omega)).mp q; omega), ga k (by omega), ga i hi, ga j hj]
      simp only [bd_some]
      rw [o3_s, he, hy]
      by_cases h : C.2.2.2.2.2.2 k ≤ C.2.2.2.2.2.2 i
      · rw [if_pos h, if_pos h]
        by_cases g : C.2.2.2.2.2.2 j ≤ C.2.2.2.2.2.2 k
        · rw [if_pos g, if_pos g]
          exact ih (k + 1) nn i j (by omega) (by omega) hi hj
        · rw [if_neg g, if_neg g]
          exact ih (k + 1) nn i k (by omega) (by omega) hi (by omega)
      · rw [if_neg h, if_neg h]
        by_cases g : C.2.2.2.2.2.2 j ≤ C.2.2.2.2.2.2 k
        · rw [if_pos g, if_pos g]
          exact ih (k + 1) nn k j (by omega) (by omega) (by omega) hj
        · rw [if_neg g, if_neg g]
          exact ih (k + 1) nn k k (by omega) (by omega) (by omega) (by omega)
  exact key (C.1 - 1) 1 FU 0 0 (by omega) (FU_lt (by omega)) h1 h1
end EL
def eldK (v : Int32) : Int32 → Int32 → fS → Option (Int64 × fS) := fun u48 u49 S50 => if v = (0 : Int32) then ((f_X11_putsBack  S50).bind fun q69 =>
  some ((Int32.toInt64 u48), q69)) else
  (if v = (1 : Int32) then ((f_X11_putsBack  S50).bind fun q66 =>
  some ((Int32.toInt64 u49), q66)) else
  ((gL S50 158 8 u48).bind fun a54 =>
  (gL S50 158 8 u49).bind fun a57 =>
  (f_X11_lowest (a54 - a57) (232792560 : Int64) (v - (2 : Int32)) S50).bind fun q60 =>
  (f_X11_putsBack  S50).bind fun q63 =>
  some (q60, q63)))
theorem t_27 (a1 a2 a3 : Int32) (S : fS) (hR : Rel S) : ∃ r S1 S2, f_X10_elder a1 a2 a3 S = some (r, S1) ∧ f_X11_elder a1 a2 a3 S1 = some (r, S2) ∧ Rel S2 := by
  have hR0 := hR
  obtain ⟨n, s, L, M, hT, hS, hL, hM⟩ := hR
  have hS0 := hS
  have hL0 := hL
  obtain ⟨⟨n1, n2, n3, n4, n5, n6⟩, ⟨b1, b2, b3, b4, b5⟩, ⟨m1, m2, m3, m4⟩, d⟩ := hS
  obtain ⟨l1, l2, l3, l4⟩ := hL
  have h8 := n5.1
  have i1 : f_X10_isFrom a2 0 200 S = some (if ((0 : Nat) : Int) ≤ a2.toInt ∧ a2.toInt ≤ ((200 : Nat) : Int) then 1 else 0) := from_c (a := 0) (b := 200) (by omega) (by omega)
  have i2 : f_X10_isFrom a3 0 3 S = some (if ((0 : Nat) : Int) ≤ a3.toInt ∧ a3.toInt ≤ ((3 : Nat) : Int) then 1 else 0) := from_c (a := 0) (b := 3) (by omega) (by omega)
  have j1 : ∀ T : fS, f_X11_in (Int32.toInt64 a2) 0 200 T = some (if ((0 : Nat) : Int) ≤ a2.toInt ∧ a2.toInt ≤ ((200 : Nat) : Int) then 1 else 0) := fun T => in_c (a := 0) (b := 200) (by omega) (by omega)
  have j2 : ∀ T : fS, f_X11_in (Int32.toInt64 a3) 0 3 T = some (if ((0 : Nat) : Int) ≤ a3.toInt ∧ a3.toInt ≤ ((3 : Nat) : Int) then 1 else 0) := fun T => in_c (a := 0) (b := 3) (by omega) (by omega)
  /- the reference, in one form -/
  have hm : ∀ T : fS, T.1 145 2 = o3 L.length → T.1 157 2 = o3 s.2.2.1.1 → f_X11_elder a1 a2 a3 T = if -1 ≤ a1.toInt ∧ a1.toInt < L.length then (if ((0 : Nat) : Int) ≤ a2.toInt ∧ a2.toInt ≤ ((200 : Nat) : Int) then (if ((0 : Nat) : Int) ≤ a3.toInt ∧ a3.toInt ≤ ((3 : Nat) : Int) then (if s.2.2.1.1 = 0 then some (-1, T) else ((f_X11_keeps T).bind fun q14 => lp_X11_elder_57 a1 a2 a3 (fun S21 => lp_X11_elder_83 a3 (eldK a3) FU (0 : Int32) (0 : Int32) (1 : Int32) S21) FU (0 : Int32) q14)) else some (-1, T)) else some (-1, T)) else some (-1, T) := fun T h2 h3 => by
    have hg : gI T 157 158 2 = some (o3 s.2.2.1.1) := (gI_o (k := 2) (by omega) (by omega)).trans (congrArg some h3)
    have hrest : ((f_X11_in (Int32.toInt64 a2) (0 : Int64) (200 : Int64) T).bind fun q2 => if q2 = (0 : Int32) then (some ((-1 : Int64), T)) else ((f_X11_in (Int32.toInt64 a3) (0 : Int64) (3 : Int64) T).bind fun q6 => if q6 = (0 : Int32) then (some ((-1 : Int64), T)) else ((gI T 157 158 (2 : Int32)).bind fun a10 => if a10 = (0 : Int32) then (some ((-1 : Int64), T)) else ((f_X11_keeps  T).bind fun q14 => lp_X11_elder_57 a1 a2 a3 (fun S21 => lp_X11_elder_83 a3 (eldK a3) FU (0 : Int32) (0 : Int32) (1 : Int32) S21) FU (0 : Int32) q14)))) = (if ((0 : Nat) : Int) ≤ a2.toInt ∧ a2.toInt ≤ ((200 : Nat) : Int) then (if ((0 : Nat) : Int) ≤ a3.toInt ∧ a3.toInt ≤ ((3 : Nat) : Int) then (if s.2.2.1.1 = 0 then some (-1, T) else ((f_X11_keeps T).bind fun q14 => lp_X11_elder_57 a1 a2 a3 (fun S21 => lp_X11_elder_83 a3 (eldK a3) FU (0 : Int32) (0 : Int32) (1 : Int32) S21) FU (0 : Int32) q14)) else some (-1, T)) else some (-1, T)) := by
      rw [j1, bd_some, j2, bd_some, hg, bd_some]
      by_cases z : ((0 : Nat) : Int) ≤ a2.toInt ∧ a2.toInt ≤ ((200 : Nat) : Int)
      · rw [if_pos z, if_pos z, if_neg (show ¬ (1 : Int32) = 0 by decide)]
        by_cases z' : ((0 : Nat) : Int) ≤ a3.toInt ∧ a3.toInt ≤ ((3 : Nat) : Int)
        · rw [if_pos z', if_pos z', if_neg (show ¬ (1 : Int32) = 0 by decide)]
          by_cases z0 : s.2.2.1.1 = 0
          · rw [if_pos z0, if_pos (show o3 s.2.2.1.1 = (0 : Int32) by rw [z0]; rfl)]
          · rw [if_neg z0, if_neg (show ¬ o3 s.2.2.1.1 = (0 : Int32) from fun q => z0 ((o3_inj (b := 0) (by omega) (by omega)).mp q))]
        · rw [if_neg z', if_neg z', if_pos rfl]
      · rw [if_neg z, if_neg z, if_pos rfl]
    unfold f_X11_elder
    by_cases h1 : a1 = -1
    · rw [if_pos h1]
      refine hrest.trans ?_
      rw [if_pos (show -1 ≤ a1.toInt ∧ a1.toInt < (L.length : Int) from by rw [h1, show (-1 : Int32).toInt = -1 from rfl]; omega)]
    · rw [if_neg h1, mr_o h2 (by omega), bd_some]
      have h1' : a1.toInt ≠ -1 := fun q => h1 (ni_eq.mpr q)
      by_cases z : 0 ≤ a1.toInt ∧ a1.toInt < L.length
      · rw [if_pos z, if_neg (show ¬ (1 : Int32) = 0 by decide)]
        refine hrest.trans ?_
        rw [if_pos (show -1 ≤ a1.toInt ∧ a1.toInt < (L.length : Int) by omega)]
      · rw [if_neg z, if_pos rfl, if_neg (show ¬ (-1 ≤ a1.toInt ∧ a1.toInt < (L.length : Int)) by omega)]
  have no : f_X10_elder a1 a2 a3 S = some (-1, S) → f_X11_elder a1 a2 a3 S = some (-1, S) → ∃ r S1 S2, f_X10_elder a1 a2 a3 S = some (r, S1) ∧ f_X11_elder a1 a2 a3 S1 = some (r, S2) ∧ Rel S2 := fun h g => ⟨-1, S, S, h, g, hR0⟩
  by_cases h1 : ¬ (-1 ≤ a1.toInt ∧ a1.toInt < L.length)
  · refine no ?_ (by rw [hm S l3 m2.1, if_neg h1])
    unfold f_X10_elder; rw [rn_o l2 (by omega), bd_some, if_neg h1, if_pos rfl]
  have h1 := Decidable.not_not.mp h1
  by_cases h2 : ¬ (((0 : Nat) : Int) ≤ a2.toInt ∧ a2.toInt ≤ ((200 : Nat) : Int))
  · refine no ?_ (by rw [hm S l3 m2.1, if_pos h1, if_neg h2])
    unfold f_X10_elder; rw [rn_o l2 (by omega), bd_some, if_pos h1, if_neg (show ¬ (1 : Int32) = 0 by decide), i1, bd_some, if_neg h2, if_pos rfl]
  have h2 := Decidable.not_not.mp h2
  by_cases h0 : s.2.2.1.1 = 0
  · refine no ?_ (by
      rw [hm S l3 m2.1, if_pos h1, if_pos h2]
      by_cases h3 : ((0 : Nat) : Int) ≤ a3.toInt ∧ a3.toInt ≤ ((3 : Nat) : Int)
      · rw [if_pos h3, if_pos h0]
      · rw [if_neg h3])
    unfold f_X10_elder; rw [rn_o l2 (by omega), bd_some, if_pos h1, if_neg (show ¬ (1 : Int32) = 0 by decide), i1, bd_some, if_pos h2, if_neg (show ¬ (1 : Int32) = 0 by decide), show S.1 11 5 = _ from b3.1, if_pos (show o3 s.2.2.1.1 = (0 : Int32) by rw [h0]; rfl)]
  by_cases h3 : ¬ (((0 : Nat) : Int) ≤ a3.toInt ∧ a3.toInt ≤ ((3 : Nat) : Int))
  · refine no ?_ (by rw [hm S l3 m2.1, if_pos h1, if_pos h2, if_neg h3])
    unfold f_X10_elder; rw [rn_o l2 (by omega), bd_some, if_pos h1, if_neg (show ¬ (1 : Int32) = 0 by decide), i1, bd_some, if_pos h2, if_neg (show ¬ (1 : Int32) = 0 by decide), show S.1 11 5 = _ from b3.1, if_neg (show ¬ o3 s.2.2.1.1 = (0 : Int32) from fun q => h0 ((o3_inj (b := 0) (by omega) (by omega)).mp q)), i2, bd_some, if_neg h3, if_pos rfl]
  have h3 := Decidable.not_not.mp h3
  obtain ⟨h, e1, e2⟩ := o3_ex (x := a2) (by omega)
  obtain ⟨S1, Q, c1, c2, c3, c4, c5, f1, f2⟩ := c_look (v := a1) (h := h) hS0 hL0 h1 (by omega)
  have q157 : S1.1 157 = S.1 157 := funext fun k => f1 157 k (by omega) (by omega)
  have q158 : S1.2 158 = S.2 158 := funext fun k => f2 158 k (by omega) (by omega)
  obtain ⟨T1, t1, t2, t3, t4, t5⟩ := m_keeps S1
  have q157' : T1.1 157 = S.1 157 := (funext fun k => t4 157 k (by omega)).trans q157
  have q158' : T1.2 158 = S.2 158 := (funext fun k => t5 158 k (by omega)).trans q158
  have hru : ruM T1 a1 Q := c5 T1 (fun r hr => cdM_eq (l4 r hr).2 (fun a k _ => (t4 a k (by omega)).trans (f1 a k (by omega) (by omega))))
  obtain ⟨T2, u1, u2, u3⟩ := m_elderl (v := a1) (p3 := a3) (Q := Q) n3 n4 n1 n2 (h := h) (by omega) (K := fun S21 => lp_X11_elder_83 a3 (eldK a3) FU (0 : Int32) (0 : Int32) (1 : Int32) S21) h 0 FU T1 s.2.2.1 (by omega) (FU_lt (by omega)) (okD_of n5) (by have := n5.2.1; omega) (by rw [q157', q158']; exact m2) (by rw [q157']; exact m1) (rHm_eq d (fun k => (t5 _ k (by omega)).trans (f2 _ k (by omega) (by omega)))) hru
  generalize cHrs s.1 s.2.1 Q h s.2.2.1 = C at c2 c3 c4 u2
  have hC8 : C.1 ≤ 8 := c3.1
  have hC0 : 0 < C.1 := by omega
  obtain ⟨T3, v1, v2, v3, v4, v5⟩ := m_puts T2
  have hx1 := cw_elx c2 hC8 hC0
  have hy1 := cw_yox c2 hC8 hC0
  have hxl : elx C.2.2.2.2.2.2 (C.1 - 1) 1 0 < C.1 := by have := elx_lt (A := C.2.2.2.2.2.2) (C.1 - 1) 1 0 (by omega); omega
  have hyl : yox C.2.2.2.2.2.2 (C.1 - 1) 1 0 < C.1 := by have := yox_lt (A := C.2.2.2.2.2.2) (C.1 - 1) 1 0 (by omega); omega
  have hle : C.2.2.2.2.2.2 (yox C.2.2.2.2.2.2 (C.1 - 1) 1 0) ≤ C.2.2.2.2.2.2 (elx C.2.2.2.2.2.2 (C.1 - 1) 1 0) := by
    obtain ⟨i, p1, p2, p3⟩ := cw_eldest c2 hC8 hC0
    rw [hx1] at p2
    have : elx C.2.2.2.2.2.2 (C.1 - 1) 1 0 = i := (o3_inj (by omega) (by omega)).mp (Option.some.inj p2)
    rw [this]
    exact p3 _ hyl
  have hM := m_elx u2 hC8 hC0 (v := a3) (K := eldK a3)
  have ga : ∀ z, z < C.1 → gL T2 158 8 (o3 z) = some (C.2.2.2.2.2.2 z) := fun z hz => (gL_o (by omega) (by omega)).trans (congrArg some (u2.2.2 z hz).2.2.2.2)
  have gc : ∀ z, z < C.1 → gL S1 36 8 (o3 z) = some (C.2.2.2.2.2.2 z) := fun z hz => (gL_o (by omega) (by omega)).trans (congrArg some (c2.2.2 z hz).2.2.2.2)
  generalize elx C.2.2.2.2.2.2 (C.1 - 1) 1 0 = x at *
  generalize yox C.2.2.2.2.2.2 (C.1 - 1) 1 0 = y at *
  obtain ⟨ax, g1, g2⟩ := age_oD c3 hxl
  obtain ⟨ay, g3, g4⟩ := age_oD c3 hyl
  have hay : ay ≤ ax := by rw [g1, g3] at hle; exact (o6_le (by omega) (by omega)).mp hle
  refine ⟨if (2 : Int32) ≤ a3 then lw (ax - ay) 232792560 (a3 - 2) else if a3 = 0 then o6 x else o6 y, S1, T3, ?_, ?_, look_rel (S := S) (S1 := S1) hT hS0 hL0 ‹rIm M S› f1 f2 (fun a k x y z => ?_) (fun a k x y z w => ?_) (fun k hk => ?_) (fun k hk => ?_)⟩
  · unfold f_X10_elder
    rw [rn_o l2 (by omega), bd_some, if_pos h1, if_neg (show ¬ (1 : Int32) = 0 by decide), i1, bd_some, if_pos h2, if_neg (show ¬ (1 : Int32) = 0 by decide), show S.1 11 5 = _ from b3.1, if_neg (show ¬ o3 s.2.2.1.1 = (0 : Int32) from fun q => h0 ((o3_inj (b := 0) (by omega) (by omega)).mp q)), i2, bd_some, if_pos h3, if_neg (show ¬ (1 : Int32) = 0 by decide), e1, c1, bd_some, hx1, bd_some, hy1, bd_some]
    by_cases z2 : (2 : Int32) ≤ a3
    · rw [if_pos z2, if_pos z2, gc x hxl, gc y hyl, bd_some, bd_some, g1, g3, o6_sub hay, show (232792560 : Int64) = o6 232792560 from rfl, c_low (by omega) (by omega) (by omega), bd_some]
    · rw [if_neg z2, if_neg z2]
      by_cases z0 : a3 = 0
      · rw [if_pos z0, if_pos z0, o6_of3 (by omega)]
      · rw [if_neg z0, if_neg z0, o6_of3 (by omega)]
  · rw [hm S1 ((f1 _ _ (by omega) (by omega)).trans l3) (by rw [q157]; exact m2.1), if_pos h1, if_pos h2, if_pos h3, if_neg h0, t1, bd_some, e1]
    refine (show lp_X11_elder_57 a1 (o3 h) a3 (fun S21 => lp_X11_elder_83 a3 (eldK a3) FU (0 : Int32) (0 : Int32) (1 : Int32) S21) FU (0 : Int32) T1 = _ from u1).trans ?_
    rw [hM]
    unfold eldK
    by_cases z0 : a3 = 0
    · rw [if_pos z0, v1, bd_some, if_neg (show ¬ (2 : Int32) ≤ a3 by rw [z0]; decide), if_pos z0, o6_of3 (by omega)]
    · rw [if_neg z0]
      by_cases z1 : a3 = 1
      · rw [if_pos z1, v1, bd_some, if_neg (show ¬ (2 : Int32) ≤ a3 by rw [z1]; decide), if_neg z0, o6_of3 (by omega)]
      · have z2 : (2 : Int32) ≤ a3 := by
          have y0 : a3.toInt ≠ 0 := fun q => z0 (ni_eq.mpr q)
          have y1 : a3.toInt ≠ 1 := fun q => z1 (ni_eq.mpr q)
          exact ni_le.mpr (by show 2 ≤ a3.toInt; omega)
        rw [if_neg z1, if_pos z2, ga x hxl, ga y hyl, bd_some, bd_some, g1, g3, o6_sub hay, show (232792560 : Int64) = o6 232792560 from rfl, m_low (by omega) (by omega) (by omega), bd_some, v1, bd_some]
  · rw [v4 a k x, u3.1 a k (by omega) z, t4 a k y]
  · rw [v5 a k z, u3.2 a k x y z, t5 a k w]
  · rw [v2 k hk, u3.1 159 k (by omega) (by omega), t2 k hk]
  · rw [v3 k hk, u3.2 160 k (by omega) (by omega) (by omega), t3 k hk]
end
