section
/-- ripe: both answer -/
theorem t_18 (a1 a2 a3 a4 a5 : Int32) (S : fS) (hR : Rel S) : ∃ r r' S1 S2, f_X10_ripe a1 a2 a3 a4 a5 S = some (r, S1) ∧ f_X11_ripe a1 a2 a3 a4 a5 S1 = some (r', S2) ∧ Rel S2 := by
  have hR0 := hR
  obtain ⟨n', s, L, M, hT, hS, hL, hM⟩ := hR
  have hS0 := hS
  obtain ⟨⟨n1, n2, n3, n4, n5, n6⟩, ⟨b1, b2, b3, b4, b5⟩, ⟨m1, m2, m3, m4⟩, d⟩ := hS
  have i3 : f_X10_isFrom a3 0 16 S = some (if ((0 : Nat) : Int) ≤ a3.toInt ∧ a3.toInt ≤ ((16 : Nat) : Int) then 1 else 0) := from_c (a := 0) (b := 16) (by omega) (by omega)
  have i4 : f_X10_isFrom a4 0 999 S = some (if ((0 : Nat) : Int) ≤ a4.toInt ∧ a4.toInt ≤ ((999 : Nat) : Int) then 1 else 0) := from_c (a := 0) (b := 999) (by omega) (by omega)
  have j3 : ∀ T : fS, f_X11_in (Int32.toInt64 a3) 0 16 T = some (if ((0 : Nat) : Int) ≤ a3.toInt ∧ a3.toInt ≤ ((16 : Nat) : Int) then 1 else 0) := fun T => in_c (a := 0) (b := 16) (by omega) (by omega)
  have j4 : ∀ T : fS, f_X11_in (Int32.toInt64 a4) 0 999 T = some (if ((0 : Nat) : Int) ≤ a4.toInt ∧ a4.toInt ≤ ((999 : Nat) : Int) then 1 else 0) := fun T => in_c (a := 0) (b := 999) (by omega) (by omega)
  have no : f_X10_ripe a1 a2 a3 a4 a5 S = some (-1, S) → f_X11_ripe a1 a2 a3 a4 a5 S = some (-1, S) → ∃ r r' S1 S2, f_X10_ripe a1 a2 a3 a4 a5 S = some (r, S1) ∧ f_X11_ripe a1 a2 a3 a4 a5 S1 = some (r', S2) ∧ Rel S2 := fun h g => ⟨-1, -1, S, S, h, g, hR0⟩
  have n1z : ¬ (1 : Int32) = 0 := by decide
  by_cases h1 : ¬ (0 ≤ a1.toInt ∧ a1.toInt < s.1.length)
  · refine no ?_ ?_
    · unfold f_X10_ripe; rw [ci_floor b1.1 (by omega), bd_some, if_neg h1, if_pos rfl]
    · unfold f_X11_ripe; rw [mi_floor m1.1 (by omega), bd_some, if_neg h1, if_pos rfl]
  have h1 := Decidable.not_not.mp h1
  by_cases h2 : ¬ (0 ≤ a2.toInt ∧ a2.toInt < s.1.length)
  · refine no ?_ ?_
    · unfold f_X10_ripe; rw [ci_floor b1.1 (by omega), bd_some, if_pos h1, if_neg n1z, ci_floor b1.1 (by omega), bd_some, if_neg h2, if_pos rfl]
    · unfold f_X11_ripe; rw [mi_floor m1.1 (by omega), bd_some, if_pos h1, if_neg n1z, mi_floor m1.1 (by omega), bd_some, if_neg h2, if_pos rfl]
  have h2 := Decidable.not_not.mp h2
  by_cases h3 : ¬ (((0 : Nat) : Int) ≤ a3.toInt ∧ a3.toInt ≤ ((16 : Nat) : Int))
  · refine no ?_ ?_
    · unfold f_X10_ripe; rw [ci_floor b1.1 (by omega), bd_some, if_pos h1, if_neg n1z, ci_floor b1.1 (by omega), bd_some, if_pos h2, if_neg n1z, i3, bd_some, if_neg h3, if_pos rfl]
    · unfold f_X11_ripe; rw [mi_floor m1.1 (by omega), bd_some, if_pos h1, if_neg n1z, mi_floor m1.1 (by omega), bd_some, if_pos h2, if_neg n1z, j3, bd_some, if_neg h3, if_pos rfl]
  have h3 := Decidable.not_not.mp h3
  by_cases h4 : ¬ (((0 : Nat) : Int) ≤ a4.toInt ∧ a4.toInt ≤ ((999 : Nat) : Int))
  · refine no ?_ ?_
    · unfold f_X10_ripe; rw [ci_floor b1.1 (by omega), bd_some, if_pos h1, if_neg n1z, ci_floor b1.1 (by omega), bd_some, if_pos h2, if_neg n1z, i3, bd_some, if_pos h3, if_neg n1z, i4, bd_some, if_neg h4, if_pos rfl]
    · unfold f_X11_ripe; rw [mi_floor m1.1 (by omega), bd_some, if_pos h1, if_neg n1z, mi_floor m1.1 (by omega), bd_some, if_pos h2, if_neg n1z, j3, bd_some, if_pos h3, if_neg n1z, j4, bd_some, if_neg h4, if_pos rfl]
  have h4 := Decidable.not_not.mp h4
  obtain ⟨f, e1, e2⟩ := o3_ex h1.1
  obtain ⟨g, e3, e4⟩ := o3_ex h2.1
  obtain ⟨n, e5, e6⟩ := o3_ex (x := a3) (by omega)
  obtain ⟨v, e7, e8⟩ := o3_ex (x := a4) (by omega)
  have hf : f < s.1.length := by omega
  have hg : g < s.1.length := by omega
  have hn : n ≤ 16 := by omega
  have i5 : f_X10_isFrom a5 (o3 v) 999 S = some (if ((v : Nat) : Int) ≤ a5.toInt ∧ a5.toInt ≤ ((999 : Nat) : Int) then 1 else 0) := from_c (a := v) (b := 999) (by omega) (by omega)
  have j5 : ∀ T : fS, f_X11_in (Int32.toInt64 a5) (Int32.toInt64 (o3 v)) 999 T = some (if ((v : Nat) : Int) ≤ a5.toInt ∧ a5.toInt ≤ ((999 : Nat) : Int) then 1 else 0) := fun T => by
    rw [o6_of3 (by omega)]
    exact in_c (a := v) (b := 999) (by omega) (by omega)
  have cP : f_X10_ripe a1 a2 a3 a4 a5 S = if ((v : Nat) : Int) ≤ a5.toInt ∧ a5.toInt ≤ ((999 : Nat) : Int) then ((f_X3_spread 4 (o3 f) (o3 n) S).bind fun q21 => if q21.1 = (0 : Int32) then (some ((-3 : Int32), q21.2)) else ((f_X3_leastCarried 4 (o3 g) (o3 n) ((Int32.toInt64 (o3 v)) * (232792560 : Int64)) ((Int32.toInt64 a5) * (232792560 : Int64)) q21.2).bind fun q25 => some (q25, q21.2))) else some (-1, S) := by
    unfold f_X10_ripe; rw [ci_floor b1.1 (by omega), bd_some, if_pos h1, if_neg n1z, ci_floor b1.1 (by omega), bd_some, if_pos h2, if_neg n1z, i3, bd_some, if_pos h3, if_neg n1z, i4, bd_some, if_pos h4, if_neg n1z, e7, i5, bd_some, if1z, e1, e3, e5]
  have mP : ∀ T : fS, T.1 157 0 = S.1 157 0 → f_X11_ripe a1 a2 a3 a4 a5 T = if ((v : Nat) : Int) ≤ a5.toInt ∧ a5.toInt ≤ ((999 : Nat) : Int) then ((f_X11_comes (0 : Int32) (o3 f) (0 : Int64) (0 : Int32) (pI T 145 36 (0 : Int32))).bind fun q24 => lp_X11_ripe_74 (o3 g) (o3 n) (o3 v) a5 (fun S40 => if (S40.1 145 36) ≤ (4000 : Int32) then (lp_X11_ripe_163 (o3 g) (o3 n) (o3 v) a5 (fun u120 S121 => some (u120, S121)) FU (-2 : Int32) (0 : Int32) S40) else (some ((-3 : Int32), S40))) FU (0 : Int32) q24) else some (-1, T) := fun T hTT => by
    unfold f_X11_ripe; rw [mi_floor (hTT.trans m1.1) (by omega), bd_some, if_pos h1, if_neg n1z, mi_floor (hTT.trans m1.1) (by omega), bd_some, if_pos h2, if_neg n1z, j3, bd_some, if_pos h3, if_neg n1z, j4, bd_some, if_pos h4, if_neg n1z, e7, j5, bd_some, if1z, e1, e3, e5, bd_some]
  by_cases h5 : ¬ (((v : Nat) : Int) ≤ a5.toInt ∧ a5.toInt ≤ ((999 : Nat) : Int))
  · exact no (by rw [cP, if_neg h5]) (by rw [mP S rfl, if_neg h5])
  have h5 := Decidable.not_not.mp h5
  rw [if_pos h5] at cP
  obtain ⟨r, S1, u1, u2, u3⟩ := k_spread n4 n1 n2 hf hn b1
  have hc : ∃ q, f_X10_ripe a1 a2 a3 a4 a5 S = some (q, S1) := by
    rw [cP, u1, bd_some]
    dsimp only
    rcases u3 with u3 | ⟨u3, u4⟩
    · rw [if_pos u3]; exact ⟨_, rfl⟩
    · rw [if_neg (by rw [u3]; decide)]
      obtain ⟨q, q1⟩ := k_lc (x := (Int32.toInt64 (o3 v)) * (232792560 : Int64)) (y := (Int32.toInt64 a5) * (232792560 : Int64)) n1 hg hn (twC_R b1 u2) u4
      rw [q1, bd_some]
      exact ⟨q, rfl⟩
  have k157 : S1.1 157 = S.1 157 := funext fun k => u2.1 157 k (by omega)
  have hm1 : twM (S1.1 157) s.1 s.2.1 := by rw [k157]; exact m1
  have e0 : eRm S1 (pI S1 145 36 0) := ⟨fun a k _ y => pI_ne y, fun _ _ _ => rfl⟩
  have o0 : okm s.1.length n (pI S1 145 36 0) 0 := ⟨by omega, pI_eq, fun k hk => absurd hk (Nat.not_lt_zero _)⟩
  obtain ⟨T1, c1, t1, t2, t3, t4⟩ := r_comes (h := 0) (f := f) (x := 0) (y := 0) n1 hn (by omega) hf o0
  have e01 := e0.tr t4
  obtain ⟨S2, c2, w1, w2, w3⟩ := r_74 (p2 := o3 g) (p4 := o3 v) (p5 := a5) n3 n4 n1 n2 hn (K := fun S40 => if (S40.1 145 36) ≤ (4000 : Int32) then (lp_X11_ripe_163 (o3 g) (o3 n) (o3 v) a5 (fun u120 S121 => some (u120, S121)) FU (-2 : Int32) (0 : Int32) S40) else (some ((-3 : Int32), S40))) (n + 1) 0 FU T1 c1 (by omega) (FU_lt (by omega)) (twM_R hm1 e01) t2
  have e2m := e01.tr w3
  have hmm : ∃ q, f_X11_ripe a1 a2 a3 a4 a5 S1 = some (q, S2) := by
    rw [mP S1 (congrFun k157 0), if_pos h5]
    rw [show f_X11_comes (0 : Int32) (o3 f) (0 : Int64) (0 : Int32) (pI S1 145 36 (0 : Int32)) = some T1 from t1, bd_some, show (0 : Int32) = o3 0 from rfl]
    have w1 : lp_X11_ripe_74 (o3 g) (o3 n) (o3 v) a5 _ FU (o3 0) T1 = _ := w1
    rw [show (fun S40 : fS => if (S40.1 145 36) ≤ (4000 : Int32) then (lp_X11_ripe_163 (o3 g) (o3 n) (o3 v) a5 (fun u120 S121 => some (u120, S121)) FU (-2 : Int32) (o3 0) S40) else (some ((-3 : Int32), S40))) = (fun S40 : fS => if (S40.1 145 36) ≤ (4000 : Int32) then (lp_X11_ripe_163 (o3 g) (o3 n) (o3 v) a5 (fun u120 S121 => some (u120, S121)) FU (-2 : Int32) (0 : Int32) S40) else (some ((-3 : Int32), S40))) from by rw [show (0 : Int32) = o3 0 from rfl], w1]
    have hc2 := w2.1
    split
    · obtain ⟨q, q1⟩ := r_163 (p2 := o3 g) (p3 := o3 n) (p4 := o3 v) (p5 := a5) w2 c2 0 FU (-2) (by omega) (FU_lt (by omega))
      rw [show (0 : Int32) = o3 0 from rfl]
      exact ⟨q, q1⟩
    · exact ⟨_, rfl⟩
  obtain ⟨q, hq⟩ := hc
  obtain ⟨q', hq'⟩ := hmm
  have f1 : ∀ a k, ¬ (45 ≤ a ∧ a ≤ 50) → ¬ (164 ≤ a ∧ a ≤ 167) → ¬ (a = 145 ∧ k = 36) → S2.1 a k = S.1 a k := fun a k x y z => (e2m.1 a k y z).trans (u2.1 a k x)
  have f2 : ∀ a k, ¬ (45 ≤ a ∧ a ≤ 50) → a ≠ 166 → S2.2 a k = S.2 a k := fun a k x y => (e2m.2 a k y).trans (u2.2 a k x)
  refine ⟨q, q', S1, S2, hq, hq', n', s, L, M, ?_, ?_, ?_, ?_⟩
  · exact rTp_eq hT (f1 _ _ (by omega) (by omega) (by omega)) (f1 _ _ (by omega) (by omega) (by omega)) (fun k => f1 _ _ (by omega) (by omega) (by omega)) (fun k => f1 _ _ (by omega) (by omega) (by omega))
  · exact rSc_eq hS0 (fun a k _ _ => f1 _ _ (by omega) (by omega) (by omega)) (fun a k _ _ => f2 _ _ (by omega) (by omega)) (by rw [f1 3 3 (by omega) (by omega) (by omega)]; exact b5) (fun k => f1 _ _ (by omega) (by omega) (by omega)) (fun a k _ => f2 _ _ (by omega) (by omega))
  · exact rRu_eq hL (f1 _ _ (by omega) (by omega) (by omega)) (f1 _ _ (by omega) (by omega) (by omega)) (fun a k _ _ _ => f1 _ _ (by omega) (by omega) (by omega)) (fun a k _ => f1 _ _ (by omega) (by omega) (by omega))
  · exact rIm_eq hM (fun a k _ _ => f1 _ _ (by omega) (by omega) (by omega)) (fun a k _ _ => f2 _ _ (by omega) (by omega)) (fun k => f1 _ _ (by omega) (by omega) (by omega)) (fun k => f2 _ _ (by omega) (by omega)) (fun k => f1 _ _ (by omega) (by omega) (by omega))
end
