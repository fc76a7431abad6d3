section
theorem if1z {p : Prop} [Decidable p] {α : Type} {A B : α} : (if (if p then (1 : Int32) else 0) = 0 then A else B) = if p then B else A := by
  by_cases h : p
  · rw [if_pos h, if_pos h, if_neg (by decide)]
  · rw [if_neg h, if_neg h, if_pos rfl]
/-- the class: so many tries -/
theorem cm_66 {F : List (Nat × Nat)} {E : List St5} {n h : Nat} {p5 : Int32} (hF : ∀ q ∈ F, okF q) (hE : ∀ q ∈ E, okS F.length q) (hm : F.length ≤ 10) (hl : E.length ≤ 12) {i j m r : Nat} (hi : i < n) (hj : j < n) (hm2 : m ≤ 200) (hr : r < 2147483648) (h9 : h ≤ 9999) {C : Cw} (c1 : C.1 = n) (c2 : C.2.1 = h) (c3 : okD F.length E C) {K : Int32 → Int32 → fS → Option (Int32 × fS)} : ∀ d k nn (x y : Int32) T, k + d = r → d < nn → cwC T 11 C → twC T 4 F E → 0 ≤ (T.1 3 3).toInt → ∃ x' y' U, lp_X10_meetings_66 (o3 i) (o3 j) (o3 r) (o3 m) p5 K nn x y (o3 k) T = K x' y' U ∧ 0 ≤ (U.1 3 3).toInt ∧ eMt T U := by
  intro d
  induction d with
  | zero =>
    intro k nn x y T hk hnn c4 hT hx
    obtain ⟨nn, rfl⟩ : ∃ z, nn = z + 1 := ⟨nn - 1, by omega⟩
    rw [lp_X10_meetings_66.eq_2, if_pos ((o3_le (by omega) (by omega)).mpr (by omega))]
    exact ⟨x, y, T, rfl, hx, eMt.rf⟩
  | succ d ih =>
    intro k nn x y T hk hnn c4 hT hx
    obtain ⟨nn, rfl⟩ : ∃ z, nn = z + 1 := ⟨nn - 1, by omega⟩
    obtain ⟨q, U, u1, u2, u3, u4, u5⟩ := cm_met hF hE hm hl hi hj hm2 c1 c2 h9 c3 c4 hT hx
    rw [lp_X10_meetings_66.eq_2, if_neg (fun q => by have := (o3_le (by omega) (by omega)).mp q; omega), u1, bd_some, o3_s]
    split
    · obtain ⟨x', y', V, v1, v2, v3⟩ := ih (k + 1) nn (x + q) (y + 0) U (by omega) (by omega) u2 u3 u4
      exact ⟨x', y', V, v1, v2, u5.tr v3⟩
    · obtain ⟨x', y', V, v1, v2, v3⟩ := ih (k + 1) nn (x + q) (y + 1) U (by omega) (by omega) u2 u3 u4
      exact ⟨x', y', V, v1, v2, u5.tr v3⟩
theorem t_33 (a1 a2 a3 a4 a5 : Int32) (S : fS) (hR : Rel S) : ∃ r r' S1 S2, f_X10_meetings a1 a2 a3 a4 a5 S = some (r, S1) ∧ f_X11_meetings a1 a2 a3 a4 a5 S1 = some (r', S2) ∧ Rel S2 := by
  have hR0 := hR
  obtain ⟨n', s, L, M, hT, hS, hL, hM⟩ := hR
  have hS0 := hS
  obtain ⟨⟨n1, n2, n3, n4, n5, n6⟩, ⟨b1, b2, b3, b4, b5⟩, ⟨m1, m2, m3, m4⟩, d⟩ := hS
  have h8 := n5.1
  have i1 : f_X10_isFrom a5 0 1 S = some (if ((0 : Nat) : Int) ≤ a5.toInt ∧ a5.toInt ≤ ((1 : Nat) : Int) then 1 else 0) := from_c (a := 0) (b := 1) (by omega) (by omega)
  have i2 : f_X10_isFrom a3 1 20 S = some (if ((1 : Nat) : Int) ≤ a3.toInt ∧ a3.toInt ≤ ((20 : Nat) : Int) then 1 else 0) := from_c (a := 1) (b := 20) (by omega) (by omega)
  have i3 : f_X10_isFrom a4 1 200 S = some (if ((1 : Nat) : Int) ≤ a4.toInt ∧ a4.toInt ≤ ((200 : Nat) : Int) then 1 else 0) := from_c (a := 1) (b := 200) (by omega) (by omega)
  have j1 : ∀ T : fS, f_X11_in (Int32.toInt64 a5) 0 1 T = some (if ((0 : Nat) : Int) ≤ a5.toInt ∧ a5.toInt ≤ ((1 : Nat) : Int) then 1 else 0) := fun T => in_c (a := 0) (b := 1) (by omega) (by omega)
  have j2 : ∀ T : fS, f_X11_in (Int32.toInt64 a3) 1 20 T = some (if ((1 : Nat) : Int) ≤ a3.toInt ∧ a3.toInt ≤ ((20 : Nat) : Int) then 1 else 0) := fun T => in_c (a := 1) (b := 20) (by omega) (by omega)
  have j3 : ∀ T : fS, f_X11_in (Int32.toInt64 a4) 1 200 T = some (if ((1 : Nat) : Int) ≤ a4.toInt ∧ a4.toInt ≤ ((200 : Nat) : Int) then 1 else 0) := fun T => in_c (a := 1) (b := 200) (by omega) (by omega)
  have no : f_X10_meetings a1 a2 a3 a4 a5 S = some (-1, S) → f_X11_meetings a1 a2 a3 a4 a5 S = some (-1, S) → ∃ r r' S1 S2, f_X10_meetings a1 a2 a3 a4 a5 S = some (r, S1) ∧ f_X11_meetings a1 a2 a3 a4 a5 S1 = some (r', S2) ∧ Rel S2 := fun h g => ⟨-1, -1, S, S, h, g, hR0⟩
  have n1z : ¬ (1 : Int32) = 0 := by decide
  by_cases h1 : ¬ (0 ≤ a1.toInt ∧ a1.toInt < s.2.2.1.1)
  · refine no ?_ ?_
    · unfold f_X10_meetings; rw [ci_thing b3.1 (by omega), bd_some, if_neg h1, if_pos rfl]
    · unfold f_X11_meetings; rw [mi_thing m2.1 (by omega), bd_some, if_neg h1, if_pos rfl]
  have h1 := Decidable.not_not.mp h1
  by_cases h2 : ¬ (0 ≤ a2.toInt ∧ a2.toInt < s.2.2.1.1)
  · refine no ?_ ?_
    · unfold f_X10_meetings; rw [ci_thing b3.1 (by omega), bd_some, if_pos h1, if_neg n1z, ci_thing b3.1 (by omega), bd_some, if_neg h2, if_pos rfl]
    · unfold f_X11_meetings; rw [mi_thing m2.1 (by omega), bd_some, if_pos h1, if_neg n1z, mi_thing m2.1 (by omega), bd_some, if_neg h2, if_pos rfl]
  have h2 := Decidable.not_not.mp h2
  by_cases h3 : a1 = a2
  · refine no ?_ ?_
    · unfold f_X10_meetings; rw [ci_thing b3.1 (by omega), bd_some, if_pos h1, if_neg n1z, ci_thing b3.1 (by omega), bd_some, if_pos h2, if_neg n1z, if_pos h3]
    · unfold f_X11_meetings; rw [mi_thing m2.1 (by omega), bd_some, if_pos h1, if_neg n1z, mi_thing m2.1 (by omega), bd_some, if_pos h2, if_neg n1z, if_pos h3]
  have cP : f_X10_meetings a1 a2 a3 a4 a5 S = if ((0 : Nat) : Int) ≤ a5.toInt ∧ a5.toInt ≤ ((1 : Nat) : Int) then (if ((1 : Nat) : Int) ≤ a3.toInt ∧ a3.toInt ≤ ((20 : Nat) : Int) then (if ((1 : Nat) : Int) ≤ a4.toInt ∧ a4.toInt ≤ ((200 : Nat) : Int) then (lp_X10_meetings_66 a1 a2 a3 a4 a5 (fun u27 u28 S29 => if a5 = (0 : Int32) then (some (u27, S29)) else (some (u28, S29))) FU (0 : Int32) (0 : Int32) (0 : Int32) S) else some (-1, S)) else some (-1, S)) else some (-1, S) := by
    unfold f_X10_meetings; rw [ci_thing b3.1 (by omega), bd_some, if_pos h1, if_neg n1z, ci_thing b3.1 (by omega), bd_some, if_pos h2, if_neg n1z, if_neg h3, i1, bd_some, i2, bd_some, i3, bd_some]
    rw [if1z, if1z, if1z]
  have mP : ∀ T : fS, T.1 157 2 = S.1 157 2 → f_X11_meetings a1 a2 a3 a4 a5 T = if ((1 : Nat) : Int) ≤ a3.toInt ∧ a3.toInt ≤ ((20 : Nat) : Int) then (if ((1 : Nat) : Int) ≤ a4.toInt ∧ a4.toInt ≤ ((200 : Nat) : Int) then (if ((0 : Nat) : Int) ≤ a5.toInt ∧ a5.toInt ≤ ((1 : Nat) : Int) then ((f_X11_keeps T).bind fun q22 => (gI q22 157 158 (5 : Int32)).bind fun a25 => (some (pL q22 145 37 (Int32.toInt64 a25))).bind fun S28 => lp_X11_meetings_83 a1 a2 a3 a4 a5 (fun u66 u67 S68 => if a5 = (0 : Int32) then (some (u66, S68)) else (some (u67, S68))) FU (0 : Int32) (0 : Int32) (0 : Int32) S28) else some (-1, T)) else some (-1, T)) else some (-1, T) := fun T hTT => by
    unfold f_X11_meetings; rw [mi_thing (hTT.trans m2.1) (by omega), bd_some, if_pos h1, if_neg n1z, mi_thing (hTT.trans m2.1) (by omega), bd_some, if_pos h2, if_neg n1z, if_neg h3, j2, bd_some, j3, bd_some, j1, bd_some]
    rw [if1z, if1z, if1z]
  by_cases g5 : ¬ (((0 : Nat) : Int) ≤ a5.toInt ∧ a5.toInt ≤ ((1 : Nat) : Int))
  · refine no (by rw [cP, if_neg g5]) ?_
    rw [mP S rfl, if_neg g5]
    split
    · split
      · rfl
      · rfl
    · rfl
  have g5 := Decidable.not_not.mp g5
  by_cases g3 : ¬ (((1 : Nat) : Int) ≤ a3.toInt ∧ a3.toInt ≤ ((20 : Nat) : Int))
  · exact no (by rw [cP, if_pos g5, if_neg g3]) (by rw [mP S rfl, if_neg g3])
  have g3 := Decidable.not_not.mp g3
  by_cases g4 : ¬ (((1 : Nat) : Int) ≤ a4.toInt ∧ a4.toInt ≤ ((200 : Nat) : Int))
  · exact no (by rw [cP, if_pos g5, if_pos g3, if_neg g4]) (by rw [mP S rfl, if_pos g3, if_neg g4])
  have g4 := Decidable.not_not.mp g4
  rw [if_pos g5, if_pos g3, if_pos g4] at cP
  obtain ⟨i, e1, e2⟩ := o3_ex h1.1
  obtain ⟨j, e3, e4⟩ := o3_ex h2.1
  obtain ⟨r, e5, e6⟩ := o3_ex (x := a3) (by omega)
  obtain ⟨m, e7, e8⟩ := o3_ex (x := a4) (by omega)
  obtain ⟨x', y', S1, u1, u2, u3⟩ := cm_66 (p5 := a5) (n := s.2.2.1.1) (h := s.2.2.1.2.1) n3 n4 n1 n2 (i := i) (j := j) (m := m) (r := r) (by omega) (by omega) (by omega) (by omega) n5.2.1 rfl rfl (okD_of n5) (K := fun u27 u28 S29 => if a5 = (0 : Int32) then (some (u27, S29)) else (some (u28, S29))) r 0 FU 0 0 S (by omega) (FU_lt (by omega)) b3 b1 b5
  have k157 : S1.1 157 = S.1 157 := funext fun k => u3.1 157 k (by omega) (by omega)
  have k158 : S1.2 158 = S.2 158 := funext fun k => u3.2 158 k (by omega)
  obtain ⟨T, t1, t2, t3, t4, t5⟩ := m_keep (S := S1)
  obtain ⟨x5, e9, e10⟩ := o3_ex (x := S.1 157 5) m4
  have hx5 : x5 < 2147483648 := by
    have := (S.1 157 5).toInt_lt
    omega
  have gk : gI T 157 158 5 = some (o3 x5) := (gI_o (k := 5) (by omega) (by omega)).trans (congrArg some ((t4 157 5 (by omega)).trans ((congrFun k157 5).trans e9)))
  have ek : eMk S1 (pL T 145 37 (o6 x5)) := ⟨fun j hj => t4 157 j (by omega), fun j hj => by rw [pL_ne (by omega)]; exact t5 158 j (by omega), t2, fun j hj => by rw [pL_ne (by omega)]; exact t3 j hj, fun a k x y _ => t4 a k y, fun a k _ _ _ y z => by rw [pL_ne z]; exact t5 a k y⟩
  obtain ⟨x'', y'', S2, w1, w2⟩ := mm_83r (S := S1) (p5 := a5) (n := s.2.2.1.1) (h := s.2.2.1.2.1) n3 n4 n1 n2 (i := i) (j := j) (m := m) (r := r) (by omega) (by omega) (by omega) (by omega) n5.2.1 rfl rfl (okD_of n5) (by rw [k157, k158]; exact m2) (by rw [k157]; exact m1) (K := fun u66 u67 S68 => if a5 = (0 : Int32) then (some (u66, S68)) else (some (u67, S68))) r 0 FU 0 0 (pL T 145 37 (o6 x5)) (by omega) (FU_lt (by omega)) ⟨x5, hx5, pL_eq⟩ ek
  have hc : ∃ q, f_X10_meetings a1 a2 a3 a4 a5 S = some (q, S1) := by
    rw [cP, e1, e3, e5, e7]
    by_cases z : a5 = 0
    · exact ⟨x', u1.trans (if_pos z)⟩
    · exact ⟨y', u1.trans (if_neg z)⟩
  have hmm : ∃ q, f_X11_meetings a1 a2 a3 a4 a5 S1 = some (q, S2) := by
    rw [mP S1 (congrFun k157 2), if_pos g3, if_pos g4, if_pos g5, t1, bd_some, gk, bd_some, bd_some, o6_of3 hx5, e1, e3, e5, e7]
    by_cases z : a5 = 0
    · exact ⟨x'', w1.trans (if_pos z)⟩
    · exact ⟨y'', w1.trans (if_neg z)⟩
  obtain ⟨q, hq⟩ := hc
  obtain ⟨q', hq'⟩ := hmm
  have f1 : ∀ a k, ¬ (31 ≤ a ∧ a ≤ 36) → ¬ (a = 3 ∧ k = 3) → a ≠ 157 → a ≠ 159 → ¬ (a = 145 ∧ k = 23) → S2.1 a k = S.1 a k := fun a k x y z w v => (w2.2.2.2.2.1 a k z w v).trans (u3.1 a k x y)
  have f2 : ∀ a k, ¬ (31 ≤ a ∧ a ≤ 36) → a ≠ 155 → a ≠ 156 → a ≠ 158 → a ≠ 160 → ¬ (a = 145 ∧ k = 37) → S2.2 a k = S.2 a k := fun a k x y z w v q => (w2.2.2.2.2.2 a k y z w v q).trans (u3.2 a k x)
  refine ⟨q, q', S1, S2, hq, hq', n', s, L, M, ?_, ⟨⟨n1, n2, n3, n4, n5, n6⟩, ?_, ?_, ?_⟩, ?_, ?_⟩
  · exact rTp_eq hT (f1 _ _ (by omega) (by omega) (by omega) (by omega) (by omega)) (f1 _ _ (by omega) (by omega) (by omega) (by omega) (by omega)) (fun k => f1 _ _ (by omega) (by omega) (by omega) (by omega) (by omega)) (fun k => f1 _ _ (by omega) (by omega) (by omega) (by omega) (by omega))
  · exact scC_eq hS0.2.1 (fun a k _ _ => f1 _ _ (by omega) (by omega) (by omega) (by omega) (by omega)) (fun a k _ _ => f2 _ _ (by omega) (by omega) (by omega) (by omega) (by omega) (by omega)) (by rw [w2.2.2.2.2.1 3 3 (by omega) (by omega) (by omega)]; exact u2)
  · exact scM_cg hS0.1 hS0.2.2.1 (fun k hk => (w2.1 k hk).trans (congrFun k157 k)) (fun k hk => (w2.2.1 k hk).trans (congrFun k158 k))
  · exact rHm_eq d (fun k => f2 _ _ (by omega) (by omega) (by omega) (by omega) (by omega) (by omega))
  · exact rRu_eq hL (f1 _ _ (by omega) (by omega) (by omega) (by omega) (by omega)) (f1 _ _ (by omega) (by omega) (by omega) (by omega) (by omega)) (fun a k _ _ _ => f1 _ _ (by omega) (by omega) (by omega) (by omega) (by omega)) (fun a k _ => f1 _ _ (by omega) (by omega) (by omega) (by omega) (by omega))
  · exact rIm_eq hM (fun a k _ _ => f1 _ _ (by omega) (by omega) (by omega) (by omega) (by omega)) (fun a k _ _ => f2 _ _ (by omega) (by omega) (by omega) (by omega) (by omega) (by omega)) (fun k => f1 _ _ (by omega) (by omega) (by omega) (by omega) (by omega)) (fun k => f2 _ _ (by omega) (by omega) (by omega) (by omega) (by omega) (by omega)) (fun k => f1 _ _ (by omega) (by omega) (by omega) (by omega) (by omega))
end
