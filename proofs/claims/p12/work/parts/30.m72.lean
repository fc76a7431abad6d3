section
/-! image(), back(), seed(), count() -/
theorem c_copyS {S : fS} {b c : Nat} {s : Sn} (hd : b + 18 < c ∨ c + 18 < b) (hN : okN s) (hS : scC S c s) : ∃ Y, f_X6_copyFrom b c S = some Y ∧ scC Y b s ∧ (∀ a k, ¬ (b ≤ a ∧ a ≤ b + 18) → Y.1 a k = S.1 a k ∧ Y.2 a k = S.2 a k) ∧ Y.1 b 4 = S.1 b 4 ∧ Y.1 b 3 = S.1 c 3 := by
  obtain ⟨n1, n2, n3, n4, n5, n6⟩ := hN
  obtain ⟨b1, b2, b3, b4, b5⟩ := hS
  have h8 := n5.1
  have h12 := n6.1
  obtain ⟨T1, x1, x2, x3, x4, x5, x6, x7⟩ := c_copyT (S := S) (b := b + 1) (c := c + 1) (by omega)
  obtain ⟨T2, y1, y2, y3, y4, y5⟩ := c_copyC (S := T1) (b := b + 8) (c := c + 8) (by omega)
  obtain ⟨T3, z1, z2, z3, z4, z5⟩ := c_copyP (S := T2) (b := b + 14) (c := c + 14) (by omega)
  unfold f_X6_copyFrom
  rw [x1, bd_some, y1, bd_some, z1, bd_some, bd_some]
  have f2 : ∀ a k, ¬ (b + 8 ≤ a ∧ a ≤ b + 18) → T3.1 a k = T1.1 a k := fun a k h => (z4 a k (by omega)).trans (y5 a k (by omega)).1
  have f3 : ∀ a k, ¬ (b + 1 ≤ a ∧ a ≤ b + 18) → T3.1 a k = S.1 a k := fun a k h => (f2 a k (by omega)).trans (x7 a k (by omega)).1
  have g3 : ∀ a k, ¬ (b + 1 ≤ a ∧ a ≤ b + 18) → T3.2 a k = S.2 a k := fun a k h => by rw [z5, (y5 a k (by omega)).2, (x7 a k (by omega)).2]
  have g2 : ∀ a k, ¬ (b + 8 ≤ a ∧ a ≤ b + 13) → T3.2 a k = T1.2 a k := fun a k h => by rw [z5, (y5 a k (by omega)).2]
  refine ⟨_, rfl, ⟨⟨?_, ?_, fun k hk => ?_, fun k hk => ⟨?_, ?_, ?_, ?_⟩⟩, fun p q hp hq => ?_, ⟨?_, ?_, fun k hk => ⟨?_, ?_, ?_, ?_, ?_⟩⟩, ⟨?_, fun k hk => ⟨?_, ?_, ?_, ?_⟩⟩, ?_⟩, fun a k h => ⟨?_, ?_⟩, ?_, ?_⟩
  · rw [pI_ne (by omega), f2 _ _ (by omega), x2]; exact b1.1
  · rw [pI_ne (by omega), f2 _ _ (by omega), x3]; exact b1.2.1
  · rw [pI_2', g2 _ _ (by omega), x4 k (by omega)]; exact b1.2.2.1 k hk
  · rw [pI_ne (by omega), f2 _ _ (by omega), (x5 k (by omega)).1]; exact (b1.2.2.2 k hk).1
  · rw [pI_ne (by omega), f2 _ _ (by omega), (x5 k (by omega)).2.1]; exact (b1.2.2.2 k hk).2.1
  · rw [pI_ne (by omega), f2 _ _ (by omega), (x5 k (by omega)).2.2.1]; exact (b1.2.2.2 k hk).2.2.1
  · rw [pI_2', g2 _ _ (by omega), (x5 k (by omega)).2.2.2]; exact (b1.2.2.2 k hk).2.2.2
  · rw [pI_ne (by omega), f2 _ _ (by omega), show b + 7 = b + 1 + 6 by omega, x6 _ (by omega)]; exact b2 p q hp hq
  · rw [pI_ne (by omega), z4 _ _ (by omega), y2, (x7 _ _ (by omega)).1]; exact b3.1
  · rw [pI_ne (by omega), z4 _ _ (by omega), y3, (x7 _ _ (by omega)).1]; exact b3.2.1
  · rw [pI_ne (by omega), z4 _ _ (by omega), (y4 k (by omega)).1, (x7 _ _ (by omega)).1]; exact (b3.2.2 k hk).1
  · rw [pI_ne (by omega), z4 _ _ (by omega), (y4 k (by omega)).2.1, (x7 _ _ (by omega)).1]; exact (b3.2.2 k hk).2.1
  · rw [pI_ne (by omega), z4 _ _ (by omega), (y4 k (by omega)).2.2.1, (x7 _ _ (by omega)).1]; exact (b3.2.2 k hk).2.2.1
  · rw [pI_ne (by omega), z4 _ _ (by omega), (y4 k (by omega)).2.2.2.1, (x7 _ _ (by omega)).1]; exact (b3.2.2 k hk).2.2.2.1
  · rw [pI_2', z5, (y4 k (by omega)).2.2.2.2, (x7 _ _ (by omega)).2]; exact (b3.2.2 k hk).2.2.2.2
  · rw [pI_ne (by omega), z2, (y5 _ _ (by omega)).1, (x7 _ _ (by omega)).1]; exact b4.1
  · rw [pI_ne (by omega), (z3 k (by omega)).1, (y5 _ _ (by omega)).1, (x7 _ _ (by omega)).1]; exact (b4.2 k hk).1
  · rw [pI_ne (by omega), (z3 k (by omega)).2.1, (y5 _ _ (by omega)).1, (x7 _ _ (by omega)).1]; exact (b4.2 k hk).2.1
  · rw [pI_ne (by omega), (z3 k (by omega)).2.2.1, (y5 _ _ (by omega)).1, (x7 _ _ (by omega)).1]; exact (b4.2 k hk).2.2.1
  · rw [pI_ne (by omega), (z3 k (by omega)).2.2.2, (y5 _ _ (by omega)).1, (x7 _ _ (by omega)).1]; exact (b4.2 k hk).2.2.2
  · rw [pI_eq, f3 _ _ (by omega)]; exact b5
  · rw [pI_ne (by omega), f3 _ _ (by omega)]
  · rw [pI_2', g3 _ _ (by omega)]
  · rw [pI_ne (by omega), f3 _ _ (by omega)]
  · rw [pI_eq, f3 _ _ (by omega)]
theorem mi_23 {i : Nat} (hi : i < 4) {K : fS → Option (Int32 × fS)} : ∀ d k nn (S : fS), k + d = 158 → d < nn → (∀ j, j < k → S.1 168 (158 * i + j) = S.1 157 j) → ∃ T, lp_X11_image_23 (o3 i) K nn (o3 k) S = K T ∧ (∀ j, j < 158 → T.1 168 (158 * i + j) = S.1 157 j) ∧ (∀ a j, ¬ (a = 168 ∧ 158 * i ≤ j ∧ j < 158 * i + 158) → T.1 a j = S.1 a j) ∧ T.2 = S.2 := by
  intro d
  induction d with
  | zero =>
    intro k nn S hk hnn hj
    obtain ⟨nn, rfl⟩ : ∃ z, nn = z + 1 := ⟨nn - 1, by omega⟩
    rw [lp_X11_image_23.eq_2, if_pos (show (158 : Int32) ≤ o3 k from (o3_le (a := 158) (by omega) (by omega)).mpr (by omega))]
    exact ⟨S, rfl, fun j h => hj j (by omega), fun _ _ _ => rfl, rfl⟩
  | succ d ih =>
    intro k nn S hk hnn hj
    obtain ⟨nn, rfl⟩ : ∃ z, nn = z + 1 := ⟨nn - 1, by omega⟩
    rw [lp_X11_image_23.eq_2, if_neg (show ¬ (158 : Int32) ≤ o3 k from fun q => by have := (o3_le (a := 158) (by omega) (by omega)).mp q; omega), gI_o (by omega) (by omega), bd_some, show (158 : Int32) = o3 158 from rfl, o3_mul, o3_add, sI_o (by omega) (by omega), bd_some, o3_s]
    obtain ⟨T, t1, t2, t3, t4⟩ := ih (k + 1) nn (pI S 168 (158 * i + k) (S.1 157 k)) (by omega) (by omega) (fun j h => by
      rw [pI_ne (b := 157) (by omega)]
      by_cases e : j = k
      · subst e; rw [pI_eq]
      · rw [pI_ne (by omega)]; exact hj j (by omega))
    exact ⟨T, t1, fun j h => by rw [t2 j h, pI_ne (by omega)], fun a j h => by rw [t3 a j h, pI_ne (by omega)], t4⟩
theorem mi_56 {i : Nat} (hi : i < 4) {K : fS → Option (Int32 × fS)} : ∀ d k nn (S : fS), k + d = 8 → d < nn → (∀ j, j < k → S.2 169 (8 * i + j) = S.2 158 j) → ∃ T, lp_X11_image_56 (o3 i) K nn (o3 k) S = K T ∧ (∀ j, j < 8 → T.2 169 (8 * i + j) = S.2 158 j) ∧ (∀ a j, ¬ (a = 169 ∧ 8 * i ≤ j ∧ j < 8 * i + 8) → T.2 a j = S.2 a j) ∧ T.1 = S.1 := by
  intro d
  induction d with
  | zero =>
    intro k nn S hk hnn hj
    obtain ⟨nn, rfl⟩ : ∃ z, nn = z + 1 := ⟨nn - 1, by omega⟩
    rw [lp_X11_image_56.eq_2, if_pos (show (8 : Int32) ≤ o3 k from (o3_le (a := 8) (by omega) (by omega)).mpr (by omega))]
    exact ⟨S, rfl, fun j h => hj j (by omega), fun _ _ _ => rfl, rfl⟩
  | succ d ih =>
    intro k nn S hk hnn hj
    obtain ⟨nn, rfl⟩ : ∃ z, nn = z + 1 := ⟨nn - 1, by omega⟩
    rw [lp_X11_image_56.eq_2, if_neg (show ¬ (8 : Int32) ≤ o3 k from fun q => by have := (o3_le (a := 8) (by omega) (by omega)).mp q; omega), gL_o (by omega) (by omega), bd_some, show (8 : Int32) = o3 8 from rfl, o3_mul, o3_add, sL_o (by omega) (by omega), bd_some, o3_s]
    obtain ⟨T, t1, t2, t3, t4⟩ := ih (k + 1) nn (pL S 169 (8 * i + k) (S.2 158 k)) (by omega) (by omega) (fun j h => by
      rw [pL_ne (b := 158) (by omega)]
      by_cases e : j = k
      · subst e; rw [pL_eq]
      · rw [pL_ne (by omega)]; exact hj j (by omega))
    exact ⟨T, t1, fun j h => by rw [t2 j h, pL_ne (by omega)], fun a j h => by rw [t3 a j h, pL_ne (by omega)], t4⟩
theorem scM_cg {I J : Nat → Int32} {A B : Nat → Int64} {s : Sn} (hN : okN s) (h : scM I A s) (h1 : ∀ k, k < 158 → J k = I k) (h2 : ∀ k, k < 8 → B k = A k) : scM J B s := by
  obtain ⟨n1, n2, n3, n4, n5, n6⟩ := hN
  obtain ⟨a, b, c, d⟩ := h
  have h8 := n5.1
  have h12 := n6.1
  refine ⟨twM_eq n1 n2 a (fun k hk => h1 k (by omega)), ⟨(h1 _ (by omega)).trans b.1, (h1 _ (by omega)).trans b.2.1, fun k hk => ?_⟩, ⟨(h1 _ (by omega)).trans c.1, fun k hk => ?_⟩, ?_⟩
  · obtain ⟨e1, e2, e3, e4, e5⟩ := b.2.2 k hk
    exact ⟨(h1 _ (by omega)).trans e1, (h1 _ (by omega)).trans e2, (h1 _ (by omega)).trans e3, (h1 _ (by omega)).trans e4, (h2 _ (by omega)).trans e5⟩
  · obtain ⟨e1, e2, e3⟩ := c.2 k hk
    exact ⟨(h1 _ (by omega)).trans e1, (h1 _ (by omega)).trans e2, (h1 _ (by omega)).trans e3⟩
  · rw [h1 5 (by omega)]; exact d
theorem gA22_o {r : Nat} (h : r < 4) : gA22 (o3 r) = some (51 + 19 * r) := by
  unfold gA22
  rw [if_neg (ix_ok h (by omega)), o3_nat (by omega)]
theorem t_35 (a1 : Int32) (S : fS) (hR : Rel S) : ∃ r S1 S2, f_X10_image a1 S = some (r, S1) ∧ f_X11_image a1 S1 = some (r, S2) ∧ Rel S2 := by
  have hR0 := hR
  obtain ⟨n, s, L, M, hT, hS, hL, hM⟩ := hR
  have hS0 := hS
  obtain ⟨hN, hC, hMm, hd⟩ := hS
  have i1 : f_X10_isFrom a1 0 3 S = some (if ((0 : Nat) : Int) ≤ a1.toInt ∧ a1.toInt ≤ ((3 : Nat) : Int) then 1 else 0) := from_c (a := 0) (b := 3) (by omega) (by omega)
  have i2 : ∀ T : fS, f_X11_in (Int32.toInt64 a1) 0 3 T = some (if ((0 : Nat) : Int) ≤ a1.toInt ∧ a1.toInt ≤ ((3 : Nat) : Int) then 1 else 0) := fun T => in_c (a := 0) (b := 3) (by omega) (by omega)
  unfold f_X10_image
  rw [i1, bd_some]
  by_cases h1 : ((0 : Nat) : Int) ≤ a1.toInt ∧ a1.toInt ≤ ((3 : Nat) : Int)
  · rw [if_pos h1, if_neg (show ¬ (1 : Int32) = 0 by decide)]
    obtain ⟨i, e1, e2⟩ := o3_ex (x := a1) (by omega)
    have hi : i < 4 := by omega
    have i3 : ∀ T : fS, f_X11_in (Int32.toInt64 (o3 i)) 0 3 T = some 1 := fun T => by rw [← e1, i2, if_pos h1]
    obtain ⟨T, c1, c2, c3, c4, c5⟩ := c_copyS (b := 51 + 19 * i) (c := 3) (by omega) hN hC
    rw [e1, gA22_o hi, bd_some, c1, bd_some, bd_some, bd_some]
    generalize hS1 : pI T (51 + 19 * i) 4 1 = S1
    have f1 : ∀ a k, ¬ (51 + 19 * i ≤ a ∧ a ≤ 51 + 19 * i + 18) → S1.1 a k = S.1 a k := fun a k h => by rw [← hS1, pI_ne (by omega), (c3 a k h).1]
    have f2 : ∀ a k, ¬ (51 + 19 * i ≤ a ∧ a ≤ 51 + 19 * i + 18) → S1.2 a k = S.2 a k := fun a k h => by rw [← hS1, pI_2', (c3 a k h).2]
    have f4 : S1.1 (51 + 19 * i) 4 = 1 := by rw [← hS1, pI_eq]
    have fs : scC S1 (51 + 19 * i) s := by
      rw [← hS1]
      exact scC_eq c2 (fun a k _ _ => by rw [pI_ne (by omega)]) (fun a k _ _ => rfl) (by rw [pI_ne (by omega)]; exact c2.2.2.2.2)
    have hv : vp_nar .boolean (1 : Int32) = 1 := by decide
    have e170 : sI S1 170 4 (o3 i) (vp_nar .boolean (1 : Int32)) = some (pI S1 170 i 1) := by rw [hv, sI_o hi (by omega)]
    obtain ⟨T1, t1, t2, t3, t4⟩ := mi_23 hi (K := fun S15 => lp_X11_image_56 (o3 i) (fun S24 => (gI S24 157 158 (3 : Int32)).bind fun a26 => some (a26, S24)) FU (0 : Int32) S15) 158 0 FU (pI S1 170 i 1) (by omega) (FU_lt (by omega)) (fun j hj => absurd hj (Nat.not_lt_zero _))
    obtain ⟨T2, u1, u2, u3, u4⟩ := mi_56 hi (K := fun S24 => (gI S24 157 158 (3 : Int32)).bind fun a26 => some (a26, S24)) 8 0 FU T1 (by omega) (FU_lt (by omega)) (fun j hj => absurd hj (Nat.not_lt_zero _))
    have g1 : ∀ a k, ¬ (a = 168 ∧ 158 * i ≤ k ∧ k < 158 * i + 158) → ¬ (a = 170 ∧ k = i) → T2.1 a k = S1.1 a k := fun a k h h' => by rw [u4, t3 a k h, pI_ne (by omega)]
    have g2 : ∀ a k, ¬ (a = 169 ∧ 8 * i ≤ k ∧ k < 8 * i + 8) → T2.2 a k = S1.2 a k := fun a k h => by rw [u3 a k h, t4]; rfl
    have k1 : ∀ a k, ¬ (51 + 19 * i ≤ a ∧ a ≤ 51 + 19 * i + 18) → ¬ (a = 168 ∧ 158 * i ≤ k ∧ k < 158 * i + 158) → ¬ (a = 170 ∧ k = i) → T2.1 a k = S.1 a k := fun a k x y z => (g1 a k y z).trans (f1 a k x)
    have k2 : ∀ a k, ¬ (51 + 19 * i ≤ a ∧ a ≤ 51 + 19 * i + 18) → ¬ (a = 169 ∧ 8 * i ≤ k ∧ k < 8 * i + 8) → T2.2 a k = S.2 a k := fun a k x y => (g2 a k y).trans (f2 a k x)
    refine ⟨_, S1, T2, rfl, ?_, n, s, L, fun j => if j = i then some s else M j, ?_, ?_, ?_, fun j hj => ?_⟩
    · unfold f_X11_image
      rw [i3, bd_some, if_neg (show ¬ (1 : Int32) = 0 by decide), e170, bd_some]
      refine (show lp_X11_image_23 (o3 i) (fun S15 => lp_X11_image_56 (o3 i) (fun S24 => (gI S24 157 158 (3 : Int32)).bind fun a26 => some (a26, S24)) FU (0 : Int32) S15) FU (0 : Int32) (pI S1 170 i 1) = _ from t1.trans u1).trans ?_
      rw [show (3 : Int32) = o3 3 from rfl, gI_o (by omega) (by omega), bd_some, k1 157 3 (by omega) (by omega) (by omega), f1 11 6 (by omega), hMm.2.1.2.1]
      exact congrArg (fun z => some (z, T2)) hC.2.2.1.2.1.symm
    · exact rTp_eq hT (k1 _ _ (by omega) (by omega) (by omega)) (k1 _ _ (by omega) (by omega) (by omega)) (fun k => k1 _ _ (by omega) (by omega) (by omega)) (fun k => k1 _ _ (by omega) (by omega) (by omega))
    · exact rSc_eq hS0 (fun a k _ _ => k1 a k (by omega) (by omega) (by omega)) (fun a k _ _ => k2 a k (by omega) (by omega)) (by rw [k1 3 3 (by omega) (by omega) (by omega)]; exact hC.2.2.2.2) (fun k => k1 _ _ (by omega) (by omega) (by omega)) (fun a k _ => k2 a k (by omega) (by omega))
    · exact rRu_eq hL (k1 _ _ (by omega) (by omega) (by omega)) (k1 _ _ (by omega) (by omega) (by omega)) (fun a k _ _ _ => k1 a k (by omega) (by omega) (by omega)) (fun a k _ => k1 a k (by omega) (by omega) (by omega))
    · by_cases e : j = i
      · subst e
        refine Or.inr ⟨s, if_pos rfl, ?_, ?_, hN, ?_, ?_⟩
        · rw [g1 _ _ (by omega) (by omega)]; exact f4
        · rw [u4, t3 _ _ (by omega), pI_eq]
        · exact scC_eq fs (fun a k _ _ => g1 a k (by omega) (by omega)) (fun a k _ _ => g2 a k (by omega)) (by rw [g1 _ _ (by omega) (by omega)]; exact fs.2.2.2.2)
        · refine scM_cg hN hMm (fun k hk => ?_) (fun k hk => ?_)
          · show T2.1 168 (158 * j + k) = _
            rw [u4, t2 k hk, pI_ne (by omega), f1 _ _ (by omega)]
          · show T2.2 169 (8 * j + k) = _
            rw [u2 k hk, t4, pI_2', f2 _ _ (by omega)]
      · have hne : (fun j => if j = i then some s else M j) j = M j := if_neg e
        rw [hne]
        rcases hM j hj with ⟨x, y, z⟩ | ⟨s', x, y, z, w1, w2, w3⟩
        · exact Or.inl ⟨x, (k1 _ _ (by omega) (by omega) (by omega)).trans y, (k1 _ _ (by omega) (by omega) (by omega)).trans z⟩
        · refine Or.inr ⟨s', x, (k1 _ _ (by omega) (by omega) (by omega)).trans y, (k1 _ _ (by omega) (by omega) (by omega)).trans z, w1, ?_, ?_⟩
          · exact scC_eq w2 (fun a k _ _ => k1 a k (by omega) (by omega) (by omega)) (fun a k _ _ => k2 a k (by omega) (by omega)) (by rw [k1 _ _ (by omega) (by omega) (by omega)]; exact w2.2.2.2.2)
          · exact scM_cg w1 w3 (fun k hk => k1 _ _ (by omega) (by omega) (by omega)) (fun k hk => k2 _ _ (by omega) (by omega))
  · rw [if_neg h1, if_pos rfl]
    refine ⟨-1, S, S, rfl, ?_, hR0⟩
    unfold f_X11_image
    rw [i2, bd_some, if_neg h1, if_pos rfl]
theorem mb_25 {i : Nat} (hi : i < 4) {K : fS → Option (Int32 × fS)} : ∀ d k nn (S : fS), k + d = 158 → d < nn → (∀ j, j < k → S.1 157 j = S.1 168 (158 * i + j)) → ∃ T, lp_X11_back_25 (o3 i) K nn (o3 k) S = K T ∧ (∀ j, j < 158 → T.1 157 j = S.1 168 (158 * i + j)) ∧ (∀ a j, a ≠ 157 → T.1 a j = S.1 a j) ∧ T.2 = S.2 := by
  intro d
  induction d with
  | zero =>
    intro k nn S hk hnn hj
    obtain ⟨nn, rfl⟩ : ∃ z, nn = z + 1 := ⟨nn - 1, by omega⟩
    rw [lp_X11_back_25.eq_2, if_pos (show (158 : Int32) ≤ o3 k from (o3_le (a := 158) (by omega) (by omega)).mpr (by omega))]
    exact ⟨S, rfl, fun j h => hj j (by omega), fun _ _ _ => rfl, rfl⟩
  | succ d ih =>
    intro k nn S hk hnn hj
    obtain ⟨nn, rfl⟩ : ∃ z, nn = z + 1 := ⟨nn - 1, by omega⟩
    rw [lp_X11_back_25.eq_2, if_neg (show ¬ (158 : Int32) ≤ o3 k from fun q => by have := (o3_le (a := 158) (by omega) (by omega)).mp q; omega), show (158 : Int32) = o3 158 from rfl, o3_mul, o3_add, gI_o (by omega) (by omega), bd_some, sI_o (by omega) (by omega), bd_some, o3_s]
    obtain ⟨T, t1, t2, t3, t4⟩ := ih (k + 1) nn (pI S 157 k (S.1 168 (158 * i + k))) (by omega) (by omega) (fun j h => by
      rw [pI_ne (b := 168) (by omega)]
      by_cases e : j = k
      · subst e; rw [pI_eq]
      · rw [pI_ne (by omega)]; exact hj j (by omega))
    exact ⟨T, t1, fun j h => by rw [t2 j h, pI_ne (by omega)], fun a j h => by rw [t3 a j h, pI_ne (by omega)], t4⟩
theorem mb_58 {i : Nat} (hi : i < 4) {K : fS → Option (Int32 × fS)} : ∀ d k nn (S : fS), k + d = 8 → d < nn → (∀ j, j < k → S.2 158 j = S.2 169 (8 * i + j)) → ∃ T, lp_X11_back_58 (o3 i) K nn (o3 k) S = K T ∧ (∀ j, j < 8 → T.2 158 j = S.2 169 (8 * i + j)) ∧ (∀ a j, a ≠ 158 → T.2 a j = S.2 a j) ∧ T.1 = S.1 := by
  intro d
  induction d with
  | zero =>
    intro k nn S hk hnn hj
    obtain ⟨nn, rfl⟩ : ∃ z, nn = z + 1 := ⟨nn - 1, by omega⟩
    rw [lp_X11_back_58.eq_2, if_pos (show (8 : Int32) ≤ o3 k from (o3_le (a := 8) (by omega) (by omega)).mpr (by omega))]
    exact ⟨S, rfl, fun j h => hj j (by omega), fun _ _ _ => rfl, rfl⟩
  | succ d ih =>
    intro k nn S hk hnn hj
    obtain ⟨nn, rfl⟩ : ∃ z, nn = z + 1 := ⟨nn - 1, by omega⟩
    rw [lp_X11_back_58.eq_2, if_neg (show ¬ (8 : Int32) ≤ o3 k from fun q => by have := (o3_le (a := 8) (by omega) (by omega)).mp q; omega), show (8 : Int32) = o3 8 from rfl, o3_mul, o3_add, gL_o (by omega) (by omega), bd_some, sL_o (by omega) (by omega), bd_some, o3_s]
    obtain ⟨T, t1, t2, t3, t4⟩ := ih (k + 1) nn (pL S 158 k (S.2 169 (8 * i + k))) (by omega) (by omega) (fun j h => by
      rw [pL_ne (b := 169) (by omega)]
      by_cases e : j = k
      · subst e; rw [pL_eq]
      · rw [pL_ne (by omega)]; exact hj j (by omega))
    exact ⟨T, t1, fun j h => by rw [t2 j h, pL_ne (by omega)], fun a j h => by rw [t3 a j h, pL_ne (by omega)], t4⟩
theorem t_36 (a1 : Int32) (S : fS) (hR : Rel S) : ∃ r S1 S2, f_X10_back a1 S = some (r, S1) ∧ f_X11_back a1 S1 = some (r, S2) ∧ Rel S2 := by
  have hR0 := hR
  obtain ⟨n, s, L, M, hT, hS, hL, hM⟩ := hR
  have i1 : f_X10_isFrom a1 0 3 S = some (if ((0 : Nat) : Int) ≤ a1.toInt ∧ a1.toInt ≤ ((3 : Nat) : Int) then 1 else 0) := from_c (a := 0) (b := 3) (by omega) (by omega)
  have i2 : ∀ T : fS, f_X11_in (Int32.toInt64 a1) 0 3 T = some (if ((0 : Nat) : Int) ≤ a1.toInt ∧ a1.toInt ≤ ((3 : Nat) : Int) then 1 else 0) := fun T => in_c (a := 0) (b := 3) (by omega) (by omega)
  unfold f_X10_back
  rw [i1, bd_some]
  by_cases h1 : ((0 : Nat) : Int) ≤ a1.toInt ∧ a1.toInt ≤ ((3 : Nat) : Int)
  · rw [if_pos h1, if_neg (show ¬ (1 : Int32) = 0 by decide)]
    obtain ⟨i, e1, e2⟩ := o3_ex (x := a1) (by omega)
    have hi : i < 4 := by omega
    have i3 : ∀ T : fS, f_X11_in (Int32.toInt64 (o3 i)) 0 3 T = some 1 := fun T => by rw [← e1, i2, if_pos h1]
    rw [e1, gA22_o hi, bd_some, bd_some]
    rcases hM i hi with ⟨x, y, z⟩ | ⟨s', x, y, z, w1, w2, w3⟩
    · rw [y, if_pos rfl]
      refine ⟨-1, S, S, rfl, ?_, hR0⟩
      unfold f_X11_back
      rw [i3, bd_some, if_neg (show ¬ (1 : Int32) = 0 by decide), gI_o hi (by omega), bd_some, z, if_pos rfl]
    · rw [y, if_neg (show ¬ (1 : Int32) = 0 by decide)]
      obtain ⟨S1, c1, c2, c3, c4, c5⟩ := c_copyS (b := 3) (c := 51 + 19 * i) (by omega) w1 w2
      rw [c1, bd_some]
      have f1 : ∀ a k, ¬ (3 ≤ a ∧ a ≤ 21) → S1.1 a k = S.1 a k := fun a k h => (c3 a k (by omega)).1
      have f2 : ∀ a k, ¬ (3 ≤ a ∧ a ≤ 21) → S1.2 a k = S.2 a k := fun a k h => (c3 a k (by omega)).2
      obtain ⟨T1, t1, t2, t3, t4⟩ := mb_25 hi (K := fun S16 => lp_X11_back_58 (o3 i) (fun S25 => (f_X11_spreads S25).bind fun q27 => (gI q27 157 158 (3 : Int32)).bind fun a30 => some (a30, q27)) FU (0 : Int32) S16) 158 0 FU S1 (by omega) (FU_lt (by omega)) (fun j hj => absurd hj (Nat.not_lt_zero _))
      obtain ⟨T2, u1, u2, u3, u4⟩ := mb_58 hi (K := fun S25 => (f_X11_spreads S25).bind fun q27 => (gI q27 157 158 (3 : Int32)).bind fun a30 => some (a30, q27)) 8 0 FU T1 (by omega) (FU_lt (by omega)) (fun j hj => absurd hj (Nat.not_lt_zero _))
      have hsM : scM (T2.1 157) (T2.2 158) s' := scM_cg w1 w3 (fun k hk => by rw [u4, t2 k hk, f1 _ _ (by omega)]) (fun k hk => by rw [u2 k hk, t4, f2 _ _ (by omega)])
      obtain ⟨T3, v1, v2, v3⟩ := m_spreads hsM.1 w1.1 w1.2.1 w1.2.2.2.1
      have g1 : ∀ a k, a ≠ 157 → T3.1 a k = S1.1 a k := fun a k h => by rw [v3.1, u4, t3 a k h]
      have g2 : ∀ a k, a ≠ 158 → a ≠ 161 → T3.2 a k = S1.2 a k := fun a k h h' => by rw [v3.2 a k (by omega), u3 a k h, t4]
      have k1 : ∀ a k, ¬ (3 ≤ a ∧ a ≤ 21) → a ≠ 157 → T3.1 a k = S.1 a k := fun a k x y => (g1 a k y).trans (f1 a k x)
      have k2 : ∀ a k, ¬ (3 ≤ a ∧ a ≤ 21) → a ≠ 158 → a ≠ 161 → T3.2 a k = S.2 a k := fun a k x y z => (g2 a k y z).trans (f2 a k x)
      have h157 : T3.1 157 = T2.1 157 := by rw [v3.1]
      have h158 : T3.2 158 = T2.2 158 := funext fun k => v3.2 158 k (by omega)
      refine ⟨_, S1, T3, rfl, ?_, n, s', L, M, ?_, ⟨w1, ?_, ?_, ?_⟩, ?_, ?_⟩
      · unfold f_X11_back
        rw [i3, bd_some, if_neg (show ¬ (1 : Int32) = 0 by decide), gI_o hi (by omega), bd_some, f1 _ _ (by omega), z, if_neg (show ¬ (1 : Int32) = 0 by decide)]
        refine (show lp_X11_back_25 (o3 i) (fun S16 => lp_X11_back_58 (o3 i) (fun S25 => (f_X11_spreads S25).bind fun q27 => (gI q27 157 158 (3 : Int32)).bind fun a30 => some (a30, q27)) FU (0 : Int32) S16) FU (0 : Int32) S1 = _ from t1.trans u1).trans ?_
        rw [v1, bd_some, show (3 : Int32) = o3 3 from rfl, gI_o (by omega) (by omega), bd_some, h157, hsM.2.1.2.1]
        exact congrArg (fun z => some (z, T3)) c2.2.2.1.2.1.symm
      · exact rTp_eq hT (k1 _ _ (by omega) (by omega)) (k1 _ _ (by omega) (by omega)) (fun k => k1 _ _ (by omega) (by omega)) (fun k => k1 _ _ (by omega) (by omega))
      · exact scC_eq c2 (fun a k _ _ => g1 a k (by omega)) (fun a k _ _ => g2 a k (by omega) (by omega)) (by rw [g1 _ _ (by omega)]; exact c2.2.2.2.2)
      · rw [h157, h158]; exact hsM
      · exact fun a b ha hb => v2 a b (Nat.lt_of_lt_of_le ha w1.1) (Nat.lt_of_lt_of_le hb w1.1)
      · exact rRu_eq hL (k1 _ _ (by omega) (by omega)) (k1 _ _ (by omega) (by omega)) (fun a k _ _ _ => k1 a k (by omega) (by omega)) (fun a k _ => k1 a k (by omega) (by omega))
      · exact rIm_eq hM (fun a k _ _ => k1 a k (by omega) (by omega)) (fun a k _ _ => k2 a k (by omega) (by omega) (by omega)) (fun k => k1 _ _ (by omega) (by omega)) (fun k => k2 _ k (by omega) (by omega) (by omega)) (fun k => k1 _ _ (by omega) (by omega))
  · rw [if_neg h1, if_pos rfl]
    refine ⟨-1, S, S, rfl, ?_, hR0⟩
    unfold f_X11_back
    rw [i2, bd_some, if_neg h1, if_pos rfl]
theorem t_32 (a1 : Int32) (S : fS) (hR : Rel S) : ∃ r r' S1 S2, f_X10_seed a1 S = some (r, S1) ∧ f_X11_seed a1 S1 = some (r', S2) ∧ Rel S2 := by
  have hR0 := hR
  obtain ⟨n, s, L, M, hT, hS, hL, hM⟩ := hR
  unfold f_X10_seed
  by_cases h : (0 : Int32) ≤ a1
  · rw [if_pos h, bd_some]
    have h' : 0 ≤ a1.toInt := by have := ni_le.mp h; rw [ni_0] at this; exact this
    refine ⟨_, S.1 157 5, pI S 3 3 a1, pI (pI S 3 3 a1) 157 5 a1, rfl, ?_, n, s, L, M, ?_, ?_, ?_, ?_⟩
    · unfold f_X11_seed
      rw [if_pos h, show (5 : Int32) = o3 5 from rfl, gI_o (by omega) (by omega), bd_some, sI_o (by omega) (by omega), bd_some, pI_ne (by omega)]
    · exact rTp_eq hT (by rw [pI_ne (by omega), pI_ne (by omega)]) (by rw [pI_ne (by omega), pI_ne (by omega)]) (fun k => by rw [pI_ne (by omega), pI_ne (by omega)]) (fun k => by rw [pI_ne (by omega), pI_ne (by omega)])
    · obtain ⟨hN, hC, hMm, hd⟩ := hS
      refine ⟨hN, scC_eq hC (fun a k _ _ => by rw [pI_ne (by omega), pI_ne (by omega)]) (fun _ _ _ _ => rfl) (by rw [pI_ne (by omega), pI_eq]; exact h'), ?_, rHm_eq hd (fun _ => rfl)⟩
      obtain ⟨m1, m2, m3, m4⟩ := hMm
      have h8 := hN.2.2.2.2.1.1
      have h12 := hN.2.2.2.2.2.1
      refine ⟨twM_eq hN.1 hN.2.1 m1 (fun k hk => by rw [pI_ne (by omega), pI_ne (by omega)]), ⟨?_, ?_, fun k hk => ?_⟩, ⟨?_, fun k hk => ?_⟩, ?_⟩
      · rw [pI_ne (by omega), pI_ne (by omega)]; exact m2.1
      · rw [pI_ne (by omega), pI_ne (by omega)]; exact m2.2.1
      · rw [pI_ne (by omega), pI_ne (by omega), pI_ne (by omega), pI_ne (by omega), pI_ne (by omega), pI_ne (by omega), pI_ne (by omega), pI_ne (by omega)]; exact m2.2.2 k hk
      · rw [pI_ne (by omega), pI_ne (by omega)]; exact m3.1
      · rw [pI_ne (by omega), pI_ne (by omega), pI_ne (by omega), pI_ne (by omega), pI_ne (by omega), pI_ne (by omega)]; exact m3.2 k hk
      · rw [pI_eq]; exact h'
    · exact rRu_eq hL (by rw [pI_ne (by omega), pI_ne (by omega)]) (by rw [pI_ne (by omega), pI_ne (by omega)]) (fun a k _ _ _ => by rw [pI_ne (by omega), pI_ne (by omega)]) (fun a k _ => by rw [pI_ne (by omega), pI_ne (by omega)])
    · exact rIm_eq hM (fun a k _ _ => by rw [pI_ne (by omega), pI_ne (by omega)]) (fun _ _ _ _ => rfl) (fun k => by rw [pI_ne (by omega), pI_ne (by omega)]) (fun _ => rfl) (fun k => by rw [pI_ne (by omega), pI_ne (by omega)])
  · rw [if_neg h]
    refine ⟨-1, -1, S, S, rfl, ?_, hR0⟩
    unfold f_X11_seed
    rw [if_neg h]
theorem t_34 (a1 : Int32) (S : fS) (hR : Rel S) : ∃ r r', f_X10_count a1 S = some r ∧ f_X11_count a1 S = some r' ∧ Rel S := by
  have hR0 := hR
  obtain ⟨n, s, L, M, hT, ⟨⟨n1, n2, n3, n4, n5, n6⟩, ⟨b1, b2, b3, b4, b5⟩, ⟨m1, m2, m3, m4⟩, d⟩, hL, hM⟩ := hR
  have h12 := n6.1
  have h8 := n5.1
  have hg4 : gI S 157 158 4 = some (o3 s.2.2.2.1) := (gI_o (k := 4) (by omega) (by omega)).trans (congrArg some m3.1)
  have hc4 : S.1 17 4 = o3 s.2.2.2.1 := b4.1
  have q1 : ∀ dd k nn (p : Int32), k + dd = s.2.2.2.1 → dd < nn → ∃ r, lp_X2_earlyOnes_4 17 4 S (fun u6 => some u6) nn p (o3 k) = some r := by
    intro dd
    induction dd with
    | zero =>
      intro k nn p hk hnn
      obtain ⟨nn, rfl⟩ : ∃ z, nn = z + 1 := ⟨nn - 1, by omega⟩
      rw [lp_X2_earlyOnes_4.eq_2, hc4, if_pos ((o3_le (by omega) (by omega)).mpr (by omega))]
      exact ⟨_, rfl⟩
    | succ dd ih =>
      intro k nn p hk hnn
      obtain ⟨nn, rfl⟩ : ∃ z, nn = z + 1 := ⟨nn - 1, by omega⟩
      rw [lp_X2_earlyOnes_4.eq_2, hc4, if_neg (fun q => by have := (o3_le (by omega) (by omega)).mp q; omega), (pc_sent b1 b4 n3 n1 n6 (show k < s.2.2.2.1 by omega)).2.2, bd_some, o3_s]
      split
      · exact ih (k + 1) nn _ (by omega) (by omega)
      · exact ih (k + 1) nn _ (by omega) (by omega)
  have q2 : ∀ dd k nn (p : Int32), k + dd = s.2.2.2.1 → dd < nn → ∃ r, lp_X11_count_79 S (fun u6 => some u6) nn p (o3 k) = some r := by
    intro dd
    induction dd with
    | zero =>
      intro k nn p hk hnn
      obtain ⟨nn, rfl⟩ : ∃ z, nn = z + 1 := ⟨nn - 1, by omega⟩
      rw [lp_X11_count_79.eq_2, hg4, bd_some, if_pos ((o3_le (by omega) (by omega)).mpr (by omega))]
      exact ⟨_, rfl⟩
    | succ dd ih =>
      intro k nn p hk hnn
      obtain ⟨nn, rfl⟩ : ∃ z, nn = z + 1 := ⟨nn - 1, by omega⟩
      rw [lp_X11_count_79.eq_2, hg4, bd_some, if_neg (fun q => by have := (o3_le (by omega) (by omega)).mp q; omega), (pm_all m1 m3 d n3 n1 n6 (show k < s.2.2.2.1 by omega)).2.2, bd_some, o3_s]
      split
      · exact ih (k + 1) nn _ (by omega) (by omega)
      · exact ih (k + 1) nn _ (by omega) (by omega)
  have q3 : ∀ dd k nn (p : Int32), k + dd = s.2.2.1.1 → dd < nn → ∃ r, lp_X0_going_4 11 S (fun u6 => some u6) nn p (o3 k) = some r := by
    intro dd
    induction dd with
    | zero =>
      intro k nn p hk hnn
      obtain ⟨nn, rfl⟩ : ∃ z, nn = z + 1 := ⟨nn - 1, by omega⟩
      rw [lp_X0_going_4.eq_2, show S.1 11 5 = _ from b3.1, if_pos ((o3_le (by omega) (by omega)).mpr (by omega))]
      exact ⟨_, rfl⟩
    | succ dd ih =>
      intro k nn p hk hnn
      obtain ⟨nn, rfl⟩ : ∃ z, nn = z + 1 := ⟨nn - 1, by omega⟩
      rw [lp_X0_going_4.eq_2, show S.1 11 5 = _ from b3.1, if_neg (fun q => by have := (o3_le (by omega) (by omega)).mp q; omega), o3_s]
      unfold f_X0_isStanding
      rw [gI_o (by omega) (by omega), bd_some]
      by_cases h0 : S.1 (11 + 1) k < 0
      · rw [if_pos h0, bd_some, if_pos rfl]
        exact ih (k + 1) nn _ (by omega) (by omega)
      · rw [if_neg h0, bd_some, if_neg (by decide)]
        exact ih (k + 1) nn _ (by omega) (by omega)
  have q4 : ∀ dd k nn (p : Int32), k + dd = s.2.2.1.1 → dd < nn → ∃ r, lp_X11_count_115 S (fun u6 => some u6) nn p (o3 k) = some r := by
    intro dd
    induction dd with
    | zero =>
      intro k nn p hk hnn
      obtain ⟨nn, rfl⟩ : ∃ z, nn = z + 1 := ⟨nn - 1, by omega⟩
      rw [lp_X11_count_115.eq_2, show (2 : Int32) = o3 2 from rfl, gI_o (by omega) (by omega), bd_some, m2.1, if_pos ((o3_le (by omega) (by omega)).mpr (by omega))]
      exact ⟨_, rfl⟩
    | succ dd ih =>
      intro k nn p hk hnn
      obtain ⟨nn, rfl⟩ : ∃ z, nn = z + 1 := ⟨nn - 1, by omega⟩
      rw [lp_X11_count_115.eq_2, show (2 : Int32) = o3 2 from rfl, gI_o (by omega) (by omega), bd_some, m2.1, if_neg (fun q => by have := (o3_le (by omega) (by omega)).mp q; omega), o3_s, show f_X11_thingOf (o3 k) 0 S = _ from mw_thing (a := 0) (by omega) (by omega), bd_some]
      split
      · exact ih (k + 1) nn _ (by omega) (by omega)
      · exact ih (k + 1) nn _ (by omega) (by omega)
  have rc : ∃ r, f_X10_count a1 S = some r := by
    unfold f_X10_count
    split
    · exact ⟨_, rfl⟩
    split
    · exact ⟨_, rfl⟩
    split
    · exact ⟨_, rfl⟩
    split
    · exact ⟨_, rfl⟩
    split
    · exact ⟨_, rfl⟩
    split
    · exact ⟨_, rfl⟩
    split
    · obtain ⟨r, e⟩ := q1 s.2.2.2.1 0 FU 0 (by omega) (FU_lt (by omega))
      rw [show f_X2_earlyOnes 17 4 S = some r from e, bd_some]; exact ⟨_, rfl⟩
    split
    · obtain ⟨r, e⟩ := q3 s.2.2.1.1 0 FU 0 (by omega) (FU_lt (by omega))
      rw [show f_X0_going 11 S = some r from e, bd_some]; exact ⟨_, rfl⟩
    split
    · exact ⟨_, rfl⟩
    split <;> exact ⟨_, rfl⟩
  have rm : ∃ r, f_X11_count a1 S = some r := by
    unfold f_X11_count
    by_cases h0 : a1 = 0
    · rw [if_pos h0, h0, show (0 : Int32) = o3 0 from rfl, gI_o (by omega) (by omega), bd_some]; exact ⟨_, rfl⟩
    rw [if_neg h0]
    by_cases h1 : a1 = 1
    · rw [if_pos h1, h1, show (1 : Int32) = o3 1 from rfl, gI_o (by omega) (by omega), bd_some]; exact ⟨_, rfl⟩
    rw [if_neg h1]
    by_cases h2 : a1 = 2
    · rw [if_pos h2, h2, show (2 : Int32) = o3 2 from rfl, gI_o (by omega) (by omega), bd_some]; exact ⟨_, rfl⟩
    rw [if_neg h2]
    by_cases h3 : a1 = 3
    · rw [if_pos h3]; exact ⟨_, rfl⟩
    rw [if_neg h3]
    by_cases h4 : a1 = 4
    · rw [if_pos h4, h4, show (4 : Int32) - 1 = o3 3 from rfl, gI_o (by omega) (by omega), bd_some]; exact ⟨_, rfl⟩
    rw [if_neg h4]
    by_cases h5 : a1 = 5
    · rw [if_pos h5, h5, show (5 : Int32) - 1 = o3 4 from rfl, gI_o (by omega) (by omega), bd_some]; exact ⟨_, rfl⟩
    rw [if_neg h5]
    by_cases h6 : a1 = 6
    · rw [if_pos h6]; exact q2 s.2.2.2.1 0 FU 0 (by omega) (FU_lt (by omega))
    rw [if_neg h6]
    by_cases h7 : a1 = 7
    · rw [if_pos h7]; exact q4 s.2.2.1.1 0 FU 0 (by omega) (FU_lt (by omega))
    rw [if_neg h7]
    by_cases h8 : a1 = 8
    · rw [if_pos h8, show (5 : Int32) = o3 5 from rfl, gI_o (by omega) (by omega), bd_some]; exact ⟨_, rfl⟩
    rw [if_neg h8]
    split <;> exact ⟨_, rfl⟩
  obtain ⟨r, e1⟩ := rc
  obtain ⟨r', e2⟩ := rm
  exact ⟨r, r', e1, e2, hR0⟩
end
