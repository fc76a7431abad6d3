section
theorem t_35 (a1 : Int32) (S : fS) (hR : Rel S) : ∃ r S1 S2, f_X10_image a1 S = some (r, S1) ∧ f_X11_image a1 S1 = some (r, S2) ∧ Rel S2 := by
  have hR0 := hR
  obtain ⟨n, s, L, M, hT, hS, hL, hM⟩ := hR
  have hS0 := hS
  obtain ⟨hN, hC, hMm, hd⟩ := hS
  have i1 : f_X10_isFrom a1 0 3 S = some (if ((0 : Nat) : Int) ≤ a1.toInt ∧ a1.toInt ≤ ((3 : Nat) : Int) then 1 else 0) := from_c (a := 0) (b := 3) (by omega) (by omega)
  have i2 : ∀ T : fS, f_X11_in (Int32.toInt64 a1) 0 3 T = some (if ((0 : Nat) : Int) ≤ a1.toInt ∧ a1.toInt ≤ ((3 : Nat) : Int) then 1 else 0) := fun T => in_c (a := 0) (b := 3) (by omega) (by omega)
  unfold f_X10_image
  rw [i1, bd_some]
  by_cases h1 : ((0 : Nat) : Int) ≤ a1.toInt ∧ a1.toInt ≤ ((3 : Nat) : Int)
  · rw [if_pos h1, if_neg (show ¬ (1 : Int32) = 0 by decide)]
    obtain ⟨i, e1, e2⟩ := o3_ex (x := a1) (by omega)
    have hi : i < 4 := by omega
    have i3 : ∀ T : fS, f_X11_in (Int32.toInt64 (o3 i)) 0 3 T = some 1 := fun T => by rw [← e1, i2, if_pos h1]
    obtain ⟨T, c1, c2, c3, c4, c5⟩ := c_copyS (b := 51 + 19 * i) (c := 3) (by omega) hN hC
    rw [e1, gA22_o hi, bd_some, c1, bd_some, bd_some, bd_some]
    generalize hS1 : pI T (51 + 19 * i) 4 1 = S1
    have f1 : ∀ a k, ¬ (51 + 19 * i ≤ a ∧ a ≤ 51 + 19 * i + 18) → S1.1 a k = S.1 a k := fun a k h => by rw [← hS1, pI_ne (by omega), (c3 a k h).1]
    have f2 : ∀ a k, ¬ (51 + 19 * i ≤ a ∧ a ≤ 51 + 19 * i + 18) → S1.2 a k = S.2 a k := fun a k h => by rw [← hS1, pI_2', (c3 a k h).2]
    have f4 : S1.1 (51 + 19 * i) 4 = 1 := by rw [← hS1, pI_eq]
    have fs : scC S1 (51 + 19 * i) s := by
      rw [← hS1]
      exact scC_eq c2 (fun a k _ _ => by rw [pI_ne (by omega)]) (fun a k _ _ => rfl) (by rw [pI_ne (by omega)]; exact c2.2.2.2.2)
    have hv : vp_nar .boolean (1 : Int32) = 1 := by decide
    have e170 : sI S1 170 4 (o3 i) (vp_nar .boolean (1 : Int32)) = some (pI S1 170 i 1) := by rw [hv, sI_o hi (by omega)]
    obtain ⟨T1, t1, t2, t3, t4⟩ := mi_23 hi (K := fun S15 => lp_X11_image_56 (o3 i) (fun S24 => (gI S24 157 158 (3 : Int32)).bind fun a26 => some (a26, S24)) FU (0 : Int32) S15) 158 0 FU (pI S1 170 i 1) (by omega) (FU_lt (by omega)) (fun j hj => absurd hj (Nat.not_lt_zero _))
    obtain ⟨T2, u1, u2, u3, u4⟩ := mi_56 hi (K := fun S24 => (gI S24 157 158 (3 : Int32)).bind fun a26 => some (a26, S24)) 8 0 FU T1 (by omega) (FU_lt (by omega)) (fun j hj => absurd hj (Nat.not_lt_zero _))
    have g1 : ∀ a k, ¬ (a = 168 ∧ 158 * i ≤ k ∧ k < 158 * i + 158) → ¬ (a = 170 ∧ k = i) → T2.1 a k = S1.1 a k := fun a k h h' => by rw [u4, t3 a k h, pI_ne (by omega)]
    have g2 : ∀ a k, ¬ (a = 169 ∧ 8 * i ≤ k ∧ k < 8 * i + 8) → T2.2 a k = S1.2 a k := fun a k h => by rw [u3 a k h, t4]; rfl
    have k1 : ∀ a k, ¬ (51 + 19 * i ≤ a ∧ a ≤ 51 + 19 * i + 18) → ¬ (a = 168 ∧ 158 * i ≤ k ∧ k < 158 * i + 158) → ¬ (a = 170 ∧ k = i) → T2.1 a k = S.1 a k := fun a k x y z => (g1 a k y z).trans (f1 a k x)
    have k2 : ∀ a k, ¬ (51 + 19 * i ≤ a ∧ a ≤ 51 + 19 * i + 18) → ¬ (a = 169 ∧ 8 * i ≤ k ∧ k < 8 * i + 8) → T2.2 a k = S.2 a k := fun a k x y => (g2 a k y).trans (f2 a k x)
    refine ⟨_, S1, T2, rfl, ?_, n, s, L, fun j => if j = i then some s else M j, ?_, ?_, ?_, fun j hj => ?_⟩
    · unfold f_X11_image
      rw [i3, bd_some, if_neg (show ¬ (1 : Int32) = 0 by decide), e170, bd_some]
      refine (show lp_X11_image_23 (o3 i) (fun S15 => lp_X11_image_56 (o3 i) (fun S24 => (gI S24 157 158 (3 : Int32)).bind fun a26 => some (a26, S24)) FU (0 : Int32) S15) FU (0 : Int32) (pI S1 170 i 1) = _ from t1.trans u1).trans ?_
      rw [show (3 : Int32) = o3 3 from rfl, gI_o (by omega) (by omega), bd_some, k1 157 3 (by omega) (by omega) (by omega), f1 11 6 (by omega), hMm.2.1.2.1]
      exact congrArg (fun z => some (z, T2)) hC.2.2.1.2.1.symm
    · exact rTp_eq hT (k1 _ _ (by omega) (by omega) (by omega)) (k1 _ _ (by omega) (by omega) (by omega)) (fun k => k1 _ _ (by omega) (by omega) (by omega)) (fun k => k1 _ _ (by omega) (by omega) (by omega))
    · exact rSc_eq hS0 (fun a k _ _ => k1 a k (by omega) (by omega) (by omega)) (fun a k _ _ => k2 a k (by omega) (by omega)) (by rw [k1 3 3 (by omega) (by omega) (by omega)]; exact hC.2.2.2.2) (fun k => k1 _ _ (by omega) (by omega) (by omega)) (fun a k _ => k2 a k (by omega) (by omega))
    · exact rRu_eq hL (k1 _ _ (by omega) (by omega) (by omega)) (k1 _ _ (by omega) (by omega) (by omega)) (fun a k _ _ _ => k1 a k (by omega) (by omega) (by omega)) (fun a k _ => k1 a k (by omega) (by omega) (by omega))
    · by_cases e : j = i
      · subst e
        refine Or.inr ⟨s, if_pos rfl, ?_, ?_, hN, ?_, ?_⟩
        · rw [g1 _ _ (by omega) (by omega)]; exact f4
        · rw [u4, t3 _ _ (by omega), pI_eq]
        · exact scC_eq fs (fun a k _ _ => g1 a k (by omega) (by omega)) (fun a k _ _ => g2 a k (by omega)) (by rw [g1 _ _ (by omega) (by omega)]; exact fs.2.2.2.2)
        · refine scM_cg hN hMm (fun k hk => ?_) (fun k hk => ?_)
          · show T2.1 168 (158 * j + k) = _
            rw [u4, t2 k hk, pI_ne (by omega), f1 _ _ (by omega)]
          · show T2.2 169 (8 * j + k) = _
            rw [u2 k hk, t4, pI_2', f2 _ _ (by omega)]
      · have hne : (fun j => if j = i then some s else M j) j = M j := if_neg e
        rw [hne]
        rcases hM j hj with ⟨x, y, z⟩ | ⟨s', x, y, z, w1, w2, w3⟩
        · exact Or.inl ⟨x, (k1 _ _ (by omega) (by omega) (by omega)).trans y, (k1 _ _ (by omega) (by omega) (by omega)).trans z⟩
        · refine Or.inr ⟨s', x, (k1 _ _ (by omega) (by omega) (by omega)).trans y, (k1 _ _ (by omega) (by omega) (by omega)).trans z, w1, ?_, ?_⟩
          · exact scC_eq w2 (fun a k _ _ => k1 a k (by omega) (by omega) (by omega)) (fun a k _ _ => k2 a k (by omega) (by omega)) (by rw [k1 _ _ (by omega) (by omega) (by omega)]; exact w2.2.2.2.2)
          · exact scM_cg w1 w3 (fun k hk => k1 _ _ (by omega) (by omega) (by omega)) (fun k hk => k2 _ _ (by omega) (by omega))
  · rw [if_neg h1, if_pos rfl]
    refine ⟨-1, S, S, rfl, ?_, hR0⟩
    unfold f_X11_image
    rw [i2, bd_some, if_neg h1, if_pos rfl]
end
