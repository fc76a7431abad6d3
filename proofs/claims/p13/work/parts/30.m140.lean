section
theorem t_36 (a1 : Int32) (S : fS) (hR : Rel S) : ∃ r S1 S2, f_X10_back a1 S = some (r, S1) ∧ f_X11_back a1 S1 = some (r, S2) ∧ Rel S2 := by
  have hR0 := hR
  obtain ⟨n, s, L, M, hT, hS, hL, hM⟩ := hR
  have i1 : f_X10_isFrom a1 0 3 S = some (if ((0 : Nat) : Int) ≤ a1.toInt ∧ a1.toInt ≤ ((3 : Nat) : Int) then 1 else 0) := from_c (a := 0) (b := 3) (by omega) (by omega)
  have i2 : ∀ T : fS, f_X11_in (Int32.toInt64 a1) 0 3 T = some (if ((0 : Nat) : Int) ≤ a1.toInt ∧ a1.toInt ≤ ((3 : Nat) : Int) then 1 else 0) := fun T => in_c (a := 0) (b := 3) (by omega) (by omega)
  unfold f_X10_back
  rw [i1, bd_some]
  by_cases h1 : ((0 : Nat) : Int) ≤ a1.toInt ∧ a1.toInt ≤ ((3 : Nat) : Int)
  · rw [if_pos h1, if_neg (show ¬ (1 : Int32) = 0 by decide)]
    obtain ⟨i, e1, e2⟩ := o3_ex (x := a1) (by omega)
    have hi : i < 4 := by omega
    have i3 : ∀ T : fS, f_X11_in (Int32.toInt64 (o3 i)) 0 3 T = some 1 := fun T => by rw [← e1, i2, if_pos h1]
    rw [e1, gA22_o hi, bd_some, bd_some]
    rcases hM i hi with ⟨x, y, z⟩ | ⟨s', x, y, z, w1, w2, w3⟩
    · rw [y, if_pos rfl]
      refine ⟨-1, S, S, rfl, ?_, hR0⟩
      unfold f_X11_back
      rw [i3, bd_some, if_neg (show ¬ (1 : Int32) = 0 by decide), gI_o hi (by omega), bd_some, z, if_pos rfl]
    · rw [y, if_neg (show ¬ (1 : Int32) = 0 by decide)]
      obtain ⟨S1, c1, c2, c3, c4, c5⟩ := c_copyS (b := 3) (c := 51 + 19 * i) (by omega) w1 w2
      rw [c1, bd_some]
      have f1 : ∀ a k, ¬ (3 ≤ a ∧ a ≤ 21) → S1.1 a k = S.1 a k := fun a k h => (c3 a k (by omega)).1
      have f2 : ∀ a k, ¬ (3 ≤ a ∧ a ≤ 21) → S1.2 a k = S.2 a k := fun a k h => (c3 a k (by omega)).2
      obtain ⟨T1, t1, t2, t3, t4⟩ := mb_25 hi (K := fun S16 => lp_X11_back_58 (o3 i) (fun S25 => (f_X11_spreads S25).bind fun q27 => (gI q27 157 158 (3 : Int32)).bind fun a30 => some (a30, q27)) FU (0 : Int32) S16) 158 0 FU S1 (by omega) (FU_lt (by omega)) (fun j hj => absurd hj (Nat.not_lt_zero _))
      obtain ⟨T2, u1, u2, u3, u4⟩ := mb_58 hi (K := fun S25 => (f_X11_spreads S25).bind fun q27 => (gI q27 157 158 (3 : Int32)).bind fun a30 => some (a30, q27)) 8 0 FU T1 (by omega) (FU_lt (by omega)) (fun j hj => absurd hj (Nat.not_lt_zero _))
      have hsM : scM (T2.1 157) (T2.2 158) s' := scM_cg w1 w3 (fun k hk => by rw [u4, t2 k hk, f1 _ _ (by omega)]) (fun k hk => by rw [u2 k hk, t4, f2 _ _ (by omega)])
      obtain ⟨T3, v1, v2, v3⟩ := m_spreads hsM.1 w1.1 w1.2.1 w1.2.2.2.1
      have g1 : ∀ a k, a ≠ 157 → T3.1 a k = S1.1 a k := fun a k h => by rw [v3.1, u4, t3 a k h]
      have g2 : ∀ a k, a ≠ 158 → a ≠ 161 → T3.2 a k = S1.2 a k := fun a k h h' => by rw [v3.2 a k (by omega), u3 a k h, t4]
      have k1 : ∀ a k, ¬ (3 ≤ a ∧ a ≤ 21) → a ≠ 157 → T3.1 a k = S.1 a k := fun a k x y => (g1 a k y).trans (f1 a k x)
      have k2 : ∀ a k, ¬ (3 ≤ a ∧ a ≤ 21) → a ≠ 158 → a ≠ 161 → T3.2 a k = S.2 a k := fun a k x y z => (g2 a k y z).trans (f2 a k x)
      have h157 : T3.1 157 = T2.1 157 := by rw [v3.1]
      have h158 : T3.2 158 = T2.2 158 := funext fun k => v3.2 158 k (by omega)
      refine ⟨_, S1, T3, rfl, ?_, n, s', L, M, ?_, ⟨w1, ?_, ?_, ?_⟩, ?_, ?_⟩
      · unfold f_X11_back
        rw [i3, bd_some, if_neg (show ¬ (1 : Int32) = 0 by decide), gI_o hi (by omega), bd_some, f1 _ _ (by omega), z, if_neg (show ¬ (1 : Int32) = 0 by decide)]
        refine (show lp_X11_back_25 (o3 i) (fun S16 => lp_X11_back_58 (o3 i) (fun S25 => (f_X11_spreads S25).bind fun q27 => (gI q27 157 158 (3 : Int32)).bind fun a30 => some (a30, q27)) FU (0 : Int32) S16) FU (0 : Int32) S1 = _ from t1.trans u1).trans ?_
        rw [v1, bd_some, show (3 : Int32) = o3 3 from rfl, gI_o (by omega) (by omega), bd_some, h157, hsM.2.1.2.1]
        exact congrArg (fun z => some (z, T3)) c2.2.2.1.2.1.symm
      · exact rTp_eq hT (k1 _ _ (by omega) (by omega)) (k1 _ _ (by omega) (by omega)) (fun k => k1 _ _ (by omega) (by omega)) (fun k => k1 _ _ (by omega) (by omega))
      · exact scC_eq c2 (fun a k _ _ => g1 a k (by omega)) (fun a k _ _ => g2 a k (by omega) (by omega)) (by rw [g1 _ _ (by omega)]; exact c2.2.2.2.2)
      · rw [h157, h158]; exact hsM
      · exact fun a b ha hb => v2 a b (Nat.lt_of_lt_of_le ha w1.1) (Nat.lt_of_lt_of_le hb w1.1)
      · exact rRu_eq hL (k1 _ _ (by omega) (by omega)) (k1 _ _ (by omega) (by omega)) (fun a k _ _ _ => k1 a k (by omega) (by omega)) (fun a k _ => k1 a k (by omega) (by omega))
      · exact rIm_eq hM (fun a k _ _ => k1 a k (by omega) (by omega)) (fun a k _ _ => k2 a k (by omega) (by omega) (by omega)) (fun k => k1 _ _ (by omega) (by omega)) (fun k => k2 _ k (by omega) (by omega) (by omega)) (fun k => k1 _ _ (by omega) (by omega))
  · rw [if_neg h1, if_pos rfl]
    refine ⟨-1, S, S, rfl, ?_, hR0⟩
    unfold f_X11_back
    rw [i2, bd_some, if_neg h1, if_pos rfl]
end
