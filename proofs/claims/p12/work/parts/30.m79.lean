section
/-- waiting: both answer; what each answers -/
theorem t_21 (a1 a2 a3 : Int32) (S : fS) (hR : Rel S) : ∃ r r' S1 S2, f_X10_waiting a1 a2 a3 S = some (r, S1) ∧ f_X11_waiting a1 a2 a3 S1 = some (r', S2) ∧ Rel S2 ∧ (r = r' ∨ ∃ (F : List (Nat × Nat)) (E : List St5) (n f : Nat), (∀ q ∈ F, okF q) ∧ (∀ q ∈ E, okS F.length q) ∧ F.length ≤ 10 ∧ E.length ≤ 12 ∧ n ≤ 120 ∧ f < F.length ∧ r = o3 (bc (fun g => GG F E f a3 n g) a3 (F.length - 1) 1 0) ∧ r' = bm (fun p => GG F E p a3 n f) a3 F.length 0 (-1) (-1)) := by
  have hR0 := hR
  obtain ⟨n', s, L, M, hT, ⟨⟨n1, n2, n3, n4, n5, n6⟩, ⟨b1, b2, b3, b4, b5⟩, ⟨m1, m2, m3, m4⟩, d⟩, hL, hM⟩ := hR
  have h8 := n5.1
  have i1 : f_X10_isFrom a2 0 120 S = some (if ((0 : Nat) : Int) ≤ a2.toInt ∧ a2.toInt ≤ ((120 : Nat) : Int) then 1 else 0) := from_c (a := 0) (b := 120) (by omega) (by omega)
  have j1 : ∀ T : fS, f_X11_in (Int32.toInt64 a2) 0 120 T = some (if ((0 : Nat) : Int) ≤ a2.toInt ∧ a2.toInt ≤ ((120 : Nat) : Int) then 1 else 0) := fun T => in_c (a := 0) (b := 120) (by omega) (by omega)
  have no : f_X10_waiting a1 a2 a3 S = some (-1, S) → f_X11_waiting a1 a2 a3 S = some (-1, S) → ∃ r r' S1 S2, f_X10_waiting a1 a2 a3 S = some (r, S1) ∧ f_X11_waiting a1 a2 a3 S1 = some (r', S2) ∧ Rel S2 ∧ (r = r' ∨ ∃ (F : List (Nat × Nat)) (E : List St5) (n f : Nat), (∀ q ∈ F, okF q) ∧ (∀ q ∈ E, okS F.length q) ∧ F.length ≤ 10 ∧ E.length ≤ 12 ∧ n ≤ 120 ∧ f < F.length ∧ r = o3 (bc (fun g => GG F E f a3 n g) a3 (F.length - 1) 1 0) ∧ r' = bm (fun p => GG F E p a3 n f) a3 F.length 0 (-1) (-1)) := fun h g => ⟨-1, -1, S, S, h, g, hR0, Or.inl rfl⟩
  by_cases h1 : ¬ (0 ≤ a1.toInt ∧ a1.toInt < s.2.2.1.1)
  · refine no ?_ ?_
    · unfold f_X10_waiting f_X10_isStanding; rw [ci_thing b3.1 (by omega), bd_some, if_neg h1, if_pos rfl, bd_some, if_pos rfl]
    · unfold f_X11_waiting; rw [mi_thing m2.1 (by omega), bd_some, if_neg h1, if_pos rfl]
  have h1 := Decidable.not_not.mp h1
  obtain ⟨th, e1, e2⟩ := o3_ex h1.1
  have hth : th < s.2.2.1.1 := by omega
  have cStand : f_X10_isStanding (o3 th) S = some (if s.2.2.1.2.2.1 th < 0 then 0 else 1) := by
    unfold f_X10_isStanding f_X0_isStanding
    rw [ci_thing b3.1 (by omega), bd_some, ← e1, if_pos h1, if_neg (show ¬ (1 : Int32) = 0 by decide), e1, gI_o (by omega) (by omega), bd_some, show S.1 (11 + 1) th = _ from (b3.2.2 th hth).1]
    by_cases z : s.2.2.1.2.2.1 th < 0
    · rw [if_pos z, if_pos z, bd_some, if_pos rfl]
    · rw [if_neg z, if_neg z, bd_some, if_neg (by decide)]
  have mTh : ∀ T : fS, T.1 = S.1 → f_X11_thingOf (o3 th) 0 T = some (s.2.2.1.2.2.1 th) := fun T hTT => (mw_thing (a := 0) (by omega) (by omega)).trans (congrArg some (by rw [hTT]; exact (m2.2.2 th hth).1))
  have mIs : ∀ T : fS, T.1 = S.1 → f_X11_isThing (o3 th) T = some 1 := fun T hTT => by rw [mi_thing (m := s.2.2.1.1) (by rw [hTT]; exact m2.1) (by omega), ← e1, if_pos h1]
  by_cases h0 : s.2.2.1.2.2.1 th < 0
  · refine no ?_ ?_
    · unfold f_X10_waiting; rw [e1, cStand, if_pos h0, bd_some, if_pos rfl]
    · unfold f_X11_waiting; rw [e1, mIs S rfl, bd_some, if_neg (show ¬ (1 : Int32) = 0 by decide), mTh S rfl, bd_some, if_pos h0]
  obtain ⟨f, f1, f2⟩ := okT_nn (n5.2.2 th hth).1 n1 h0
  by_cases h3 : ¬ (((0 : Nat) : Int) ≤ a2.toInt ∧ a2.toInt ≤ ((120 : Nat) : Int))
  · refine no ?_ ?_
    · unfold f_X10_waiting; rw [e1, cStand, if_neg h0, bd_some, if_neg (show ¬ (1 : Int32) = 0 by decide), i1, bd_some, if_neg h3, if_pos rfl]
    · unfold f_X11_waiting; rw [e1, mIs S rfl, bd_some, if_neg (show ¬ (1 : Int32) = 0 by decide), mTh S rfl, bd_some, if_neg h0, j1, bd_some, if_neg h3, if_pos rfl]
  have h3 := Decidable.not_not.mp h3
  obtain ⟨n, e5, e6⟩ := o3_ex (x := a2) (by omega)
  have hn : n ≤ 120 := by omega
  obtain ⟨S1, c1, c2, c3⟩ := c_meas (mx := a3) b1 n4 n1 n2 hn f1
  have hp : S1.1 157 (90 + 4 * th) = o3 f := by
    rw [c3.1]
    exact ((m2.2.2 th hth).1).trans f2
  obtain ⟨S2, w1, w2⟩ := wn_42 (F := s.1) (E := s.2.1) (mx := a3) (n := n) (th := th) (f0 := f) (by omega) n3 n4 n1 n2 hn f1 s.1.length 0 FU S1 (-1) (-1) (by omega) (FU_lt (by omega)) (by rw [c3.1]; exact m1) hp
  refine ⟨_, _, S1, S2, ?_, ?_, meas_rel hR0 c3 w2, Or.inr ⟨s.1, s.2.1, n, f, n3, n4, n1, n2, hn, f1, rfl, rfl⟩⟩
  · unfold f_X10_waiting
    rw [e1, cStand, if_neg h0, bd_some, if_neg (show ¬ (1 : Int32) = 0 by decide), i1, bd_some, if_pos h3, if_neg (show ¬ (1 : Int32) = 0 by decide), gI_o (by omega) (by omega), bd_some, show S.1 12 th = s.2.2.1.2.2.1 th from (b3.2.2 th hth).1, f2, e5, c1, bd_some, c_bf (twC_44 b1 c3) c2 hn n1 (by omega), bd_some]
  · unfold f_X11_waiting
    rw [e1, mIs S1 c3.1, bd_some, if_neg (show ¬ (1 : Int32) = 0 by decide), mTh S1 c3.1, bd_some, if_neg h0, j1, bd_some, if_pos h3, if_neg (show ¬ (1 : Int32) = 0 by decide), e5]
    exact w1
end
