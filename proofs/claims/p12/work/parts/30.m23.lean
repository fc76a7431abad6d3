section
/-! the class takes the tower that it read -/
/-- rows that a fault of tower() may change: the tape's reader, the spare tower and crowd -/
def wF1 (a k : Nat) : Prop := (a = 1 ∧ 1 ≤ k ∧ k ≤ 4) ∨ (24 ≤ a ∧ a ≤ 36)
def wF2 (a k : Nat) : Prop := 24 ≤ a ∧ a ≤ 36
/-- and what a tower puts in place of the one there was -/
def wG1 (a k : Nat) : Prop := wF1 a k ∨ (4 ≤ a ∧ a ≤ 16) ∨ (a = 17 ∧ k = 4)
def wG2 (a k : Nat) : Prop := wF2 a k ∨ (4 ≤ a ∧ a ≤ 16)
theorem c_tower {S : fS} {n : Nat} (hn : S.1 1 1 = o3 n) (hl : n ≤ 400) : ∃ Y, f_X10_tower S = some (if (tw0 (S.1 2) n).1 = 0 then o3 (tw0 (S.1 2) n).2.1.length else -2 - o3 (tw0 (S.1 2) n).1, Y) ∧ Y.1 1 1 = 0 ∧ (∀ a k, ¬ wG1 a k → Y.1 a k = S.1 a k) ∧ (∀ a k, ¬ wG2 a k → Y.2 a k = S.2 a k) ∧ (¬ (tw0 (S.1 2) n).1 = 0 → (∀ a k, ¬ wF1 a k → Y.1 a k = S.1 a k) ∧ (∀ a k, ¬ wF2 a k → Y.2 a k = S.2 a k)) ∧ ((tw0 (S.1 2) n).1 = 0 → twC Y 4 (tw0 (S.1 2) n).2.1 (tw0 (S.1 2) n).2.2.1 ∧ rW Y 10 (dst (tw0 (S.1 2) n).2.2.1) ∧ cwC0 Y 11 (tw0 (S.1 2) n).2.2.2 ∧ Y.1 17 4 = 0) := by
  obtain ⟨Y1, e1, y1, y2⟩ := c_read hn hl
  have hF := fr_f_X9_read e1
  unfold f_X10_tower
  rw [e1, bd_some, bd_some]
  dsimp only
  have hF1 : ∀ a k, ¬ wF1 a k → (pI Y1 1 1 0).1 a k = S.1 a k := fun a k h => by
    have hk : ¬ (a = 1 ∧ k = 1) := fun q => h (Or.inl (by omega))
    rw [pI_ne hk]
    refine hF.1 a k (fun q => h ?_)
    unfold w1_f_X9_read at q
    unfold wF1
    rcases q with q | q | q | q | q | q | q | q | q | q | q | q | q | q | q <;> omega
  have hF2 : ∀ a k, ¬ wF2 a k → (pI Y1 1 1 0).2 a k = S.2 a k := fun a k h => by
    refine hF.2 a k (fun q => h ?_)
    unfold w2_f_X9_read at q
    unfold wF2
    omega
  by_cases hz : (tw0 (S.1 2) n).1 = 0
  · obtain ⟨hB, hok, hW⟩ := y1 hz
    rw [if_pos hz, if_pos hz, if_neg (show ¬ (1 : Int32) = 0 by decide)]
    generalize hR : tw0 (S.1 2) n = R at hz hB hok hW
    obtain ⟨o1, o2, o3', -, o5, -⟩ := hok
    generalize hX : pI Y1 1 1 0 = X at hF1 hF2
    have hX1 : X.1 1 1 = 0 := by rw [← hX, pI_eq]
    have xe : ∀ a k, a ≠ 1 → X.1 a k = Y1.1 a k := fun a k h => by rw [← hX, pI_ne (by omega)]
    have x2 : X.2 = Y1.2 := by rw [← hX]; rfl
    obtain ⟨T, t1, t2, t3, t4, t5, t6, t7⟩ := c_copyT (S := X) (b := 4) (c := 24) (by omega)
    obtain ⟨U, u1, u2, u3, u4, u5⟩ := c_copyC (S := T) (b := 11) (c := 31) (by omega)
    rw [t1, bd_some, u1, bd_some, bd_some]
    obtain ⟨⟨b1, b2, b3, b4⟩, b5, b6, b7⟩ := hB
    have tw : twC U 4 R.2.1 R.2.2.1 := by
      refine ⟨?_, ?_, fun k hk => ?_, fun k hk => ⟨?_, ?_, ?_, ?_⟩⟩
      · rw [(u5 4 6 (by omega)).1, t2, xe 24 6 (by omega)]; exact b1
      · rw [(u5 4 7 (by omega)).1, t3, xe 24 7 (by omega)]; exact b2
      · rw [(u5 (4 + 1) k (by omega)).2, t4 k (by omega), x2]; exact b3 k hk
      · rw [(u5 (4 + 2) k (by omega)).1, (t5 k (by omega)).1, xe (24 + 2) k (by omega)]; exact (b4 k hk).1
      · rw [(u5 (4 + 3) k (by omega)).1, (t5 k (by omega)).2.1, xe (24 + 3) k (by omega)]; exact (b4 k hk).2.1
      · rw [(u5 (4 + 4) k (by omega)).1, (t5 k (by omega)).2.2.1, xe (24 + 4) k (by omega)]; exact (b4 k hk).2.2.1
      · rw [(u5 (4 + 5) k (by omega)).2, (t5 k (by omega)).2.2.2, x2]; exact (b4 k hk).2.2.2
    refine ⟨pI U 17 4 0, ?_, ?_, fun a k h => ?_, fun a k h => ?_, fun q => absurd hz q, fun _ => ⟨?_, fun a b ha hb => ?_, ⟨?_, ?_, fun k hk => ?_⟩, pI_eq⟩⟩
    · rw [pI_ne (by omega), tw.1]
    · rw [pI_ne (by omega), (u5 1 1 (by omega)).1, (t7 1 1 (by omega)).1, hX1]
    · have h' : ¬ wF1 a k := fun q => h (Or.inl q)
      have h2 : ¬ (4 ≤ a ∧ a ≤ 16) := fun q => h (Or.inr (Or.inl q))
      have h3 : ¬ (a = 17 ∧ k = 4) := fun q => h (Or.inr (Or.inr q))
      rw [pI_ne h3, (u5 a k (by omega)).1, (t7 a k (by omega)).1]
      exact hF1 a k h'
    · have h' : ¬ wF2 a k := fun q => h (Or.inl q)
      have h2 : ¬ (4 ≤ a ∧ a ≤ 16) := fun q => h (Or.inr q)
      rw [pI_2, (u5 a k (by omega)).2, (t7 a k (by omega)).2]
      exact hF2 a k h'
    · obtain ⟨w1, w2, w3, w4⟩ := tw
      refine ⟨?_, ?_, fun k hk => w3 k hk, fun k hk => ⟨?_, ?_, ?_, (w4 k hk).2.2.2⟩⟩
      · rw [pI_ne (by omega)]; exact w1
      · rw [pI_ne (by omega)]; exact w2
      · rw [pI_ne (by omega)]; exact (w4 k hk).1
      · rw [pI_ne (by omega)]; exact (w4 k hk).2.1
      · rw [pI_ne (by omega)]; exact (w4 k hk).2.2.1
    · rw [pI_ne (by omega), (u5 10 _ (by omega)).1]
      have h6 : T.1 10 (10 * a + b) = X.1 30 (10 * a + b) := t6 (10 * a + b) (by omega)
      rw [h6, xe 30 _ (by omega)]
      exact hW a b ha hb
    · rw [pI_ne (by omega), u2, (t7 31 5 (by omega)).1, xe 31 5 (by omega)]; exact b5
    · rw [pI_ne (by omega), u3, (t7 31 6 (by omega)).1, xe 31 6 (by omega)]; exact b6
    · rw [pI_ne (by omega), pI_ne (by omega), pI_ne (by omega), pI_ne (by omega), pI_2, (u4 k (by omega)).1, (u4 k (by omega)).2.1, (u4 k (by omega)).2.2.1, (u4 k (by omega)).2.2.2.1, (u4 k (by omega)).2.2.2.2, (t7 (31 + 1) k (by omega)).1, (t7 (31 + 2) k (by omega)).1, (t7 (31 + 3) k (by omega)).1, (t7 (31 + 4) k (by omega)).1, (t7 (31 + 5) k (by omega)).2, xe (31 + 1) k (by omega), xe (31 + 2) k (by omega), xe (31 + 3) k (by omega), xe (31 + 4) k (by omega), x2]
      exact b7 k hk
  · rw [if_neg hz, if_neg hz, if_pos (show (0 : Int32) = 0 from rfl), pI_ne (by omega), y2 hz]
    exact ⟨pI Y1 1 1 0, rfl, pI_eq, fun a k h => hF1 a k (fun q => h (Or.inl q)), fun a k h => hF2 a k (fun q => h (Or.inl q)), fun _ => ⟨hF1, hF2⟩, fun q => absurd q hz⟩
end
