section
/-! image(), back(), seed(), count() -/
theorem c_copyS {S : fS} {b c : Nat} {s : Sn} (hd : b + 18 < c ∨ c + 18 < b) (hN : okN s) (hS : scC S c s) : ∃ Y, f_X6_copyFrom b c S = some Y ∧ scC Y b s ∧ (∀ a k, ¬ (b ≤ a ∧ a ≤ b + 18) → Y.1 a k = S.1 a k ∧ Y.2 a k = S.2 a k) ∧ Y.1 b 4 = S.1 b 4 ∧ Y.1 b 3 = S.1 c 3 := by
  obtain ⟨n1, n2, n3, n4, n5, n6⟩ := hN
  obtain ⟨b1, b2, b3, b4, b5⟩ := hS
  have h8 := n5.1
  have h12 := n6.1
  obtain ⟨T1, x1, x2, x3, x4, x5, x6, x7⟩ := c_copyT (S := S) (b := b + 1) (c := c + 1) (by omega)
  obtain ⟨T2, y1, y2, y3, y4, y5⟩ := c_copyC (S := T1) (b := b + 8) (c := c + 8) (by omega)
  obtain ⟨T3, z1, z2, z3, z4, z5⟩ := c_copyP (S := T2) (b := b + 14) (c := c + 14) (by omega)
  unfold f_X6_copyFrom
  rw [x1, bd_some, y1, bd_some, z1, bd_some, bd_some]
  have f2 : ∀ a k, ¬ (b + 8 ≤ a ∧ a ≤ b + 18) → T3.1 a k = T1.1 a k := fun a k h => (z4 a k (by omega)).trans (y5 a k (by omega)).1
  have f3 : ∀ a k, ¬ (b + 1 ≤ a ∧ a ≤ b + 18) → T3.1 a k = S.1 a k := fun a k h => (f2 a k (by omega)).trans (x7 a k (by omega)).1
  have g3 : ∀ a k, ¬ (b + 1 ≤ a ∧ a ≤ b + 18) → T3.2 a k = S.2 a k := fun a k h => by rw [z5, (y5 a k (by omega)).2, (x7 a k (by omega)).2]
  have g2 : ∀ a k, ¬ (b + 8 ≤ a ∧ a ≤ b + 13) → T3.2 a k = T1.2 a k := fun a k h => by rw [z5, (y5 a k (by omega)).2]
  refine ⟨_, rfl, ⟨⟨?_, ?_, fun k hk => ?_, fun k hk => ⟨?_, ?_, ?_, ?_⟩⟩, fun p q hp hq => ?_, ⟨?_, ?_, fun k hk => ⟨?_, ?_, ?_, ?_, ?_⟩⟩, ⟨?_, fun k hk => ⟨?_, ?_, ?_, ?_⟩⟩, ?_⟩, fun a k h => ⟨?_, ?_⟩, ?_, ?_⟩
  · rw [pI_ne (by omega), f2 _ _ (by omega), x2]; exact b1.1
  · rw [pI_ne (by omega), f2 _ _ (by omega), x3]; exact b1.2.1
  · rw [pI_2', g2 _ _ (by omega), x4 k (by omega)]; exact b1.2.2.1 k hk
  · rw [pI_ne (by omega), f2 _ _ (by omega), (x5 k (by omega)).1]; exact (b1.2.2.2 k hk).1
  · rw [pI_ne (by omega), f2 _ _ (by omega), (x5 k (by omega)).2.1]; exact (b1.2.2.2 k hk).2.1
  · rw [pI_ne (by omega), f2 _ _ (by omega), (x5 k (by omega)).2.2.1]; exact (b1.2.2.2 k hk).2.2.1
  · rw [pI_2', g2 _ _ (by omega), (x5 k (by omega)).2.2.2]; exact (b1.2.2.2 k hk).2.2.2
  · rw [pI_ne (by omega), f2 _ _ (by omega), show b + 7 = b + 1 + 6 by omega, x6 _ (by omega)]; exact b2 p q hp hq
  · rw [pI_ne (by omega), z4 _ _ (by omega), y2, (x7 _ _ (by omega)).1]; exact b3.1
  · rw [pI_ne (by omega), z4 _ _ (by omega), y3, (x7 _ _ (by omega)).1]; exact b3.2.1
  · rw [pI_ne (by omega), z4 _ _ (by omega), (y4 k (by omega)).1, (x7 _ _ (by omega)).1]; exact (b3.2.2 k hk).1
  · rw [pI_ne (by omega), z4 _ _ (by omega), (y4 k (by omega)).2.1, (x7 _ _ (by omega)).1]; exact (b3.2.2 k hk).2.1
  · rw [pI_ne (by omega), z4 _ _ (by omega), (y4 k (by omega)).2.2.1, (x7 _ _ (by omega)).1]; exact (b3.2.2 k hk).2.2.1
  · rw [pI_ne (by omega), z4 _ _ (by omega), (y4 k (by omega)).2.2.2.1, (x7 _ _ (by omega)).1]; exact (b3.2.2 k hk).2.2.2.1
  · rw [pI_2', z5, (y4 k (by omega)).2.2.2.2, (x7 _ _ (by omega)).2]; exact (b3.2.2 k hk).2.2.2.2
  · rw [pI_ne (by omega), z2, (y5 _ _ (by omega)).1, (x7 _ _ (by omega)).1]; exact b4.1
  · rw [pI_ne (by omega), (z3 k (by omega)).1, (y5 _ _ (by omega)).1, (x7 _ _ (by omega)).1]; exact (b4.2 k hk).1
  · rw [pI_ne (by omega), (z3 k (by omega)).2.1, (y5 _ _ (by omega)).1, (x7 _ _ (by omega)).1]; exact (b4.2 k hk).2.1
  · rw [pI_ne (by omega), (z3 k (by omega)).2.2.1, (y5 _ _ (by omega)).1, (x7 _ _ (by omega)).1]; exact (b4.2 k hk).2.2.1
  · rw [pI_ne (by omega), (z3 k (by omega)).2.2.2, (y5 _ _ (by omega)).1, (x7 _ _ (by omega)).1]; exact (b4.2 k hk).2.2.2
  · rw [pI_eq, f3 _ _ (by omega)]; exact b5
  · rw [pI_ne (by omega), f3 _ _ (by omega)]
  · rw [pI_2', g3 _ _ (by omega)]
  · rw [pI_ne (by omega), f3 _ _ (by omega)]
  · rw [pI_eq, f3 _ _ (by omega)]
end
