section
/-! the class's rule() -/
def wU (a k : Nat) : Prop := (a = 1 ∧ 1 ≤ k ∧ k ≤ 4) ∨ (38 ≤ a ∧ a ≤ 42)
theorem gA23_o {r : Nat} (h : r < 6) : gA23 (o3 r) = some (127 + 3 * r) := by
  unfold gA23
  rw [if_neg (ix_ok h (by omega)), o3_nat (by omega)]
theorem c_rule {S : fS} {n r : Nat} (hn : S.1 1 1 = o3 n) (hl : n ≤ 400) (hr : S.1 0 10 = o3 r) (h6 : r ≤ 6) : ∃ Y, f_X10_rule S = some (if r = 6 then -1 else if (ru0 (S.1 2) n).1 = 0 then o3 r else -2 - o3 (ru0 (S.1 2) n).1, Y) ∧ (r = 6 → Y = S) ∧ (r < 6 → Y.1 1 1 = 0 ∧ (∀ a k, ¬ wU a k → ¬ (a = 0 ∧ k = 10) → ¬ (a = 127 + 3 * r ∨ a = 128 + 3 * r) → Y.1 a k = S.1 a k) ∧ Y.2 = S.2 ∧ (¬ (ru0 (S.1 2) n).1 = 0 → ∀ a k, ¬ wU a k → Y.1 a k = S.1 a k) ∧ ((ru0 (S.1 2) n).1 = 0 → Y.1 0 10 = o3 (r + 1) ∧ cdC Y (127 + 3 * r) (ccode (ru0 (S.1 2) n).2))) := by
  unfold f_X10_rule
  rw [hr]
  by_cases hr6 : r = 6
  · rw [if_neg (show ¬ o3 _ < (6 : Int32) from fun q => by have := (o3_lt (b := 6) (by omega) (by omega)).mp q; omega), if_pos hr6]
    exact ⟨S, rfl, fun _ => rfl, fun q => by omega⟩
  · rw [if_pos (show o3 _ < (6 : Int32) from (o3_lt (b := 6) (by omega) (by omega)).mpr (by omega)), if_neg hr6]
    obtain ⟨Y1, e1, y1, y2⟩ := c_rread hn hl
    have hF := fr_f_X5_read e1
    rw [e1, bd_some, bd_some]
    dsimp only
    have hF1 : ∀ a k, ¬ wU a k → (pI Y1 1 1 0).1 a k = S.1 a k := fun a k h => by
      have hk : ¬ (a = 1 ∧ k = 1) := fun q => h (Or.inl (by omega))
      rw [pI_ne hk]
      refine hF.1 a k (fun q => h ?_)
      unfold w1_f_X5_read at q
      unfold wU
      omega
    have hF2 : (pI Y1 1 1 0).2 = S.2 := by
      funext a
      funext k
      refine hF.2 a k (fun q => ?_)
      unfold w2_f_X5_read at q
      exact q
    by_cases hz : (ru0 (S.1 2) n).1 = 0
    · obtain ⟨d1, d2, d3⟩ := y1 hz
      rw [if_pos hz, if_pos hz, if_neg (show ¬ (1 : Int32) = 0 by decide)]
      generalize hX : pI Y1 1 1 0 = X at hF1 hF2
      have hX1 : X.1 1 1 = 0 := by rw [← hX, pI_eq]
      have xe : ∀ a k, a ≠ 1 → X.1 a k = Y1.1 a k := fun a k h => by rw [← hX, pI_ne (by omega)]
      rw [hF1 0 10 (by unfold wU; omega), hr, gA23_o (by omega), bd_some]
      unfold f_X4_copyFrom
      rw [bd_some, bd_some, bd_some, bd_some, cI_ne (x := 40) (by omega), pI_ne (a := 127 + 3 * r) (b := 0) (j := 10) (by omega), cI_ne (x := 0) (by omega), hF1 0 10 (by unfold wU; omega), hr, o3_s, pI_eq, show (1 : Int32) = o3 1 from rfl, o3_sub (by omega), show r + 1 - 1 = r by omega]
      refine ⟨_, rfl, fun q => absurd q hr6, fun _ => ⟨?_, fun a k h1 h2 h3 => ?_, hF2, fun q => absurd hz q, fun _ => ⟨pI_eq, ?_, d2, fun k hk => ?_⟩⟩⟩
      · rw [pI_ne (by omega), pI_ne (by omega), cI_ne (by omega)]; exact hX1
      · rw [pI_ne h2, pI_ne (by omega), cI_ne (by omega)]; exact hF1 a k h1
      · rw [pI_ne (by omega), pI_eq, xe 40 2 (by omega)]; exact d1
      · rw [pI_ne (by omega), pI_ne (by omega), cI_eq (by omega), xe (40 + 1) k (by omega)]; exact d3 k hk
    · rw [if_neg hz, if_neg hz, if_pos (show (0 : Int32) = 0 from rfl), pI_ne (by omega), y2 hz]
      exact ⟨pI Y1 1 1 0, rfl, fun q => absurd q hr6, fun _ => ⟨pI_eq, fun a k h1 _ _ => hF1 a k h1, hF2, fun _ => hF1, fun q => absurd q hz⟩⟩
end
