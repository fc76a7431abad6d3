section
variable {t : Nat → Int32} {n : Nat} {B : TB} {i : Nat}
theorem tTh_le (hi : i ≤ n) (h : (tTh t n B i).1 = 0) : (tTh t n B i).2.1 ≤ n ∧ i < (tTh t n B i).2.1 := by
  unfold tTh at h ⊢
  by_cases h1 : nmf t n i 0 (B.1.length - 1) = 0
  · rw [if_pos h1] at h ⊢
    exact ⟨nmp_le hi, nmp_gt h1⟩
  · rw [if_neg h1] at h; exact absurd h h1
end
