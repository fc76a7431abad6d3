section
variable {t : Nat → Int32} {n : Nat} {B : TB} {i : Nat}
theorem tFl_le (hi : i ≤ n) (h : (tFl t n B i).1 = 0) : (tFl t n B i).2.1 ≤ n ∧ i < (tFl t n B i).2.1 := by
  unfold tFl at h ⊢
  by_cases h1 : nmf t n i 1 20 = 0
  · rw [if_pos h1] at h ⊢
    by_cases h2 : nmf t n (nmp t n i) 1 20 = 0
    · rw [if_pos h2] at h ⊢
      have := nmp_le (t := t) hi
      have a := nmp_gt h1
      have b := nmp_gt h2
      exact ⟨nmp_le this, by show i < nmp t n (nmp t n i); omega⟩
    · rw [if_neg h2] at h; exact absurd h h2
  · rw [if_neg h1] at h; exact absurd h h1
end
