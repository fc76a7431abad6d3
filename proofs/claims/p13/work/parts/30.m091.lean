section
variable {t : Nat → Int32} {n : Nat} {B : TB} {i : Nat}
theorem tPc_le {a b c : Nat} (hi : i ≤ n) (h : (tPc t n B a b c i).1 = 0) : (tPc t n B a b c i).2.1 ≤ n ∧ i < (tPc t n B a b c i).2.1 := by
  unfold tPc at h ⊢
  by_cases h1 : nmf t n i 1 20 = 0
  · rw [if_pos h1] at h ⊢
    by_cases h2 : nmf t n (nmp t n i) 1 20 = 0
    · rw [if_pos h2] at h ⊢
      have := nmp_le (t := t) hi
      have a := nmp_gt h1
      have b := nmp_gt h2
      exact ⟨nmp_le this, by show i < nmp t n (nmp t n i); omega⟩
    · rw [if_neg h2] at h; exact absurd h h2
  · rw [if_neg h1] at h; exact absurd h h1
end
