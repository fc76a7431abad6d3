section
variable {t : Nat → Int32} {n : Nat} {B : TB} {i : Nat}
theorem tSt_le (hi : i ≤ n) (h : (tSt t n B i).1 = 0) : (tSt t n B i).2.1 ≤ n ∧ i < (tSt t n B i).2.1 := by
  unfold tSt at h ⊢
  by_cases h1 : nmf t n i 0 (B.1.length - 1) = 0
  · rw [if_pos h1] at h ⊢
    by_cases h2 : nmf t n (nmp t n i) 0 (B.1.length - 1) = 0
    · rw [if_pos h2] at h ⊢
      by_cases h3 : nmv t n i = nmv t n (nmp t n i)
      · rw [if_pos h3] at h
        exact absurd h (by show ¬ (1 + 8 * _ + 1 = 0); omega)
      · rw [if_neg h3] at h ⊢
        by_cases h4 : nmf t n (nmp t n (nmp t n i)) 1 9 = 0
        · rw [if_pos h4] at h ⊢
          have e1 := nmp_le (t := t) hi
          have e2 := nmp_le (t := t) e1
          have e3 := nmp_le (t := t) e2
          have a := nmp_gt h1
          have b := nmp_gt h2
          have c := nmp_gt h4
          have := tPc_le e3 h
          omega
        · rw [if_neg h4] at h; exact absurd h h4
    · rw [if_neg h2] at h; exact absurd h h2
  · rw [if_neg h1] at h; exact absurd h h1
end
