section
variable {t : Nat → Int32} {n : Nat} {B : TB} {i : Nat}
theorem tSt_ok (hB : okB B) (h12 : B.2.1.length < 12) (h : (tSt t n B i).1 = 0) : okB (tSt t n B i).2.2 := by
  unfold tSt at h ⊢
  by_cases h1 : nmf t n i 0 (B.1.length - 1) = 0
  · rw [if_pos h1] at h ⊢
    by_cases h2 : nmf t n (nmp t n i) 0 (B.1.length - 1) = 0
    · rw [if_pos h2] at h ⊢
      by_cases h3 : nmv t n i = nmv t n (nmp t n i)
      · rw [if_pos h3] at h
        exact absurd h (by show ¬ (1 + 8 * _ + 1 = 0); omega)
      · rw [if_neg h3] at h ⊢
        by_cases h4 : nmf t n (nmp t n (nmp t n i)) 1 9 = 0
        · rw [if_pos h4] at h ⊢
          have g1 := (nmf_0 h1).2.2
          have g2 := (nmf_0 h2).2.2
          have g4 := (nmf_0 h4).2.2
          exact tPc_ok hB h12 (by omega) (by omega) h3 (by omega) h
        · rw [if_neg h4] at h; exact absurd h h4
    · rw [if_neg h2] at h; exact absurd h h2
  · rw [if_neg h1] at h; exact absurd h h1
end
