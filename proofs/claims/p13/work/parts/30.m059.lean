section
variable {t : Nat → Int32} {n : Nat} {B : TB} {i : Nat}
theorem tcl_ok {c : Nat} (hB : okB B) (h : (tcl t n c B i).1 = 0) : okB (tcl t n c B i).2.2 ∧ c < 24 := by
  unfold tcl at h ⊢
  by_cases h1 : wat t n (mm_sb.getD 0 []) (sk t n i) = true
  · rw [if_pos h1] at h ⊢
    by_cases h2 : 10 ≤ B.1.length ∨ 24 ≤ c
    · rw [if_pos h2] at h; exact absurd h (by show ¬ (1 + 8 * _ + 4 = 0); omega)
    · rw [if_neg h2] at h ⊢
      exact ⟨tFl_ok hB (by omega) h, by omega⟩
  · rw [if_neg h1] at h ⊢
    by_cases h3 : wat t n (mm_sb.getD 1 []) (sk t n i) = true
    · rw [if_pos h3] at h ⊢
      by_cases h2 : 12 ≤ B.2.1.length ∨ 24 ≤ c
      · rw [if_pos h2] at h; exact absurd h (by show ¬ (1 + 8 * _ + 4 = 0); omega)
      · rw [if_neg h2] at h ⊢
        exact ⟨tSt_ok hB (by omega) h, by omega⟩
    · rw [if_neg h3] at h ⊢
      by_cases h4 : wat t n (mm_sb.getD 2 []) (sk t n i) = true
      · rw [if_pos h4] at h ⊢
        by_cases h2 : 8 ≤ B.2.2.length ∨ 24 ≤ c
        · rw [if_pos h2] at h; exact absurd h (by show ¬ (1 + 8 * _ + 4 = 0); omega)
        · rw [if_neg h2] at h ⊢
          exact ⟨tTh_ok hB (by omega) h, by omega⟩
      · rw [if_neg h4] at h; exact absurd h (by show ¬ (1 + 8 * _ = 0); omega)
end
