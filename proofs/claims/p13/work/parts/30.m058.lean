section
variable {t : Nat → Int32} {n : Nat} {B : TB} {i : Nat}
theorem tTh_ok (hB : okB B) (h8 : B.2.2.length < 8) (h : (tTh t n B i).1 = 0) : okB (tTh t n B i).2.2 := by
  unfold tTh at h ⊢
  by_cases h1 : nmf t n i 0 (B.1.length - 1) = 0
  · rw [if_pos h1] at h ⊢
    obtain ⟨b1, b2, b3, b4, b5, b6⟩ := hB
    have g1 := (nmf_0 h1).2.2
    refine ⟨b1, b2, ?_, b4, b5, ?_⟩
    · show (B.2.2 ++ [_]).length ≤ 8
      rw [ln_app]; omega
    · intro q hq
      rcases List.mem_append.mp hq with hq | hq
      · exact b6 q hq
      · rw [List.mem_singleton.mp hq]
        show nmv t n i < B.1.length
        omega
  · rw [if_neg h1] at h; exact absurd h h1
end
