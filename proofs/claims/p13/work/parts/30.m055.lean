section
variable {t : Nat → Int32} {n : Nat} {B : TB} {i : Nat}
theorem tFl_ok (hB : okB B) (h10 : B.1.length < 10) (h : (tFl t n B i).1 = 0) : okB (tFl t n B i).2.2 := by
  unfold tFl at h ⊢
  by_cases h1 : nmf t n i 1 20 = 0
  · rw [if_pos h1] at h ⊢
    by_cases h2 : nmf t n (nmp t n i) 1 20 = 0
    · rw [if_pos h2] at h ⊢
      obtain ⟨b1, b2, b3, b4, b5, b6⟩ := hB
      have g1 := (nmf_0 h1).2.2
      have g2 := (nmf_0 h2).2.2
      refine ⟨?_, b2, b3, ?_, ?_, ?_⟩
      · show (B.1 ++ [_]).length ≤ 10
        rw [ln_app]; omega
      · intro q hq
        rcases List.mem_append.mp hq with hq | hq
        · exact b4 q hq
        · rw [List.mem_singleton.mp hq]
          exact ⟨by show 1 ≤ nmv t n i; omega, by show nmv t n i ≤ 20; omega, by show 1 ≤ nmv t n _; omega, by show nmv t n _ ≤ 20; omega⟩
      · intro q hq
        refine okS_mo ?_ (b5 q hq)
        show _ ≤ (B.1 ++ [_]).length
        rw [ln_app]; omega
      · intro q hq
        have := b6 q hq
        show _ < (B.1 ++ [_]).length
        rw [ln_app]; omega
    · rw [if_neg h2] at h; exact absurd h h2
  · rw [if_neg h1] at h; exact absurd h h1
end
