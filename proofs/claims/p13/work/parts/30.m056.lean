section
variable {t : Nat → Int32} {n : Nat} {B : TB} {i : Nat}
theorem tPc_ok {a b c : Nat} (hB : okB B) (h12 : B.2.1.length < 12) (ha : a < B.1.length) (hb : b < B.1.length) (hab : a ≠ b) (hc : 1 ≤ c ∧ c ≤ 9) (h : (tPc t n B a b c i).1 = 0) : okB (tPc t n B a b c i).2.2 := by
  unfold tPc at h ⊢
  by_cases h1 : nmf t n i 1 20 = 0
  · rw [if_pos h1] at h ⊢
    by_cases h2 : nmf t n (nmp t n i) 1 20 = 0
    · rw [if_pos h2] at h ⊢
      obtain ⟨b1, b2, b3, b4, b5, b6⟩ := hB
      have g1 := (nmf_0 h1).2.2
      have g2 := (nmf_0 h2).2.2
      refine ⟨b1, ?_, b3, b4, ?_, b6⟩
      · show (B.2.1 ++ [_]).length ≤ 12
        rw [ln_app]; omega
      · intro q hq
        rcases List.mem_append.mp hq with hq | hq
        · exact b5 q hq
        · rw [List.mem_singleton.mp hq]
          exact ⟨ha, hb, hab, hc.1, hc.2, by show 1 ≤ nmv t n i; omega, by show nmv t n i ≤ 20; omega, by show 1 ≤ nmv t n _; omega, by show nmv t n _ ≤ 20; omega⟩
    · rw [if_neg h2] at h; exact absurd h h2
  · rw [if_neg h1] at h; exact absurd h h1
end
