section
theorem tall_fl {t : Nat → Int32} {n : Nat} : ∀ f c i B, i ≤ n → (tall t n f c i B).1 ≤ 8 * n + 10 := by
  intro f
  induction f with
  | zero => intro c i B _; show 1 ≤ _; omega
  | succ f ih =>
    intro c i B hi
    have h1 := tcl_fl (t := t) (B := B) (c := c) hi
    rw [tall_tl]
    by_cases hz : (tcl t n c B i).1 = 0
    · rw [if_pos hz]
      have hle := tcl_le hi hz
      have hs := sk_le (t := t) hle.1
      unfold tl
      split
      · split
        · exact ih _ _ _ (by omega)
        · show 1 + 8 * _ ≤ _; omega
      · exact Nat.zero_le _
    · rw [if_neg hz]; exact h1
end
