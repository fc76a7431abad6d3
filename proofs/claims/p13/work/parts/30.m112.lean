section
variable {t : Nat → Int32} {n : Nat} {B : TB} {i : Nat}
theorem tTh_fl (hi : i ≤ n) : (tTh t n B i).1 ≤ 8 * n + 10 := by
  have h1 := nmf_le (t := t) (lo := 0) (hi := B.1.length - 1) hi
  unfold tTh
  split
  · exact Nat.zero_le _
  · show nmf t n i 0 _ ≤ _; omega
end
