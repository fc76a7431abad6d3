section
variable {t : Nat → Int32} {n : Nat} {B : TB} {i : Nat}
theorem tFl_fl (hi : i ≤ n) : (tFl t n B i).1 ≤ 8 * n + 10 := by
  have h1 := nmf_le (t := t) (lo := 1) (hi := 20) hi
  have h2 := nmf_le (t := t) (lo := 1) (hi := 20) (nmp_le (t := t) hi)
  unfold tFl
  split
  · split
    · exact Nat.zero_le _
    · show nmf t n (nmp t n i) 1 20 ≤ _; omega
  · show nmf t n i 1 20 ≤ _; omega
end
