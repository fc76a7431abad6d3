section
variable {t : Nat → Int32} {n : Nat} {B : TB} {i : Nat}
theorem tSt_fl (hi : i ≤ n) : (tSt t n B i).1 ≤ 8 * n + 10 := by
  have e1 := nmp_le (t := t) hi
  have e2 := nmp_le (t := t) e1
  have e3 := nmp_le (t := t) e2
  have h1 := nmf_le (t := t) (lo := 0) (hi := B.1.length - 1) hi
  have h2 := nmf_le (t := t) (lo := 0) (hi := B.1.length - 1) e1
  have h3 := nmf_le (t := t) (lo := 1) (hi := 9) e2
  have h4 := sk_le (t := t) e1
  unfold tSt
  split
  · split
    · split
      · show 1 + 8 * sk t n (nmp t n i) + 1 ≤ _; omega
      · split
        · exact tPc_fl e3
        · show nmf t n (nmp t n (nmp t n i)) 1 9 ≤ _; omega
    · show nmf t n (nmp t n i) 0 _ ≤ _; omega
  · show nmf t n i 0 _ ≤ _; omega
end
