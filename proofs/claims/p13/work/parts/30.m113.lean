section
variable {t : Nat → Int32} {n : Nat} {B : TB} {i : Nat}
theorem tcl_fl {c : Nat} (hi : i ≤ n) : (tcl t n c B i).1 ≤ 8 * n + 10 := by
  have hj := sk_le (t := t) hi
  unfold tcl
  by_cases h1 : wat t n (mm_sb.getD 0 []) (sk t n i) = true
  · rw [if_pos h1]
    have hw : sk t n i + 5 ≤ n := wat_le hj h1
    split
    · show 1 + 8 * sk t n i + 4 ≤ _; omega
    · exact tFl_fl hw
  · rw [if_neg h1]
    by_cases h2 : wat t n (mm_sb.getD 1 []) (sk t n i) = true
    · rw [if_pos h2]
      have hw : sk t n i + 5 ≤ n := wat_le hj h2
      split
      · show 1 + 8 * sk t n i + 4 ≤ _; omega
      · exact tSt_fl hw
    · rw [if_neg h2]
      by_cases h3 : wat t n (mm_sb.getD 2 []) (sk t n i) = true
      · rw [if_pos h3]
        have hw : sk t n i + 5 ≤ n := wat_le hj h3
        split
        · show 1 + 8 * sk t n i + 4 ≤ _; omega
        · exact tTh_fl hw
      · rw [if_neg h3]
        show 1 + 8 * sk t n i ≤ _; omega
end
