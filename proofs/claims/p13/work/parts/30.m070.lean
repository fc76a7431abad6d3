section
variable {S : fS} {n : Nat} {s f : Int32}
theorem pc_lt {q : Nat × Nat} (h : okF q) : q.1 * (232792560 / q.2) < 9223372036854775808 := by
  have h1 : 232792560 / q.2 ≤ 232792560 := Nat.div_le_self _ _
  have h2 := h.2.1
  generalize 232792560 / q.2 = x at h1
  have h3 : q.1 * x ≤ 20 * 232792560 := Nat.mul_le_mul h2 h1
  omega
end
