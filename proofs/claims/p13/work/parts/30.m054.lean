section
theorem okS_mo {m k : Nat} (h : m ≤ k) {q : Nat × Nat × Nat × Nat × Nat} (hq : okS m q) : okS k q := ⟨Nat.lt_of_lt_of_le hq.1 h, Nat.lt_of_lt_of_le hq.2.1 h, hq.2.2⟩
end
