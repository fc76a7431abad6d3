section
variable {S : fS} {n : Nat} {w u : Int32}
theorem pkk_7 {t : Nat → Int32} {i k : Nat} (hk : k ≤ 7) (h : ∀ m, m < k → isL (t (i + m))) : pk t i k < 2 ^ 56 := by
  rcases pkk_lt k h with h1 | rfl
  · have h2 : 256 ^ k ≤ 256 ^ 7 := Nat.pow_le_pow_right (by decide) hk
    have h3 : (256 : Nat) ^ 7 = 2 ^ 56 := by decide
    omega
  · show 0 < _
    decide
end
