section
/-! lowest terms -/
theorem hlf {r b : Nat} (hr : r ≠ 0) (h : r ≤ b) : 2 * (b % r) < b := by
  have h1 : b % r < r := Nat.mod_lt _ (by omega)
  have h2 : r * (b / r) + b % r = b := Nat.div_add_mod b r
  have h3 : 1 ≤ b / r := (Nat.one_le_div_iff (by omega)).mpr h
  have h4 : r * 1 ≤ r * (b / r) := Nat.mul_le_mul_left r h3
  omega
theorem gcd_st (a b : Nat) : Nat.gcd b (a % b) = Nat.gcd a b := by
  rw [Nat.gcd_comm b (a % b), ← Nat.gcd_rec, Nat.gcd_comm]
section GC
variable {S : fS}
theorem cg_lp {K : Int64 → Option Int64} : ∀ k a b p nn, b < 2 ^ k → a < 9223372036854775808 → b < 9223372036854775808 → p + 2 * k ≤ 127 → 2 * k < nn → lp_X10_commonDivisor_15 S K nn (o6 a) (o6 b) (o3 p) = K (o6 (Nat.gcd a b)) := by
  intro k
  induction k with
  | zero =>
    intro a b p nn hb ha hb2 hp hnn
    obtain ⟨nn, rfl⟩ : ∃ z, nn = z + 1 := ⟨nn - 1, by omega⟩
    have e : b = 0 := by have : b < 1 := hb; omega
    rw [lp_X10_commonDivisor_15.eq_2, if_neg (show ¬ (128 : Int32) ≤ o3 p from fun q => by have := (o3_le (a := 128) (by omega) (by omega)).mp q; omega), e, if_pos (show o6 0 = (0 : Int64) from rfl), Nat.gcd_zero_right]
  | succ k ih =>
    intro a b p nn hb ha hb2 hp hnn
    obtain ⟨nn, rfl⟩ : ∃ z, nn = z + 2 := ⟨nn - 2, by omega⟩
    rw [lp_X10_commonDivisor_15.eq_2, if_neg (show ¬ (128 : Int32) ≤ o3 p from fun q => by have := (o3_le (a := 128) (by omega) (by omega)).mp q; omega)]
    by_cases h0 : b = 0
    · rw [h0, if_pos (show o6 0 = (0 : Int64) from rfl), Nat.gcd_zero_right]
    · rw [if_neg (o6_ne0 hb2 h0), o6_rL ha hb2 h0, bd_some, o3_s]
      have hr : a % b < b := Nat.mod_lt _ (by omega)
      rw [lp_X10_commonDivisor_15.eq_2, if_neg (show ¬ (128 : Int32) ≤ o3 (p + 1) from fun q => by have := (o3_le (a := 128) (by omega) (by omega)).mp q; omega), ← gcd_st a b]
      by_cases h1 : a % b = 0
      · rw [h1, if_pos (show o6 0 = (0 : Int64) from rfl), Nat.gcd_zero_right]
      · rw [if_neg (o6_ne0 (by omega) h1), o6_rL hb2 (by omega) h1, bd_some, o3_s, ← gcd_st b (a % b)]
        have h2 := hlf h1 (Nat.le_of_lt hr)
        have h3 : b % (a % b) < 2 ^ k := by
          have : (2 : Nat) ^ (k + 1) = 2 * 2 ^ k := by rw [Nat.pow_succ]; omega
          omega
        exact ih (a % b) (b % (a % b)) (p + 1 + 1) nn h3 (by omega) (by omega) (by omega) (by omega)
theorem mg_lp {K : Int64 → Option Int64} : ∀ k a b nn, b < 2 ^ k → a < 9223372036854775808 → b < 9223372036854775808 → 2 * k < nn → lp_X11_divisor_28 S K nn (o6 a) (o6 b) = K (o6 (Nat.gcd a b)) := by
  intro k
  induction k with
  | zero =>
    intro a b nn hb ha hb2 hnn
    obtain ⟨nn, rfl⟩ : ∃ z, nn = z + 1 := ⟨nn - 1, by omega⟩
    have e : b = 0 := by have : b < 1 := hb; omega
    rw [lp_X11_divisor_28.eq_2, e, if_pos (show o6 0 = (0 : Int64) from rfl), Nat.gcd_zero_right]
  | succ k ih =>
    intro a b nn hb ha hb2 hnn
    obtain ⟨nn, rfl⟩ : ∃ z, nn = z + 2 := ⟨nn - 2, by omega⟩
    rw [lp_X11_divisor_28.eq_2]
    by_cases h0 : b = 0
    · rw [h0, if_pos (show o6 0 = (0 : Int64) from rfl), Nat.gcd_zero_right]
    · rw [if_neg (o6_ne0 hb2 h0), o6_rL ha hb2 h0, bd_some]
      have hr : a % b < b := Nat.mod_lt _ (by omega)
      rw [lp_X11_divisor_28.eq_2, ← gcd_st a b]
      by_cases h1 : a % b = 0
      · rw [h1, if_pos (show o6 0 = (0 : Int64) from rfl), Nat.gcd_zero_right]
      · rw [if_neg (o6_ne0 (by omega) h1), o6_rL hb2 (by omega) h1, bd_some, ← gcd_st b (a % b)]
        have h2 := hlf h1 (Nat.le_of_lt hr)
        have h3 : b % (a % b) < 2 ^ k := by
          have : (2 : Nat) ^ (k + 1) = 2 * 2 ^ k := by rw [Nat.pow_succ]; omega
          omega
        exact ih (a % b) (b % (a % b)) nn h3 (by omega) (by omega) (by omega)
theorem c_cd {a b : Nat} (ha : a < 9223372036854775808) (hb : b < 9223372036854775808) : f_X10_commonDivisor (o6 a) (o6 b) S = some (o6 (Nat.gcd a b)) := by
  unfold f_X10_commonDivisor f_J9_abs_067f4
  rw [if_pos (o6_0le ha), if_pos (o6_0le hb), bd_some, bd_some]
  exact cg_lp (K := fun u12 => some u12) 63 a b 0 FU hb ha hb (by omega) (FU_lt (by omega))
theorem m_cd {a b : Nat} (ha : a < 9223372036854775808) (hb : b < 9223372036854775808) : f_X11_divisor (o6 a) (o6 b) S = some (o6 (Nat.gcd a b)) := by
  unfold f_X11_divisor
  rw [if_pos (o6_0le ha), if_pos (o6_0le hb)]
  exact mg_lp (K := fun u7 => some u7) 63 a b FU hb ha hb (FU_lt (by omega))
/-- the numerator, or the denominator, of a / b in lowest terms -/
def lw (a b : Nat) (v : Int32) : Int64 := if v = 0 then o6 (a / Nat.gcd a b) else o6 (b / Nat.gcd a b)
theorem gcd_lt {a b : Nat} (ha : a < 9223372036854775808) (hb : b < 9223372036854775808) (h0 : 0 < b) : Nat.gcd a b < 9223372036854775808 ∧ Nat.gcd a b ≠ 0 := by
  have h1 := Nat.gcd_le_right a h0
  have h2 := Nat.gcd_pos_of_pos_right a h0
  omega
theorem c_low {a b : Nat} {v : Int32} (ha : a < 9223372036854775808) (hb : b < 9223372036854775808) (h0 : 0 < b) : f_X10_lowest (o6 a) (o6 b) v S = some (lw a b v) := by
  obtain ⟨g1, g2⟩ := gcd_lt ha hb h0
  unfold f_X10_lowest lw
  rw [c_cd ha hb, bd_some, if_neg (o6_ne0 g1 g2), o6_dL ha g1 g2, o6_dL hb g1 g2, bd_some, bd_some]
  split <;> rfl
theorem m_low {a b : Nat} {v : Int32} (ha : a < 9223372036854775808) (hb : b < 9223372036854775808) (h0 : 0 < b) : f_X11_lowest (o6 a) (o6 b) v S = some (lw a b v) := by
  obtain ⟨g1, g2⟩ := gcd_lt ha hb h0
  unfold f_X11_lowest lw
  rw [m_cd ha hb, bd_some, o6_dL ha g1 g2, o6_dL hb g1 g2, bd_some, bd_some]
  split <;> rfl
end GC
theorem lw_sc {a b z : Nat} {v : Int32} (hz : 0 < z) : lw (a * z) (b * z) v = lw a b v := by
  unfold lw
  rw [Nat.gcd_mul_right, Nat.mul_div_mul_right _ _ hz, Nat.mul_div_mul_right _ _ hz]
theorem lw_cross {a b c d : Nat} {v : Int32} (hb : 0 < b) (hd : 0 < d) (h : a * d = c * b) : lw a b v = lw c d v := by
  rw [← lw_sc (a := a) (b := b) hd, h, Nat.mul_comm b d, lw_sc hb]
theorem lw_le {a b : Nat} {v : Int32} (ha : a < 9223372036854775808) (hb : b < 9223372036854775808) (h0 : 0 < b) : ∃ k, lw a b v = o6 k ∧ k ≤ (if v = 0 then a else b) := by
  unfold lw
  by_cases h : v = 0
  · rw [if_pos h, if_pos h]; exact ⟨_, rfl, Nat.div_le_self _ _⟩
  · rw [if_neg h, if_neg h]; exact ⟨_, rfl, Nat.div_le_self _ _⟩
/-- the rate's own number of parts -/
def pz (q : Nat × Nat) : Nat := 232792560 / q.2
theorem pz_eq {q : Nat × Nat} (h : okF q) : pz q * q.2 = 232792560 ∧ 0 < pz q ∧ pz q ≤ 232792560 := by
  obtain ⟨h1, h2, h3, h4⟩ := h
  have hd : 232792560 / q.2 * q.2 = 232792560 := by
    have : q.2 = 1 ∨ q.2 = 2 ∨ q.2 = 3 ∨ q.2 = 4 ∨ q.2 = 5 ∨ q.2 = 6 ∨ q.2 = 7 ∨ q.2 = 8 ∨ q.2 = 9 ∨ q.2 = 10 ∨ q.2 = 11 ∨ q.2 = 12 ∨ q.2 = 13 ∨ q.2 = 14 ∨ q.2 = 15 ∨ q.2 = 16 ∨ q.2 = 17 ∨ q.2 = 18 ∨ q.2 = 19 ∨ q.2 = 20 := by omega
    rcases this with e | e | e | e | e | e | e | e | e | e | e | e | e | e | e | e | e | e | e | e <;> rw [e]
  exact ⟨hd, Nat.div_pos (by omega) (by omega), Nat.div_le_self _ _⟩
theorem pc_o {q : Nat × Nat} : pc q = o6 (q.1 * pz q) := rfl
theorem pcn_le {q : Nat × Nat} (h : okF q) : 0 < q.1 * pz q ∧ q.1 * pz q ≤ 4655851200 := by
  obtain ⟨_, h2, h3⟩ := pz_eq h
  have := h.1
  have h5 : q.1 * pz q ≤ 20 * 232792560 := Nat.mul_le_mul h.2.1 h3
  exact ⟨Nat.mul_pos (by omega) h2, by omega⟩
end
