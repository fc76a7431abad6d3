section
/-! small numbers of 64 bits -/
def o6 (k : Nat) : Int64 := Int64.ofNat k
theorem o6_int {k : Nat} (h : k < 9223372036854775808) : (o6 k).toInt = k := Int64.toInt_ofNat_of_lt h
theorem o6_lt {a b : Nat} (ha : a < 9223372036854775808) (hb : b < 9223372036854775808) : o6 a < o6 b ↔ a < b := by
  rw [nl_lt, o6_int ha, o6_int hb]; omega
theorem o6_le {a b : Nat} (ha : a < 9223372036854775808) (hb : b < 9223372036854775808) : o6 a ≤ o6 b ↔ a ≤ b := by
  rw [nl_le, o6_int ha, o6_int hb]; omega
theorem o6_inj {a b : Nat} (ha : a < 9223372036854775808) (hb : b < 9223372036854775808) : o6 a = o6 b ↔ a = b := by
  rw [nl_eq, o6_int ha, o6_int hb]; omega
theorem o6_add {a b : Nat} : o6 a + o6 b = o6 (a + b) := (Int64.ofNat_add a b).symm
theorem o6_mul {a b : Nat} : o6 a * o6 b = o6 (a * b) := (Int64.ofNat_mul a b).symm
theorem o6_sub {a b : Nat} (h : b ≤ a) : o6 a - o6 b = o6 (a - b) := (Int64.ofNat_sub a b h).symm
theorem o6_nn {a : Nat} (ha : a < 9223372036854775808) : ¬ o6 a < 0 := by
  rw [nl_lt, o6_int ha, nl_0]; omega
theorem o6_0le {a : Nat} (ha : a < 9223372036854775808) : 0 ≤ o6 a := by
  rw [nl_le, o6_int ha, nl_0]; omega
theorem o6_of3 {a : Nat} (ha : a < 2147483648) : Int32.toInt64 (o3 a) = o6 a := nl_eq.mpr (by rw [Int32.toInt_toInt64, o3_int ha, o6_int (by omega)])
theorem o6_to3 {a : Nat} (ha : a < 2147483648) : Int64.toInt32 (o6 a) = o3 a := by
  rw [← o6_of3 ha, Int32.toInt32_toInt64]
theorem o6_div {a b : Nat} (ha : a < 9223372036854775808) (hb : b < 9223372036854775808) : o6 a / o6 b = o6 (a / b) := by
  have h1 : a / b ≤ a := Nat.div_le_self a b
  rw [nl_eq, Int64.toInt_div, o6_int ha, o6_int hb, o6_int (by omega)]
  have e : (a : Int).tdiv (b : Int) = ((a / b : Nat) : Int) := by
    rw [Int.tdiv_eq_ediv_of_nonneg (by omega)]
    exact (Int.natCast_ediv a b).symm
  rw [e]
  clear e
  generalize a / b = q at h1
  exact nl_bm (by omega) (by omega)
theorem o6_ne0 {a : Nat} (ha : a < 9223372036854775808) (h : a ≠ 0) : o6 a ≠ 0 := by
  intro q
  exact h ((o6_inj (b := 0) ha (by omega)).mp q)
theorem o6_dL {a b : Nat} (ha : a < 9223372036854775808) (hb : b < 9223372036854775808) (h : b ≠ 0) : dL (o6 a) (o6 b) = some (o6 (a / b)) := by
  unfold dL
  rw [if_neg (o6_ne0 hb h), o6_div ha hb]
theorem o6_rL {a b : Nat} (ha : a < 9223372036854775808) (hb : b < 9223372036854775808) (h : b ≠ 0) : rL (o6 a) (o6 b) = some (o6 (a % b)) := by
  unfold rL
  have hd : a / b * b ≤ a := Nat.div_mul_le_self a b
  have hm : a % b = a - a / b * b := by
    have := Nat.div_add_mod a b
    rw [Nat.mul_comm] at this
    omega
  rw [if_neg (o6_ne0 hb h), o6_div ha hb, o6_mul, o6_sub hd, hm]
theorem o6_of {x : Int64} (h : 0 ≤ x.toInt) : ∃ k, x = o6 k ∧ (k : Int) = x.toInt := ⟨x.toNatClampNeg, by rw [nl_eq, o6_int (by have := nl_nat h; have := nl_hi x; omega), nl_nat h], nl_nat h⟩
theorem pL_pI {S : fS} {a k b j : Nat} {x : Int32} {y : Int64} : pL (pI S a k x) b j y = pI (pL S b j y) a k x := rfl
/-- a rate in parts of the whole -/
def pc (q : Nat × Nat) : Int64 := o6 (q.1 * (232792560 / q.2))
theorem gd_app {α : Type} {l : List α} {x d : α} {k : Nat} : (l ++ [x]).getD k d = if k = l.length then x else l.getD k d := by
  by_cases h : k = l.length
  · rw [if_pos h, h, List.getD_eq_getElem?_getD, List.getElem?_append_right (Nat.le_refl _), Nat.sub_self]; rfl
  · rw [if_neg h, List.getD_eq_getElem?_getD, List.getD_eq_getElem?_getD]
    by_cases h2 : k < l.length
    · rw [List.getElem?_append_left h2]
    · rw [List.getElem?_append_right (by omega), List.getElem?_eq_none (by show 1 ≤ _; omega), List.getElem?_eq_none (by omega)]
theorem ln_app {α : Type} {l : List α} {x : α} : (l ++ [x]).length = l.length + 1 := List.length_append
end
