section
variable {S : fS} {n : Nat} {w u : Int32}
theorem pk_sh {x a : Nat} (hx : x < 2 ^ 56) (ha : a < 256) : (Int64.ofNat x <<< (Int32.toInt64 8 &&& 63)) ||| Int64.ofNat a = Int64.ofNat (x * 256 + a) := by
  have h8 : Int32.toInt64 8 &&& 63 = 8 := by decide
  rw [h8]
  apply Int64.toBitVec_inj.mp
  rw [Int64.toBitVec_or, Int64.toBitVec_shiftLeft]
  apply BitVec.eq_of_toNat_eq
  have e1 : (Int64.ofNat x).toBitVec = BitVec.ofNat 64 x := rfl
  have e2 : (Int64.ofNat a).toBitVec = BitVec.ofNat 64 a := rfl
  have e3 : (Int64.ofNat (x * 256 + a)).toBitVec = BitVec.ofNat 64 (x * 256 + a) := rfl
  have e4 : (Int64.toBitVec 8).smod 64 = BitVec.ofNat 64 8 := by decide
  rw [e1, e2, e3, e4, BitVec.toNat_or, BitVec.shiftLeft_eq', BitVec.toNat_shiftLeft, BitVec.toNat_ofNat, BitVec.toNat_ofNat, BitVec.toNat_ofNat, BitVec.toNat_ofNat]
  rw [Nat.mod_eq_of_lt (show x < 2 ^ 64 by omega), Nat.mod_eq_of_lt (show a < 2 ^ 64 by omega), Nat.mod_eq_of_lt (show (8 : Nat) < 2 ^ 64 by decide), Nat.mod_eq_of_lt (show x * 256 + a < 2 ^ 64 by omega)]
  rw [Nat.mod_eq_of_lt (show x <<< 8 < 2 ^ 64 by rw [Nat.shiftLeft_eq]; omega), ← Nat.shiftLeft_add_eq_or_of_lt (by omega), Nat.shiftLeft_eq]
end
