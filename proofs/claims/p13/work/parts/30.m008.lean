section
/-- the word's letters as one number -/
def pk (t : Nat → Int32) (i : Nat) : Nat → Nat
  | 0 => 0
  | k + 1 => pk t i k * 256 + (t (i + k)).toInt.toNat
end
