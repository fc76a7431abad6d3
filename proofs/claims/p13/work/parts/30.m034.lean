section
variable {S : fS} {n : Nat} {w u : Int32}
theorem nl_ofNat {a : Nat} (h : a < 2 ^ 63) : (Int64.ofNat a).toInt = a := Int64.toInt_ofNat_of_lt h
end
