section
variable {S : fS} {n : Nat} {w u : Int32}
/-- what `see` answers at a place that is no blank -/
def seen (t : Nat → Int32) (n j : Nat) : Int32 := if j < n then t j &&& 255 else -1
end
