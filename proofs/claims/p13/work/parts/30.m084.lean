section
variable {S : fS} {n : Nat} {s f : Int32}
theorem cl_F {c : Int32} {X : fS} : j_X9_readClause_30 c 1 X = if (10 : Int32) ≤ X.1 24 6 then j_X9_readClause_155 X else if c < 24 then ((f_X9_readFloor X).bind fun q33 => (bZ q33.1).bind fun z36 => some (z36, q33.2)) else j_X9_readClause_155 X := rfl
end
