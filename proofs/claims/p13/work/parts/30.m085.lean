section
variable {S : fS} {n : Nat} {s f : Int32}
theorem cl_S {c : Int32} {X : fS} : j_X9_readClause_31 c 0 1 X = if (12 : Int32) ≤ X.1 24 7 then j_X9_readClause_155 X else if c < 24 then ((f_X9_readStair X).bind fun q30 => j_X9_readClause_195 q30.1 q30.2) else j_X9_readClause_155 X := rfl
end
