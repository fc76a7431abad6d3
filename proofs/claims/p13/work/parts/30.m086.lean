section
variable {S : fS} {n : Nat} {s f : Int32}
theorem cl_T {c : Int32} {X : fS} : j_X9_readClause_57 c 0 0 1 X = if X.1 31 5 < 8 then (if c < 24 then ((f_X9_readThing X).bind fun q22 => j_X9_readClause_195 q22.1 q22.2) else j_X9_readClause_155 X) else j_X9_readClause_155 X := rfl
end
