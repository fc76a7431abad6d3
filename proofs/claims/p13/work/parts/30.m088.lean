section
variable {S : fS} {n : Nat} {s f : Int32}
theorem cl_155 {X : fS} : j_X9_readClause_155 X = some (0, pI X 1 4 (1 + 8 * X.1 1 3 + 4)) := rfl
end
