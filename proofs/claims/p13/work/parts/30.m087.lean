section
variable {S : fS} {n : Nat} {s f : Int32}
theorem cl_N {c : Int32} {X : fS} : j_X9_readClause_56 c 0 0 X = some (0, pI X 1 4 (1 + 8 * X.1 1 2 + 0)) := rfl
end
