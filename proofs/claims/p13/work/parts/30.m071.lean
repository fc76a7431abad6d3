section
variable {S : fS} {n : Nat} {s f : Int32}
theorem pc_nn {q : Nat × Nat} (h : okF q) : (0 : Int64) ≤ pc q := o6_0le (pc_lt h)
end
