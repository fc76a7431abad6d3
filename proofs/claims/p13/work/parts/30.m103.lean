section
variable {S : fS} {n : Nat} {u : Int32}
theorem mf_lm {m : Nat} (h : m < 1000000) : (o3 m - 1).toInt = m - 1 := o3_p h
end
