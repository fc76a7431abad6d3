section
variable {S : fS} {n : Nat} {s f : Int32}
theorem o3_p {k : Nat} (h : k < 1000000) : (o3 k - 1).toInt = k - 1 := by
  rw [ni_sub (b := 1) (by rw [o3_int (by omega)]; show _ ≤ _ - (1 : Int); omega) (by rw [o3_int (by omega)]; show _ - (1 : Int) < _; omega), o3_int (by omega)]
  rfl
end
