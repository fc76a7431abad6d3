section
theorem l1_20 : (1 : Int32).toInt = 1 ∧ (20 : Int32).toInt = 20 ∧ (9 : Int32).toInt = 9 := ⟨rfl, rfl, rfl⟩
end
