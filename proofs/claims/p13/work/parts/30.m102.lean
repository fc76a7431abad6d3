section
theorem pL_eq {S : fS} {a k : Nat} {x : Int64} : (pL S a k x).2 a k = x := by rw [pL_get, if_pos ⟨rfl, rfl⟩]
end
