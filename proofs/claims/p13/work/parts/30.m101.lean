section
theorem pI_eq {S : fS} {a k : Nat} {x : Int32} : (pI S a k x).1 a k = x := by rw [pI_get, if_pos ⟨rfl, rfl⟩]
end
