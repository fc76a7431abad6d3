section
variable {S : fS} {n : Nat} {s f : Int32}
theorem tS_rw {i s' f' : Int32} : (tS S i s' f').1 1 1 = S.1 1 1 ∧ (tS S i s' f').1 2 = S.1 2 := ⟨rfl, rfl⟩
end
