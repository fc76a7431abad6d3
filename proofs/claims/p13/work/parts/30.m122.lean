section
theorem eD.rf {S : fS} : eD S S := ⟨fun _ _ _ => rfl, rfl⟩
end
