section
theorem eD_of {S T : fS} (h : eC S T) : eD S T := ⟨fun a k n => h.1 a k (fun q => n (by unfold wR; unfold wM at q; omega)), h.2⟩
end
