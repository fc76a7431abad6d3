section
theorem eD.tr {S T U : fS} (h : eD S T) (g : eD T U) : eD S U := ⟨fun a k n => (g.1 a k n).trans (h.1 a k n), g.2.trans h.2⟩
end
