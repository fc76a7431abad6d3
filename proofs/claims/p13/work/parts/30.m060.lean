section
/-! the class reads a tower -/
def d5 : Nat × Nat × Nat × Nat × Nat := (0, 0, 0, 0, 0)
end
