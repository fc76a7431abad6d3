section
/-! a tower's text: floors, stairs, things as they are told -/
abbrev TB : Type := List (Nat × Nat) × List (Nat × Nat × Nat × Nat × Nat) × List Nat
end
