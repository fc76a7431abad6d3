section
/-- outside of the reader's own cells -/
def wR (a k : Nat) : Prop := (a = 145 ∧ (k = 1 ∨ k = 7 ∨ k = 8 ∨ k = 9 ∨ k = 13 ∨ k = 14 ∨ k = 15 ∨ k = 17 ∨ k = 19)) ∨ (a = 148 ∧ k = 6) ∨ a = 151 ∨ a = 152 ∨ a = 153
end
