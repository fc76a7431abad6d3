section
def okF (q : Nat × Nat) : Prop := 1 ≤ q.1 ∧ q.1 ≤ 20 ∧ 1 ≤ q.2 ∧ q.2 ≤ 20
end
