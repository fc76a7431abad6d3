section
def okS (m : Nat) (q : Nat × Nat × Nat × Nat × Nat) : Prop := q.1 < m ∧ q.2.1 < m ∧ q.1 ≠ q.2.1 ∧ 1 ≤ q.2.2.1 ∧ q.2.2.1 ≤ 9 ∧ okF q.2.2.2
end
