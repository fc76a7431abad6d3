section
def okB (B : TB) : Prop := B.1.length ≤ 10 ∧ B.2.1.length ≤ 12 ∧ B.2.2.length ≤ 8 ∧ (∀ q ∈ B.1, okF q) ∧ (∀ q ∈ B.2.1, okS B.1.length q) ∧ (∀ q ∈ B.2.2, q < B.1.length)
end
