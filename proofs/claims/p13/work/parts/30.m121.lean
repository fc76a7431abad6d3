section
def eD (S T : fS) : Prop := (∀ a k, ¬ wR a k → T.1 a k = S.1 a k) ∧ T.2 = S.2
end
