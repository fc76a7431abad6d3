section
variable {S : fS} {n : Nat} {s f : Int32}
/-- fields that a clause of a tower leaves as they are -/
theorem ct_keep {c : Int32} {X Y : fS} {r : Int32} (h : f_X9_readClause c X = some (r, Y)) : Y.1 1 1 = X.1 1 1 ∧ Y.1 2 = X.1 2 := by
  have hF := fr_f_X9_readClause h
  refine ⟨hF.1 1 1 ?_, funext fun k => hF.1 2 k ?_⟩
  · unfold w1_f_X9_readClause; omega
  · unfold w1_f_X9_readClause; omega
end
