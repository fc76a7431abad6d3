section
def twC (S : fS) (b : Nat) (F : List (Nat × Nat)) (E : List (Nat × Nat × Nat × Nat × Nat)) : Prop := S.1 b 6 = o3 F.length ∧ S.1 b 7 = o3 E.length ∧ (∀ k, k < F.length → S.2 (b + 1) k = pc (F.getD k (0, 0))) ∧ (∀ k, k < E.length → S.1 (b + 2) k = o3 (E.getD k d5).1 ∧ S.1 (b + 3) k = o3 (E.getD k d5).2.1 ∧ S.1 (b + 4) k = o3 (E.getD k d5).2.2.1 ∧ S.2 (b + 5) k = pc (E.getD k d5).2.2.2)
end
