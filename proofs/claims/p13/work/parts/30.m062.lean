section
def cwC0 (S : fS) (c : Nat) (H : List Nat) : Prop := S.1 c 5 = o3 H.length ∧ S.1 c 6 = 0 ∧ ∀ k, k < H.length → S.1 (c + 1) k = o3 (H.getD k 0) ∧ S.1 (c + 2) k = -1 ∧ S.1 (c + 3) k = 0 ∧ S.1 (c + 4) k = -1 ∧ S.2 (c + 5) k = 0
end
