section
variable {S : fS} {n : Nat} {s f : Int32}
def upS (S : fS) (k : Nat) (a b c : Int32) (p : Int64) : fS := pI (pL (pI (pI (pI S 26 k a) 27 k b) 28 k c) 29 k p) 24 7 (o3 (k + 1))
end
