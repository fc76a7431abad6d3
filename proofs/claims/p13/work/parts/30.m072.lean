section
variable {S : fS} {n : Nat} {s f : Int32}
def upF (S : fS) (k : Nat) (p : Int64) : fS := pI (pL S 25 k p) 24 6 (o3 (k + 1))
end
