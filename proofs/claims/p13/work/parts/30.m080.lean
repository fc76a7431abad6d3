section
variable {S : fS} {n : Nat} {s f : Int32}
def upT (S : fS) (k : Nat) (a : Int32) : fS := pI (pL (pI (pI (pI (pI S 32 k a) 33 k (-1)) 34 k 0) 35 k (-1)) 36 k 0) 31 5 (o3 (k + 1))
end
