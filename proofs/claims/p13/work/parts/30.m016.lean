section
def mS (S : fS) (i w u : Int32) : fS := pI (pI (pI S 145 13 i) 145 14 w) 145 15 u
end
