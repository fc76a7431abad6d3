section
def TBc (S : fS) (B : TB) : Prop := twC S 24 B.1 B.2.1 ∧ cwC0 S 31 B.2.2
end
