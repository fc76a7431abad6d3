section
def tTh (t : Nat → Int32) (n : Nat) (B : TB) (i : Nat) : Nat × Nat × TB :=
  if nmf t n i 0 (B.1.length - 1) = 0 then (0, nmp t n i, (B.1, B.2.1, B.2.2 ++ [nmv t n i])) else (nmf t n i 0 (B.1.length - 1), 0, B)
end
