section
def tPc (t : Nat → Int32) (n : Nat) (B : TB) (a b c : Nat) (i : Nat) : Nat × Nat × TB :=
  if nmf t n i 1 20 = 0 then (if nmf t n (nmp t n i) 1 20 = 0 then (0, nmp t n (nmp t n i), (B.1, B.2.1 ++ [(a, b, c, nmv t n i, nmv t n (nmp t n i))], B.2.2)) else (nmf t n (nmp t n i) 1 20, 0, B)) else (nmf t n i 1 20, 0, B)
end
