section
def tFl (t : Nat → Int32) (n : Nat) (B : TB) (i : Nat) : Nat × Nat × TB :=
  if nmf t n i 1 20 = 0 then (if nmf t n (nmp t n i) 1 20 = 0 then (0, nmp t n (nmp t n i), (B.1 ++ [(nmv t n i, nmv t n (nmp t n i))], B.2)) else (nmf t n (nmp t n i) 1 20, 0, B)) else (nmf t n i 1 20, 0, B)
end
