section
def tSt (t : Nat → Int32) (n : Nat) (B : TB) (i : Nat) : Nat × Nat × TB :=
  if nmf t n i 0 (B.1.length - 1) = 0 then
    (if nmf t n (nmp t n i) 0 (B.1.length - 1) = 0 then
      (if nmv t n i = nmv t n (nmp t n i) then (1 + 8 * sk t n (nmp t n i) + 1, 0, B) else
        (if nmf t n (nmp t n (nmp t n i)) 1 9 = 0 then tPc t n B (nmv t n i) (nmv t n (nmp t n i)) (nmv t n (nmp t n (nmp t n i))) (nmp t n (nmp t n (nmp t n i)))
          else (nmf t n (nmp t n (nmp t n i)) 1 9, 0, B)))
      else (nmf t n (nmp t n i) 0 (B.1.length - 1), 0, B))
    else (nmf t n i 0 (B.1.length - 1), 0, B)
end
