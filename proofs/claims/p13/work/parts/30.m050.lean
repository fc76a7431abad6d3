section
/-- all clauses: 0 and what was told, or the fault -/
def tall (t : Nat → Int32) (n : Nat) : Nat → Nat → Nat → TB → Nat × TB
  | 0, _, _, B => (1, B)
  | f + 1, c, i, B => if (tcl t n c B i).1 = 0 then
      (if sk t n (tcl t n c B i).2.1 < n then (if t (sk t n (tcl t n c B i).2.1) = 59 then tall t n f (c + 1) (sk t n (tcl t n c B i).2.1 + 1) (tcl t n c B i).2.2 else (1 + 8 * sk t n (tcl t n c B i).2.1, (tcl t n c B i).2.2)) else (0, (tcl t n c B i).2.2))
    else ((tcl t n c B i).1, B)
end
