section
def tcl (t : Nat → Int32) (n c : Nat) (B : TB) (i : Nat) : Nat × Nat × TB :=
  if wat t n (mm_sb.getD 0 []) (sk t n i) = true then (if 10 ≤ B.1.length ∨ 24 ≤ c then (1 + 8 * sk t n i + 4, 0, B) else tFl t n B (sk t n i + 5))
  else if wat t n (mm_sb.getD 1 []) (sk t n i) = true then (if 12 ≤ B.2.1.length ∨ 24 ≤ c then (1 + 8 * sk t n i + 4, 0, B) else tSt t n B (sk t n i + 5))
  else if wat t n (mm_sb.getD 2 []) (sk t n i) = true then (if 8 ≤ B.2.2.length ∨ 24 ≤ c then (1 + 8 * sk t n i + 4, 0, B) else tTh t n B (sk t n i + 5))
  else (1 + 8 * sk t n i, 0, B)
end
