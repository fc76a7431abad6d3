section
/-- what the reference's reader does behind the clauses -/
def rdK (u30 : Int32) (S31 : fS) : Option (Int32 × fS) := if u30 = (0 : Int32) then (if u30 = (0 : Int32) then ((some (pI S31 145 1 (0 : Int32))).bind fun S35 =>
  if (S35.1 145 14) = (0 : Int32) then (some ((1 : Int32), S35)) else
  (some ((0 : Int32), S35))) else
  (if (S31.1 145 16) = (6 : Int32) then (if (S31.1 145 7) = (0 : Int32) then ((f_X11_fails (0 : Int32) (S31.1 145 13) S31).bind fun q49 =>
  (some (pI q49.2 145 1 (0 : Int32))).bind fun S52 =>
  if (S52.1 145 14) = (0 : Int32) then (some ((1 : Int32), S52)) else
  (some ((0 : Int32), S52))) else
  ((some (pI S31 145 1 (0 : Int32))).bind fun S45 =>
  if (S45.1 145 14) = (0 : Int32) then (some ((1 : Int32), S45)) else
  (some ((0 : Int32), S45)))) else
  ((some (pI S31 145 1 (0 : Int32))).bind fun S40 =>
  if (S40.1 145 14) = (0 : Int32) then (some ((1 : Int32), S40)) else
  (some ((0 : Int32), S40))))) else
  ((f_X11_see  S31).bind fun q56 =>
  if q56.1 = (-1 : Int32) then (if u30 = (0 : Int32) then ((some (pI q56.2 145 1 (0 : Int32))).bind fun S61 =>
  if (S61.1 145 14) = (0 : Int32) then (some ((1 : Int32), S61)) else
  (some ((0 : Int32), S61))) else
  (if (q56.2.1 145 16) = (6 : Int32) then (if (q56.2.1 145 7) = (0 : Int32) then ((f_X11_fails (0 : Int32) (q56.2.1 145 13) q56.2).bind fun q75 =>
  (some (pI q75.2 145 1 (0 : Int32))).bind fun S78 =>
  if (S78.1 145 14) = (0 : Int32) then (some ((1 : Int32), S78)) else
  (some ((0 : Int32), S78))) else
  ((some (pI q56.2 145 1 (0 : Int32))).bind fun S71 =>
  if (S71.1 145 14) = (0 : Int32) then (some ((1 : Int32), S71)) else
  (some ((0 : Int32), S71)))) else
  ((some (pI q56.2 145 1 (0 : Int32))).bind fun S66 =>
  if (S66.1 145 14) = (0 : Int32) then (some ((1 : Int32), S66)) else
  (some ((0 : Int32), S66))))) else
  ((f_X11_fails (0 : Int32) (q56.2.1 145 13) q56.2).bind fun q82 =>
  if q82.1 = (0 : Int32) then ((some (pI q82.2 145 1 (0 : Int32))).bind fun S86 =>
  if (S86.1 145 14) = (0 : Int32) then (some ((1 : Int32), S86)) else
  (some ((0 : Int32), S86))) else
  (if (q82.2.1 145 16) = (6 : Int32) then (if (q82.2.1 145 7) = (0 : Int32) then ((f_X11_fails (0 : Int32) (q82.2.1 145 13) q82.2).bind fun q100 =>
  (some (pI q100.2 145 1 (0 : Int32))).bind fun S103 =>
  if (S103.1 145 14) = (0 : Int32) then (some ((1 : Int32), S103)) else
  (some ((0 : Int32), S103))) else
  ((some (pI q82.2 145 1 (0 : Int32))).bind fun S96 =>
  if (S96.1 145 14) = (0 : Int32) then (some ((1 : Int32), S96)) else
  (some ((0 : Int32), S96)))) else
  ((some (pI q82.2 145 1 (0 : Int32))).bind fun S91 =>
  if (S91.1 145 14) = (0 : Int32) then (some ((1 : Int32), S91)) else
  (some ((0 : Int32), S91))))))
end
