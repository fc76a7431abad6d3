section
/-! a test, turn by turn -/
/-- due, compared, made, written, held, place -/
abbrev TS : Type := Bool × Bool × Nat × List (Nat × Nat) × List Nat × Nat
/-- fault, place, made, written -/
abbrev TR : Type := Nat × Nat × Nat × List (Nat × Nat)
/-- behind a value: a sign of reckoning; or, where a fact has been compared, the end of the fact; or a sign that compares -/
def aft (t : Nat → Int32) (n : Nat) (cp : Bool) (m : Nat) (c : List (Nat × Nat)) (H : List Nat) (i : Nat) : TR ⊕ TS :=
  if rk t n (sk t n i) = 0 then
    (if cp = true then
      (if jn t n (sk t n (clo t n (brk H + 1) (sk t n i) H).2.1) = 0 then
        (if brk (clo t n (brk H + 1) (sk t n i) H).2.2 = 0 then .inl (0, sk t n (clo t n (brk H + 1) (sk t n i) H).2.1, m, c ++ (clo t n (brk H + 1) (sk t n i) H).1 ++ stO 1 (clo t n (brk H + 1) (sk t n i) H).2.2)
          else .inl (1 + 8 * sk t n (clo t n (brk H + 1) (sk t n i) H).2.1, 0, 0, []))
        else .inr (true, false, m, c ++ (clo t n (brk H + 1) (sk t n i) H).1 ++ stO (bnd (jn t n (sk t n (clo t n (brk H + 1) (sk t n i) H).2.1))) (clo t n (brk H + 1) (sk t n i) H).2.2, jn t n (sk t n (clo t n (brk H + 1) (sk t n i) H).2.1) :: stR (bnd (jn t n (sk t n (clo t n (brk H + 1) (sk t n i) H).2.1))) (clo t n (brk H + 1) (sk t n i) H).2.2, sk t n (clo t n (brk H + 1) (sk t n i) H).2.1 + jnL (jn t n (sk t n (clo t n (brk H + 1) (sk t n i) H).2.1))))
      else (if cm t n (sk t n i) = 0 then .inl (1 + 8 * sk t n i, 0, 0, [])
        else (if 60 ≤ m then .inl (1 + 8 * sk t n i + 3, 0, 0, []) else .inr (false, true, m + 1, c ++ stO 4 H, cm t n (sk t n i) :: stR 4 H, sk t n i + cmL (cm t n (sk t n i))))))
  else .inr (false, cp, m, c ++ stO (bnd (rk t n (sk t n i))) H, rk t n (sk t n i) :: stR (bnd (rk t n (sk t n i))) H, sk t n i + 1)
/-- a turn: openings, where a fact is due; a value; what stands behind it -/
def tval (t : Nat → Int32) (n : Nat) (cp : Bool) (m : Nat) (c : List (Nat × Nat)) (H : List Nat) (i : Nat) : TR ⊕ TS :=
  if vlF t n m (sk t n i) = 0 then aft t n cp (m + 1) (c ++ [vlC t n (sk t n i)]) H (vlP t n (sk t n i)) else .inl (vlF t n m (sk t n i), 0, 0, [])
def stp (t : Nat → Int32) (n : Nat) (x : TS) : TR ⊕ TS :=
  if x.1 = true then (if (opn t n (11 - dep x.2.2.2.2.1) x.2.2.2.2.2 x.2.2.2.2.1).1 = 0 then tval t n false x.2.2.1 x.2.2.2.1 (opn t n (11 - dep x.2.2.2.2.1) x.2.2.2.2.2 x.2.2.2.2.1).2.2 (opn t n (11 - dep x.2.2.2.2.1) x.2.2.2.2.2 x.2.2.2.2.1).2.1 else .inl ((opn t n (11 - dep x.2.2.2.2.1) x.2.2.2.2.2 x.2.2.2.2.1).1, 0, 0, []))
  else tval t n x.2.1 x.2.2.1 x.2.2.2.1 x.2.2.2.2.1 x.2.2.2.2.2
def run (t : Nat → Int32) (n : Nat) : Nat → TS → TR
  | 0, _ => (1, 0, 0, [])
  | f + 1, x => match stp t n x with
    | .inl r => r
    | .inr y => run t n f y
/-- the class, behind a value -/
def tA (K : fS → Option (Int32 × fS)) (nn : Nat) (z p3 : Int32) (X : fS) : Option (Int32 × fS) :=
  (f_X5_takeReckoning X).bind fun q16 =>
  if (0 : Int32) ≤ q16.1 then ((gB q16.1).bind fun a22 =>
    (f_X5_settle a22 q16.2).bind fun q25 =>
    (f_X5_hold q16.1 q25).bind fun q28 =>
    lp_X5_readTest_21 K nn (0 : Int32) z (p3 + (1 : Int32)) q28)
  else if z = (0 : Int32) then
    ((f_X5_takeComparing q16.2).bind fun q31 =>
    if (0 : Int32) ≤ q31.1 then ((f_X5_isRoomForOne q31.2).bind fun q35 =>
    if q35.1 = (0 : Int32) then (some ((0 : Int32), q35.2)) else
    ((gB q31.1).bind fun a39 =>
    (f_X5_settle a39 q35.2).bind fun q42 =>
    (f_X5_hold q31.1 q42).bind fun q45 =>
    lp_X5_readTest_21 K nn (0 : Int32) (1 : Int32) (p3 + (1 : Int32)) q45)) else
    ((f_X7_fail (q31.2.1 1 2) (0 : Int32) q31.2).bind fun q48 =>
    (bZ q48.1).bind fun z51 => some (z51, q48.2)))
  else
    ((f_X5_closeBrackets q16.2).bind fun q56 =>
    (f_X5_takeJoining q56).bind fun q59 =>
    if (0 : Int32) ≤ q59.1 then ((gB q59.1).bind fun a63 =>
    (f_X5_settle a63 q59.2).bind fun q66 =>
    (f_X5_hold q59.1 q66).bind fun q69 =>
    lp_X5_readTest_21 K nn (1 : Int32) z (p3 + (1 : Int32)) q69) else
    ((f_X5_isTestOver q59.2).bind fun q72 =>
    (bZ q72.1).bind fun z75 => some (z75, q72.2)))
set_option maxHeartbeats 4000000 in
theorem tA_eq {K : fS → Option (Int32 × fS)} {nn : Nat} {p1 p2 p3 : Int32} {S0 : fS} : lp_X5_readTest_21 K (nn + 1) p1 p2 p3 S0 = if (400 : Int32) ≤ p3 then K S0 else if p1 = 0 then ((f_X5_readValue S0).bind fun q12 => if q12.1 = (0 : Int32) then (some ((0 : Int32), q12.2)) else tA K nn p2 p3 q12.2) else ((f_X5_readOpenings S0).bind fun q201 => if q201.1 = (0 : Int32) then (some ((0 : Int32), q201.2)) else ((f_X5_readValue q201.2).bind fun q205 => if q205.1 = (0 : Int32) then (some ((0 : Int32), q205.2)) else tA K nn 0 p3 q205.2)) := by
  rw [lp_X5_readTest_21.eq_2]
  unfold tA
  have e00 : ((0 : Int32) = 0) = True := by simp
  have e10 : ((1 : Int32) = 0) = False := by decide
  by_cases h4 : (400 : Int32) ≤ p3
  · rw [if_pos h4, if_pos h4]
  · rw [if_neg h4, if_neg h4]
    by_cases hp : p1 = 0
    · rw [if_pos hp, if_pos hp]
      congr 1
      funext q12
      by_cases hq : q12.1 = 0
      · rw [if_pos hq, if_pos hq]
      · rw [if_neg hq, if_neg hq]
        congr 1
        funext q16
        by_cases h : (0 : Int32) ≤ q16.1
        · simp only [if_pos h, e00, if_true]
        · by_cases hz : p2 = 0
          · simp only [if_neg h, if_pos hz, e00, if_true]
          · simp only [if_neg h, if_neg hz, e10, if_false]
    · rw [if_neg hp, if_neg hp]
      congr 1
      funext q201
      by_cases hq : q201.1 = 0
      · rw [if_pos hq, if_pos hq]
      · rw [if_neg hq, if_neg hq]
        congr 1
        funext q205
        by_cases hq2 : q205.1 = 0
        · rw [if_pos hq2, if_pos hq2]
        · rw [if_neg hq2, if_neg hq2]
          congr 1
          funext q209
          by_cases h : (0 : Int32) ≤ q209.1
          · simp only [if_pos h, e00, if_true]
          · simp only [if_neg h, e00, if_true]
end
