section
/-! what was written before stands ahead, and matters to nothing else -/
def pre (c0 : List (Nat × Nat)) (r : TR) : TR := if r.1 = 0 then (r.1, r.2.1, r.2.2.1, c0 ++ r.2.2.2) else r
def preS (c0 : List (Nat × Nat)) (x : TR ⊕ TS) : TR ⊕ TS := match x with
  | .inl r => .inl (pre c0 r)
  | .inr y => .inr (y.1, y.2.1, y.2.2.1, c0 ++ y.2.2.2.1, y.2.2.2.2)
theorem aft_pre {t : Nat → Int32} {n m i : Nat} {cp : Bool} {c0 c : List (Nat × Nat)} {H : List Nat} : aft t n cp m (c0 ++ c) H i = preS c0 (aft t n cp m c H i) := by
  unfold aft
  generalize clo t n (brk H + 1) (sk t n i) H = Q
  by_cases h1 : rk t n (sk t n i) = 0
  · rw [if_pos h1, if_pos h1]
    by_cases h2 : cp = true
    · rw [if_pos h2, if_pos h2]
      by_cases h3 : jn t n (sk t n Q.2.1) = 0
      · rw [if_pos h3, if_pos h3]
        by_cases h4 : brk Q.2.2 = 0
        · rw [if_pos h4, if_pos h4]
          show _ = Sum.inl (pre c0 (0, sk t n Q.2.1, m, c ++ Q.1 ++ stO 1 Q.2.2))
          unfold pre
          rw [if_pos rfl, List.append_assoc, List.append_assoc, List.append_assoc]
        · rw [if_neg h4, if_neg h4]
          show _ = Sum.inl (pre c0 (1 + 8 * sk t n Q.2.1, 0, 0, []))
          unfold pre
          rw [if_neg (show ¬ (1 + 8 * sk t n Q.2.1 = 0) by omega)]
      · rw [if_neg h3, if_neg h3]
        show _ = Sum.inr (_, _, _, c0 ++ (c ++ Q.1 ++ stO _ Q.2.2), _)
        rw [List.append_assoc, List.append_assoc, List.append_assoc]
    · rw [if_neg h2, if_neg h2]
      by_cases h3 : cm t n (sk t n i) = 0
      · rw [if_pos h3, if_pos h3]
        show _ = Sum.inl (pre c0 (1 + 8 * sk t n i, 0, 0, []))
        unfold pre
        rw [if_neg (show ¬ (1 + 8 * sk t n i = 0) by omega)]
      · rw [if_neg h3, if_neg h3]
        by_cases h4 : 60 ≤ m
        · rw [if_pos h4, if_pos h4]
          show _ = Sum.inl (pre c0 (1 + 8 * sk t n i + 3, 0, 0, []))
          unfold pre
          rw [if_neg (show ¬ (1 + 8 * sk t n i + 3 = 0) by omega)]
        · rw [if_neg h4, if_neg h4]
          show _ = Sum.inr (_, _, _, c0 ++ (c ++ stO 4 H), _)
          rw [List.append_assoc]
  · rw [if_neg h1, if_neg h1]
    show _ = Sum.inr (_, _, _, c0 ++ (c ++ stO _ H), _)
    rw [List.append_assoc]
theorem tval_pre {t : Nat → Int32} {n m i : Nat} {cp : Bool} {c0 c : List (Nat × Nat)} {H : List Nat} : tval t n cp m (c0 ++ c) H i = preS c0 (tval t n cp m c H i) := by
  unfold tval
  by_cases h1 : vlF t n m (sk t n i) = 0
  · rw [if_pos h1, if_pos h1, List.append_assoc, aft_pre]
  · rw [if_neg h1, if_neg h1]
    show _ = Sum.inl (pre c0 (vlF t n m (sk t n i), 0, 0, []))
    unfold pre
    rw [if_neg h1]
theorem stp_pre {t : Nat → Int32} {n m i : Nat} {due cp : Bool} {c0 c : List (Nat × Nat)} {H : List Nat} : stp t n (due, cp, m, c0 ++ c, H, i) = preS c0 (stp t n (due, cp, m, c, H, i)) := by
  unfold stp
  dsimp only
  generalize opn t n (11 - dep H) i H = Q
  by_cases h1 : due = true
  · rw [if_pos h1, if_pos h1]
    by_cases h2 : Q.1 = 0
    · rw [if_pos h2, if_pos h2, tval_pre]
    · rw [if_neg h2, if_neg h2]
      show _ = Sum.inl (pre c0 (Q.1, 0, 0, []))
      unfold pre
      rw [if_neg h2]
  · rw [if_neg h1, if_neg h1, tval_pre]
theorem run_pre {t : Nat → Int32} {n : Nat} {c0 : List (Nat × Nat)} : ∀ F due cp m c H i, run t n F (due, cp, m, c0 ++ c, H, i) = pre c0 (run t n F (due, cp, m, c, H, i)) := by
  intro F
  induction F with
  | zero => intro due cp m c H i; rfl
  | succ F ih =>
    intro due cp m c H i
    rw [run_s, run_s, stp_pre]
    cases hs : stp t n (due, cp, m, c, H, i) with
    | inl r => rfl
    | inr y =>
      obtain ⟨y1, y2, y3, y4, y5, y6⟩ := y
      exact ih y1 y2 y3 y4 y5 y6
/-! a rule: clauses; each a floor, and what is written of its test -/
abbrev Cl : Type := Nat × Option (List (Nat × Nat))
/-- a clause: fault, place, made, the clause -/
def rcl (t : Nat → Int32) (n k m i : Nat) : Nat × Nat × Nat × Cl :=
  if wat t n (mm_sb.getD 3 []) (sk t n i) = true then
    (if 12 ≤ k then (1 + 8 * sk t n i + 4, 0, 0, (0, none))
    else if nmf t n (sk t n i + 2) 0 9 = 0 then
      (if wat t n (mm_sb.getD 4 []) (sk t n (nmp t n (sk t n i + 2))) = true then
        (if (run t n (n + 1) (true, false, m, [], [], sk t n (nmp t n (sk t n i + 2)) + 2)).1 = 0 then (0, (run t n (n + 1) (true, false, m, [], [], sk t n (nmp t n (sk t n i + 2)) + 2)).2.1, (run t n (n + 1) (true, false, m, [], [], sk t n (nmp t n (sk t n i + 2)) + 2)).2.2.1, (nmv t n (sk t n i + 2), some (run t n (n + 1) (true, false, m, [], [], sk t n (nmp t n (sk t n i + 2)) + 2)).2.2.2))
          else ((run t n (n + 1) (true, false, m, [], [], sk t n (nmp t n (sk t n i + 2)) + 2)).1, 0, 0, (0, none)))
        else (0, sk t n (nmp t n (sk t n i + 2)), m, (nmv t n (sk t n i + 2), none)))
    else (nmf t n (sk t n i + 2) 0 9, 0, 0, (0, none)))
  else (1 + 8 * sk t n i, 0, 0, (0, none))
/-- as the class writes it -/
def ccl (q : Cl) : List (Nat × Nat) := match q.2 with
  | none => [(0, q.1)]
  | some w => w ++ [(1, q.1)]
def ccode (L : List Cl) : List (Nat × Nat) := L.flatMap ccl
theorem ccode_app {L : List Cl} {q : Cl} : ccode (L ++ [q]) = ccode L ++ ccl q := by
  unfold ccode
  rw [List.flatMap_append]
  simp
def rall (t : Nat → Int32) (n : Nat) : Nat → Nat → Nat → Nat → List Cl → Nat × List Cl
  | 0, _, _, _, L => (1, L)
  | f + 1, k, m, i, L => if (rcl t n k m i).1 = 0 then
      (if sk t n (rcl t n k m i).2.1 < n then (if t (sk t n (rcl t n k m i).2.1) = 59 then rall t n f (k + 1) (rcl t n k m i).2.2.1 (sk t n (rcl t n k m i).2.1 + 1) (L ++ [(rcl t n k m i).2.2.2]) else (1 + 8 * sk t n (rcl t n k m i).2.1, L)) else (0, L ++ [(rcl t n k m i).2.2.2]))
    else ((rcl t n k m i).1, L)
/-- the tape as a rule -/
def ru0 (t : Nat → Int32) (n : Nat) : Nat × List Cl := rall t n 13 0 0 0 []
end
