section
/-! a tower's text: floors, stairs, things as they are told -/
abbrev TB : Type := List (Nat × Nat) × List (Nat × Nat × Nat × Nat × Nat) × List Nat
def tFl (t : Nat → Int32) (n : Nat) (B : TB) (i : Nat) : Nat × Nat × TB :=
  if nmf t n i 1 20 = 0 then (if nmf t n (nmp t n i) 1 20 = 0 then (0, nmp t n (nmp t n i), (B.1 ++ [(nmv t n i, nmv t n (nmp t n i))], B.2)) else (nmf t n (nmp t n i) 1 20, 0, B)) else (nmf t n i 1 20, 0, B)
def tPc (t : Nat → Int32) (n : Nat) (B : TB) (a b c : Nat) (i : Nat) : Nat × Nat × TB :=
  if nmf t n i 1 20 = 0 then (if nmf t n (nmp t n i) 1 20 = 0 then (0, nmp t n (nmp t n i), (B.1, B.2.1 ++ [(a, b, c, nmv t n i, nmv t n (nmp t n i))], B.2.2)) else (nmf t n (nmp t n i) 1 20, 0, B)) else (nmf t n i 1 20, 0, B)
def tSt (t : Nat → Int32) (n : Nat) (B : TB) (i : Nat) : Nat × Nat × TB :=
  if nmf t n i 0 (B.1.length - 1) = 0 then
    (if nmf t n (nmp t n i) 0 (B.1.length - 1) = 0 then
      (if nmv t n i = nmv t n (nmp t n i) then (1 + 8 * sk t n (nmp t n i) + 1, 0, B) else
        (if nmf t n (nmp t n (nmp t n i)) 1 9 = 0 then tPc t n B (nmv t n i) (nmv t n (nmp t n i)) (nmv t n (nmp t n (nmp t n i))) (nmp t n (nmp t n (nmp t n i)))
          else (nmf t n (nmp t n (nmp t n i)) 1 9, 0, B)))
      else (nmf t n (nmp t n i) 0 (B.1.length - 1), 0, B))
    else (nmf t n i 0 (B.1.length - 1), 0, B)
def tTh (t : Nat → Int32) (n : Nat) (B : TB) (i : Nat) : Nat × Nat × TB :=
  if nmf t n i 0 (B.1.length - 1) = 0 then (0, nmp t n i, (B.1, B.2.1, B.2.2 ++ [nmv t n i])) else (nmf t n i 0 (B.1.length - 1), 0, B)
def tcl (t : Nat → Int32) (n c : Nat) (B : TB) (i : Nat) : Nat × Nat × TB :=
  if wat t n (mm_sb.getD 0 []) (sk t n i) = true then (if 10 ≤ B.1.length ∨ 24 ≤ c then (1 + 8 * sk t n i + 4, 0, B) else tFl t n B (sk t n i + 5))
  else if wat t n (mm_sb.getD 1 []) (sk t n i) = true then (if 12 ≤ B.2.1.length ∨ 24 ≤ c then (1 + 8 * sk t n i + 4, 0, B) else tSt t n B (sk t n i + 5))
  else if wat t n (mm_sb.getD 2 []) (sk t n i) = true then (if 8 ≤ B.2.2.length ∨ 24 ≤ c then (1 + 8 * sk t n i + 4, 0, B) else tTh t n B (sk t n i + 5))
  else (1 + 8 * sk t n i, 0, B)
/-- all clauses: 0 and what was told, or the fault -/
def tall (t : Nat → Int32) (n : Nat) : Nat → Nat → Nat → TB → Nat × TB
  | 0, _, _, B => (1, B)
  | f + 1, c, i, B => if (tcl t n c B i).1 = 0 then
      (if sk t n (tcl t n c B i).2.1 < n then (if t (sk t n (tcl t n c B i).2.1) = 59 then tall t n f (c + 1) (sk t n (tcl t n c B i).2.1 + 1) (tcl t n c B i).2.2 else (1 + 8 * sk t n (tcl t n c B i).2.1, (tcl t n c B i).2.2)) else (0, (tcl t n c B i).2.2))
    else ((tcl t n c B i).1, B)
def okF (q : Nat × Nat) : Prop := 1 ≤ q.1 ∧ q.1 ≤ 20 ∧ 1 ≤ q.2 ∧ q.2 ≤ 20
def okS (m : Nat) (q : Nat × Nat × Nat × Nat × Nat) : Prop := q.1 < m ∧ q.2.1 < m ∧ q.1 ≠ q.2.1 ∧ 1 ≤ q.2.2.1 ∧ q.2.2.1 ≤ 9 ∧ okF q.2.2.2
def okB (B : TB) : Prop := B.1.length ≤ 10 ∧ B.2.1.length ≤ 12 ∧ B.2.2.length ≤ 8 ∧ (∀ q ∈ B.1, okF q) ∧ (∀ q ∈ B.2.1, okS B.1.length q) ∧ (∀ q ∈ B.2.2, q < B.1.length)
theorem okS_mo {m k : Nat} (h : m ≤ k) {q : Nat × Nat × Nat × Nat × Nat} (hq : okS m q) : okS k q := ⟨Nat.lt_of_lt_of_le hq.1 h, Nat.lt_of_lt_of_le hq.2.1 h, hq.2.2⟩
section TS
variable {t : Nat → Int32} {n : Nat} {B : TB} {i : Nat}
theorem tFl_ok (hB : okB B) (h10 : B.1.length < 10) (h : (tFl t n B i).1 = 0) : okB (tFl t n B i).2.2 := by
  unfold tFl at h ⊢
  by_cases h1 : nmf t n i 1 20 = 0
  · rw [if_pos h1] at h ⊢
    by_cases h2 : nmf t n (nmp t n i) 1 20 = 0
    · rw [if_pos h2] at h ⊢
      obtain ⟨b1, b2, b3, b4, b5, b6⟩ := hB
      have g1 := (nmf_0 h1).2.2
      have g2 := (nmf_0 h2).2.2
      refine ⟨?_, b2, b3, ?_, ?_, ?_⟩
      · show (B.1 ++ [_]).length ≤ 10
        rw [ln_app]; omega
      · intro q hq
        rcases List.mem_append.mp hq with hq | hq
        · exact b4 q hq
        · rw [List.mem_singleton.mp hq]
          exact ⟨by show 1 ≤ nmv t n i; omega, by show nmv t n i ≤ 20; omega, by show 1 ≤ nmv t n _; omega, by show nmv t n _ ≤ 20; omega⟩
      · intro q hq
        refine okS_mo ?_ (b5 q hq)
        show _ ≤ (B.1 ++ [_]).length
        rw [ln_app]; omega
      · intro q hq
        have := b6 q hq
        show _ < (B.1 ++ [_]).length
        rw [ln_app]; omega
    · rw [if_neg h2] at h; exact absurd h h2
  · rw [if_neg h1] at h; exact absurd h h1
theorem tPc_ok {a b c : Nat} (hB : okB B) (h12 : B.2.1.length < 12) (ha : a < B.1.length) (hb : b < B.1.length) (hab : a ≠ b) (hc : 1 ≤ c ∧ c ≤ 9) (h : (tPc t n B a b c i).1 = 0) : okB (tPc t n B a b c i).2.2 := by
  unfold tPc at h ⊢
  by_cases h1 : nmf t n i 1 20 = 0
  · rw [if_pos h1] at h ⊢
    by_cases h2 : nmf t n (nmp t n i) 1 20 = 0
    · rw [if_pos h2] at h ⊢
      obtain ⟨b1, b2, b3, b4, b5, b6⟩ := hB
      have g1 := (nmf_0 h1).2.2
      have g2 := (nmf_0 h2).2.2
      refine ⟨b1, ?_, b3, b4, ?_, b6⟩
      · show (B.2.1 ++ [_]).length ≤ 12
        rw [ln_app]; omega
      · intro q hq
        rcases List.mem_append.mp hq with hq | hq
        · exact b5 q hq
        · rw [List.mem_singleton.mp hq]
          exact ⟨ha, hb, hab, hc.1, hc.2, by show 1 ≤ nmv t n i; omega, by show nmv t n i ≤ 20; omega, by show 1 ≤ nmv t n _; omega, by show nmv t n _ ≤ 20; omega⟩
    · rw [if_neg h2] at h; exact absurd h h2
  · rw [if_neg h1] at h; exact absurd h h1
theorem tSt_ok (hB : okB B) (h12 : B.2.1.length < 12) (h : (tSt t n B i).1 = 0) : okB (tSt t n B i).2.2 := by
  unfold tSt at h ⊢
  by_cases h1 : nmf t n i 0 (B.1.length - 1) = 0
  · rw [if_pos h1] at h ⊢
    by_cases h2 : nmf t n (nmp t n i) 0 (B.1.length - 1) = 0
    · rw [if_pos h2] at h ⊢
      by_cases h3 : nmv t n i = nmv t n (nmp t n i)
      · rw [if_pos h3] at h
        exact absurd h (by show ¬ (1 + 8 * _ + 1 = 0); omega)
      · rw [if_neg h3] at h ⊢
        by_cases h4 : nmf t n (nmp t n (nmp t n i)) 1 9 = 0
        · rw [if_pos h4] at h ⊢
          have g1 := (nmf_0 h1).2.2
          have g2 := (nmf_0 h2).2.2
          have g4 := (nmf_0 h4).2.2
          exact tPc_ok hB h12 (by omega) (by omega) h3 (by omega) h
        · rw [if_neg h4] at h; exact absurd h h4
    · rw [if_neg h2] at h; exact absurd h h2
  · rw [if_neg h1] at h; exact absurd h h1
theorem tTh_ok (hB : okB B) (h8 : B.2.2.length < 8) (h : (tTh t n B i).1 = 0) : okB (tTh t n B i).2.2 := by
  unfold tTh at h ⊢
  by_cases h1 : nmf t n i 0 (B.1.length - 1) = 0
  · rw [if_pos h1] at h ⊢
    obtain ⟨b1, b2, b3, b4, b5, b6⟩ := hB
    have g1 := (nmf_0 h1).2.2
    refine ⟨b1, b2, ?_, b4, b5, ?_⟩
    · show (B.2.2 ++ [_]).length ≤ 8
      rw [ln_app]; omega
    · intro q hq
      rcases List.mem_append.mp hq with hq | hq
      · exact b6 q hq
      · rw [List.mem_singleton.mp hq]
        show nmv t n i < B.1.length
        omega
  · rw [if_neg h1] at h; exact absurd h h1
theorem tcl_ok {c : Nat} (hB : okB B) (h : (tcl t n c B i).1 = 0) : okB (tcl t n c B i).2.2 ∧ c < 24 := by
  unfold tcl at h ⊢
  by_cases h1 : wat t n (mm_sb.getD 0 []) (sk t n i) = true
  · rw [if_pos h1] at h ⊢
    by_cases h2 : 10 ≤ B.1.length ∨ 24 ≤ c
    · rw [if_pos h2] at h; exact absurd h (by show ¬ (1 + 8 * _ + 4 = 0); omega)
    · rw [if_neg h2] at h ⊢
      exact ⟨tFl_ok hB (by omega) h, by omega⟩
  · rw [if_neg h1] at h ⊢
    by_cases h3 : wat t n (mm_sb.getD 1 []) (sk t n i) = true
    · rw [if_pos h3] at h ⊢
      by_cases h2 : 12 ≤ B.2.1.length ∨ 24 ≤ c
      · rw [if_pos h2] at h; exact absurd h (by show ¬ (1 + 8 * _ + 4 = 0); omega)
      · rw [if_neg h2] at h ⊢
        exact ⟨tSt_ok hB (by omega) h, by omega⟩
    · rw [if_neg h3] at h ⊢
      by_cases h4 : wat t n (mm_sb.getD 2 []) (sk t n i) = true
      · rw [if_pos h4] at h ⊢
        by_cases h2 : 8 ≤ B.2.2.length ∨ 24 ≤ c
        · rw [if_pos h2] at h; exact absurd h (by show ¬ (1 + 8 * _ + 4 = 0); omega)
        · rw [if_neg h2] at h ⊢
          exact ⟨tTh_ok hB (by omega) h, by omega⟩
      · rw [if_neg h4] at h; exact absurd h (by show ¬ (1 + 8 * _ = 0); omega)
end TS
end
