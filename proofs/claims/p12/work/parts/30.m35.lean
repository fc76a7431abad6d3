section
/-! the class reads a rule's clauses -/
/-- a test's code is no longer than its text -/
theorem run_len {t : Nat → Int32} {n m i : Nat} (hl : n ≤ 400) (hm : m ≤ 60) (hi : i ≤ n) (h : (run t n (n + 1) (true, false, m, [], [], i)).1 = 0) : i + (run t n (n + 1) (true, false, m, [], [], i)).2.2.2.length ≤ (run t n (n + 1) (true, false, m, [], [], i)).2.1 ∧ (run t n (n + 1) (true, false, m, [], [], i)).2.1 ≤ n ∧ (run t n (n + 1) (true, false, m, [], [], i)).2.2.1 ≤ 60 := by
  have hlen : (List.replicate i ((0, 0) : Nat × Nat)).length = i := List.length_replicate
  obtain ⟨S, hS1, hS2, hS3⟩ : ∃ S : fS, S.1 1 1 = o3 n ∧ S.1 2 = t ∧ RC S m (List.replicate i (0, 0)) [] := by
    refine ⟨(fun a k => if a = 1 then o3 n else if a = 2 then t k else if a = 41 then enc ((List.replicate i ((0, 0) : Nat × Nat)).getD k (0, 0)) else if a = 40 then o3 i else if k = 3 then o3 m else 0, fun _ _ => 0), ?_, ?_, ?_, ?_, ?_, ?_, fun k hk => absurd hk (Nat.not_lt_zero _), ?_, fun k hk => ?_⟩
    · simp
    · funext k
      simp
    · simp
    · first | (simp; done) | (simp; rfl)
    · first | (simp; done) | (simp; rfl)
    · first | (simp; done) | (simp; rfl)
    · simp
    · simp
  obtain ⟨S', i', s', -, -, e3⟩ := cr_run (f := 0) hl (K := fun S => some (0, S)) (n + 1) (true, false, m, List.replicate i (0, 0), [], i) S 0 0 0 (n + 2) hS1 hS2 hS3 ⟨hm, fun y hy => absurd hy List.not_mem_nil, Nat.zero_le _, by show (List.replicate i ((0, 0) : Nat × Nat)).length + 0 ≤ i; omega, hi, trivial⟩ (Or.inl rfl) (by show n < i + (n + 1); omega) (by omega) (by omega)
  have hp := run_pre (t := t) (n := n) (c0 := List.replicate i (0, 0)) (n + 1) true false m [] [] i
  rw [List.append_nil] at hp
  rw [hp] at e3
  unfold pre at e3
  rw [if_pos h] at e3
  obtain ⟨a1, a2, a3, a4, -⟩ := e3 h
  have a4 : (List.replicate i ((0, 0) : Nat × Nat) ++ (run t n (n + 1) (true, false, m, [], [], i)).2.2.2).length ≤ (run t n (n + 1) (true, false, m, [], [], i)).2.1 := a4
  rw [List.length_append, hlen] at a4
  exact ⟨a4, a1, a3⟩
/-- made, and written -/
def RM (S : fS) (m : Nat) (c : List (Nat × Nat)) : Prop := S.1 38 3 = o3 m ∧ S.1 40 2 = o3 c.length ∧ (∀ k, k < c.length → S.1 41 k = enc (c.getD k (0, 0)))
theorem RM_of {S : fS} {m : Nat} {c : List (Nat × Nat)} {H : List Nat} (h : RC S m c H) : RM S m c := ⟨h.1, h.2.2.2.2.2.1, h.2.2.2.2.2.2⟩
section CL
variable {S : fS} {m n : Nat} {c : List (Nat × Nat)} {i s f : Int32}
theorem cl_write {a v : Nat} (hR : RM S m c) (hc : c.length < 400) (ha : a < 32) (hv : v < 100000) : ∃ S', f_X4_write 40 (o3 a) (o3 v) (tS S i s f) = some (tS S' i s f) ∧ RM S' m (c ++ [(a, v)]) ∧ eQ S S' := by
  obtain ⟨r1, r6, r7⟩ := hR
  unfold f_X4_write
  rw [tS_ne (by omega), r6, if_neg (show ¬ (400 : Int32) ≤ o3 _ from fun q => by have := (o3_le (a := 400) (by omega) (by omega)).mp q; omega), enc_eq ha hv, sI_o (by omega) (by omega), bd_some, tS_pI (by omega), bd_some, tS_ne (by omega), pI_ne (by omega), r6, tS_pI (by omega), o3_s]
  refine ⟨_, rfl, ⟨?_, ?_, fun k hk => ?_⟩, (eQ_pI (by unfold wQ; omega)).tr (eQ_pI (by unfold wQ; omega))⟩
  · rw [pI_ne (by omega), pI_ne (by omega)]; exact r1
  · rw [pI_eq, ln_app]
  · rw [ln_app] at hk
    rw [pI_ne (by omega), gd_app]
    by_cases hq : k = c.length
    · rw [if_pos hq, hq]; exact pI_eq
    · rw [if_neg hq, pI_ne (by omega)]; exact r7 k (by omega)
end CL
section CL2
variable {S : fS} {m n : Nat} {c : List (Nat × Nat)} {s f : Int32}
theorem cl_test (hn : S.1 1 1 = o3 n) (hl : n ≤ 400) (hR : RM S m c) (hm : m ≤ 60) {i : Nat} (hci : c.length ≤ i) (hi : i ≤ n) : ∃ S' i' s', f_X5_readTest (tS S (o3 i) s f) = some (if (run (S.1 2) n (n + 1) (true, false, m, [], [], i)).1 = 0 then (1, tS S' (o3 (run (S.1 2) n (n + 1) (true, false, m, [], [], i)).2.1) s' f) else (0, tS S' i' s' (o3 (run (S.1 2) n (n + 1) (true, false, m, [], [], i)).1))) ∧ eQ S S' ∧ ((run (S.1 2) n (n + 1) (true, false, m, [], [], i)).1 = 0 → RM S' (run (S.1 2) n (n + 1) (true, false, m, [], [], i)).2.2.1 (c ++ (run (S.1 2) n (n + 1) (true, false, m, [], [], i)).2.2.2)) := by
  obtain ⟨r1, r2, r3⟩ := hR
  unfold f_X5_readTest
  rw [bd_some, bd_some, bd_some, tS_pI (by omega), tS_pI (by omega), tS_pI (by omega)]
  have hE : eQ S (pI (pI (pI S 38 4 0) 38 5 0) 38 6 0) := ((eQ_pI (by unfold wQ; omega)).tr (eQ_pI (by unfold wQ; omega))).tr (eQ_pI (by unfold wQ; omega))
  have hRC : RC (pI (pI (pI S 38 4 0) 38 5 0) 38 6 0) m c [] := by
    refine ⟨?_, ?_, ?_, ?_, fun k hk => absurd hk (Nat.not_lt_zero _), ?_, fun k hk => ?_⟩
    · rw [pI_ne (by omega), pI_ne (by omega), pI_ne (by omega)]; exact r1
    · rw [pI_ne (by omega), pI_ne (by omega), pI_eq]; rfl
    · rw [pI_ne (by omega), pI_eq]; rfl
    · rw [pI_eq]; rfl
    · rw [pI_ne (by omega), pI_ne (by omega), pI_ne (by omega)]; exact r2
    · rw [pI_ne (by omega), pI_ne (by omega), pI_ne (by omega)]; exact r3 k hk
  generalize pI (pI (pI S 38 4 0) 38 5 0) 38 6 0 = X at hE hRC
  have ht : X.1 2 = S.1 2 := funext fun k => hE.1 2 k (by unfold wQ; omega)
  obtain ⟨S', i', s', e1, e2, e3⟩ := cr_run (f := f) hl (K := fun S394 => some ((0 : Int32), S394)) (t := S.1 2) (n + 1) (true, false, m, c, [], i) X s 0 0 FU (by rw [hE.1 1 1 (by unfold wQ; omega)]; exact hn) ht hRC ⟨hm, fun y hy => absurd hy List.not_mem_nil, Nat.zero_le _, by show c.length + 0 ≤ i; omega, hi, trivial⟩ (Or.inl rfl) (by show n < i + (n + 1); omega) (FU_lt (by omega)) (by omega)
  have hp := run_pre (t := S.1 2) (n := n) (c0 := c) (n + 1) true false m [] [] i
  rw [List.append_nil] at hp
  rw [hp] at e1 e3
  refine ⟨S', i', s', ?_, hE.tr e2, fun q => ?_⟩
  · refine Eq.trans e1 ?_
    unfold pre
    by_cases hz : (run (S.1 2) n (n + 1) (true, false, m, [], [], i)).1 = 0
    · rw [if_pos hz, if_pos hz]
    · rw [if_neg hz]
  · unfold pre at e3
    rw [if_pos q] at e3
    obtain ⟨-, -, -, -, H', a5⟩ := e3 q
    exact RM_of a5
end CL2
end
