section
/-! the reference: one turn of term() and of sum() -/
section MT1
variable {S : fS} {n : Nat} {w u : Int32}
theorem mt_term1 (hn : S.1 145 1 = o3 n) (hl : n ≤ 400) (hb : ∀ k, byt (S.1 146 k)) {K : fS → Option (Int32 × fS)} {nn i : Nat} (hi : i ≤ n) : lp_X11_term_9 K (nn + 1) (mS S (o3 i) w u) = if rk (S.1 146) n (sk (S.1 146) n i) = 9 ∨ rk (S.1 146) n (sk (S.1 146) n i) = 10 then ((f_X11_value (mS S (o3 (sk (S.1 146) n i + 1)) w u)).bind fun q => if q.1 = (0 : Int32) then some ((0 : Int32), q.2) else (f_X11_puts (if rk (S.1 146) n (sk (S.1 146) n i) = 9 then 4 else 5) 0 q.2).bind fun y => lp_X11_term_9 K nn y) else K (mS S (o3 (sk (S.1 146) n i)) w u) := by
  have hj := sk_le (t := S.1 146) hi
  have hs := sk_id (t := S.1 146) (n := n) (i := i)
  rw [lp_X11_term_9.eq_2, mt_see hn hl hi, bd_some]
  dsimp only
  generalize sk (S.1 146) n i = j at hj hs
  unfold rk
  by_cases h1 : j < n ∧ S.1 146 j = 42
  · have n1 : ¬ (j < n ∧ S.1 146 j = 43) := fun q => absurd (h1.2.symm.trans q.2) (by decide)
    have n2 : ¬ (j < n ∧ S.1 146 j = 45) := fun q => absurd (h1.2.symm.trans q.2) (by decide)
    rw [if_pos ((seen_eq hb (by decide) (by decide)).mpr h1), mS_13, gI_o (by omega) (by omega), bd_some, mS_t, if_pos h1.2, bd_some, mS_nx, o3_s, if_neg n1, if_neg n2, if_pos h1, if_pos (Or.inl rfl), if_pos rfl]
  · rw [if_neg (fun q => h1 ((seen_eq hb (by decide) (by decide)).mp q)), mt_see hn hl hj, bd_some, hs]
    dsimp only
    by_cases h2 : j < n ∧ S.1 146 j = 47
    · have n1 : ¬ (j < n ∧ S.1 146 j = 43) := fun q => absurd (h2.2.symm.trans q.2) (by decide)
      have n2 : ¬ (j < n ∧ S.1 146 j = 45) := fun q => absurd (h2.2.symm.trans q.2) (by decide)
      rw [if_pos ((seen_eq hb (by decide) (by decide)).mpr h2), mS_13, gI_o (by omega) (by omega), bd_some, mS_t, if_neg (fun q => h1 ⟨h2.1, q⟩), bd_some, mS_nx, o3_s, if_neg n1, if_neg n2, if_neg h1, if_pos h2, if_pos (Or.inr rfl), if_neg (by decide)]
    · rw [if_neg (fun q => h2 ((seen_eq hb (by decide) (by decide)).mp q)), if_neg h1, if_neg h2]
      rw [if_neg]
      by_cases n1 : j < n ∧ S.1 146 j = 43
      · rw [if_pos n1]; decide
      · rw [if_neg n1]
        by_cases n2 : j < n ∧ S.1 146 j = 45
        · rw [if_pos n2]; decide
        · rw [if_neg n2]; decide
end MT1
end
