section
/-! the class reads a rule to its end -/
theorem rall_s {t : Nat → Int32} {n f k m i : Nat} {L : List Cl} : rall t n (f + 1) k m i L = if (rcl t n k m i).1 = 0 then
      (if sk t n (rcl t n k m i).2.1 < n then (if t (sk t n (rcl t n k m i).2.1) = 59 then rall t n f (k + 1) (rcl t n k m i).2.2.1 (sk t n (rcl t n k m i).2.1 + 1) (L ++ [(rcl t n k m i).2.2.2]) else (1 + 8 * sk t n (rcl t n k m i).2.1, L)) else (0, L ++ [(rcl t n k m i).2.2.2]))
    else ((rcl t n k m i).1, L) := rfl
/-- the code in the reader's rule -/
def cdC (S : fS) (r : Nat) (c : List (Nat × Nat)) : Prop := S.1 r 2 = o3 c.length ∧ c.length ≤ 400 ∧ (∀ k, k < c.length → S.1 (r + 1) k = enc (c.getD k (0, 0)))
theorem cl_readlp {n : Nat} (hl : n ≤ 400) {f : Int32} {K : fS → Option (Int32 × fS)} {t : Nat → Int32} : ∀ d k nn m L (S : fS) (i : Nat) (s : Int32), S.1 1 1 = o3 n → S.1 2 = t → RM S m (ccode L) → m ≤ 60 → (ccode L).length ≤ i → i ≤ n → k + d = 12 → d < nn → ∃ Y, lp_X5_read_22 K nn (o3 k) (tS S (o3 i) s f) = some (if (rall t n (d + 1) k m i L).1 = 0 then 1 else 0, Y) ∧ ((rall t n (d + 1) k m i L).1 = 0 → cdC Y 40 (ccode (rall t n (d + 1) k m i L).2)) ∧ (¬ (rall t n (d + 1) k m i L).1 = 0 → Y.1 1 4 = o3 (rall t n (d + 1) k m i L).1) := by
  intro d
  induction d with
  | zero =>
    intro k nn m L S i s hn ht hR hm hci hi hkd hnn
    subst ht
    obtain ⟨nn, rfl⟩ : ∃ m', nn = m' + 1 := ⟨nn - 1, by omega⟩
    rw [lp_X5_read_22.eq_2, if_neg (show ¬ (12 : Int32) < o3 _ from fun q => by have := (o3_lt (a := 12) (by omega) (by omega)).mp q; omega)]
    obtain ⟨S', i', s', e, e2, e3⟩ := cl_clause (s := s) (f := f) hn hl hR hm (k := k) (by omega) hci hi
    have hz : ¬ (rcl (S.1 2) n k m i).1 = 0 := fun q => by have := (e3 q).2.2.2.2.1; omega
    rw [e, bd_some, if_neg hz, rall_s, if_neg hz]
    dsimp only
    rw [if_pos rfl, if_neg hz]
    exact ⟨_, rfl, fun q => absurd q hz, fun _ => rfl⟩
  | succ d ih =>
    intro k nn m L S i s hn ht hR hm hci hi hkd hnn
    subst ht
    obtain ⟨nn, rfl⟩ : ∃ m', nn = m' + 1 := ⟨nn - 1, by omega⟩
    rw [lp_X5_read_22.eq_2, if_neg (show ¬ (12 : Int32) < o3 _ from fun q => by have := (o3_lt (a := 12) (by omega) (by omega)).mp q; omega)]
    obtain ⟨S', i', s', e, e2, e3⟩ := cl_clause (s := s) (f := f) hn hl hR hm (k := k) (by omega) hci hi
    rw [rall_s]
    by_cases hz : (rcl (S.1 2) n k m i).1 = 0
    · obtain ⟨a1, a2, a3, a4, a5, a6⟩ := e3 hz
      rw [← ccode_app] at a1 a2
      have hn' : S'.1 1 1 = o3 n := by rw [e2.1 1 1 (by unfold wQ; omega)]; exact hn
      have ht' : S'.1 2 = S.1 2 := funext fun j => e2.1 2 j (by unfold wQ; omega)
      have hsk := sk_le (t := S.1 2) a3
      have hsg := sk_ge (t := S.1 2) (n := n) (i := (rcl (S.1 2) n k m i).2.1)
      rw [e, bd_some, if_pos hz, if_pos hz]
      dsimp only
      rw [if_neg (show ¬ (1 : Int32) = 0 by decide), ct_end hn' hl a3, bd_some, ht']
      by_cases h1 : sk (S.1 2) n (rcl (S.1 2) n k m i).2.1 < n
      · rw [if_pos h1, if_pos h1]
        dsimp only
        rw [if_pos rfl, ct_sign hn' hl (by decide) hsk, bd_some, ht', sk_id]
        by_cases h2 : S.1 2 (sk (S.1 2) n (rcl (S.1 2) n k m i).2.1) = 59
        · have hc : sk (S.1 2) n (rcl (S.1 2) n k m i).2.1 < n ∧ S.1 2 (sk (S.1 2) n (rcl (S.1 2) n k m i).2.1) = 59 := ⟨h1, h2⟩
          rw [if_pos hc, if_pos h2]
          dsimp only
          rw [if_neg (show ¬ (1 : Int32) = 0 by decide), o3_s]
          exact ih (k + 1) nn _ _ S' _ _ hn' ht' a1 a4 (by omega) (by omega) (by omega) (by omega)
        · have hc : ¬ (sk (S.1 2) n (rcl (S.1 2) n k m i).2.1 < n ∧ S.1 2 (sk (S.1 2) n (rcl (S.1 2) n k m i).2.1) = 59) := fun q => h2 q.2
          rw [if_neg hc, if_neg h2]
          dsimp only
          rw [if_pos rfl, ct_fail, bd_some, tS_2]
          refine ⟨pI (tS S' (o3 (sk (S.1 2) n (rcl (S.1 2) n k m i).2.1)) s' f) 1 4 (1 + 8 * o3 (sk (S.1 2) n (rcl (S.1 2) n k m i).2.1) + 0), ?_, fun q => absurd q (by show ¬ (1 + 8 * _ = 0); omega), ?_⟩
          · rw [if_neg (by show ¬ (1 + 8 * _ = 0); omega)]; rfl
          · intro _
            show 1 + 8 * o3 (sk (S.1 2) n (rcl (S.1 2) n k m i).2.1) + 0 = _
            rw [show (1 : Int32) = o3 1 from rfl, show (8 : Int32) = o3 8 from rfl, show (0 : Int32) = o3 0 from rfl, o3_mul, o3_add, o3_add]
            rfl
      · rw [if_neg h1, if_neg h1]
        dsimp only
        rw [if_neg (show ¬ (1 : Int32) = 0 by decide)]
        refine ⟨_, rfl, fun _ => ⟨?_, by show (ccode _).length ≤ 400; omega, fun j hj => ?_⟩, fun q => absurd rfl q⟩
        · rw [tS_ne (by omega)]; exact a1.2.1
        · rw [tS_ne (by omega)]; exact a1.2.2 j hj
    · rw [e, bd_some, if_neg hz, if_neg hz]
      dsimp only
      rw [if_pos rfl, if_neg hz]
      exact ⟨_, rfl, fun q => absurd q hz, fun _ => rfl⟩
theorem c_rread {S : fS} {n : Nat} (hn : S.1 1 1 = o3 n) (hl : n ≤ 400) : ∃ Y, f_X5_read S = some (if (ru0 (S.1 2) n).1 = 0 then 1 else 0, Y) ∧ ((ru0 (S.1 2) n).1 = 0 → cdC Y 40 (ccode (ru0 (S.1 2) n).2)) ∧ (¬ (ru0 (S.1 2) n).1 = 0 → Y.1 1 4 = o3 (ru0 (S.1 2) n).1) := by
  unfold f_X5_read
  rw [bd_some, bd_some]
  unfold f_X7_rewind
  rw [bd_some, bd_some, bd_some, bd_some]
  exact cl_readlp hl (f := 0) 12 0 FU 0 [] (pI (pI S 40 2 0) 38 3 0) 0 0 (by rw [pI_ne (by omega), pI_ne (by omega)]; exact hn) (funext fun k => by rw [pI_ne (by omega), pI_ne (by omega)]) ⟨by rw [pI_eq]; rfl, by rw [pI_ne (by omega), pI_eq]; rfl, fun k hk => absurd hk (Nat.not_lt_zero _)⟩ (by omega) (Nat.zero_le _) (by omega) (by omega) (FU_lt (by omega))
end
