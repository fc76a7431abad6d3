section
/-! the class's tower, read to its end -/
theorem eR_TB {S T : fS} {B : TB} (h : eR 30 S T) (hB : TBc S B) : TBc T B := by
  obtain ⟨h1, h2, h3, h4⟩ := hB
  refine ⟨eR_tw h h1, by rw [h.1 31 5 (by decide)]; exact h2, by rw [h.1 31 6 (by decide)]; exact h3, fun k hk => ?_⟩
  rw [h.1 (31 + 1) k (by decide), h.1 (31 + 2) k (by decide), h.1 (31 + 3) k (by decide), h.1 (31 + 4) k (by decide), h.2]
  exact h4 k hk
theorem TBc_tS {S : fS} {B : TB} {i s f : Int32} (hB : TBc S B) : TBc (tS S i s f) B := hB
theorem tall_s {t : Nat → Int32} {n f c i : Nat} {B : TB} : tall t n (f + 1) c i B = if (tcl t n c B i).1 = 0 then
      (if sk t n (tcl t n c B i).2.1 < n then (if t (sk t n (tcl t n c B i).2.1) = 59 then tall t n f (c + 1) (sk t n (tcl t n c B i).2.1 + 1) (tcl t n c B i).2.2 else (1 + 8 * sk t n (tcl t n c B i).2.1, (tcl t n c B i).2.2)) else (0, (tcl t n c B i).2.2))
    else ((tcl t n c B i).1, B) := rfl
theorem ct_readlp {n : Nat} (hl : n ≤ 400) {f : Int32} {K : fS → Option (Int32 × fS)} {t : Nat → Int32} : ∀ d c m B (S : fS) (i : Nat) (s : Int32), S.1 1 1 = o3 n → S.1 2 = t → TBc S B → okB B → i ≤ n → c + d = 24 → d < m → ∃ Y, lp_X9_read_41 K m (o3 c) (tS S (o3 i) s f) = some (if (tall t n (d + 1) c i B).1 = 0 then 1 else 0, Y) ∧ ((tall t n (d + 1) c i B).1 = 0 → TBc Y (tall t n (d + 1) c i B).2 ∧ okB (tall t n (d + 1) c i B).2 ∧ rW Y 30 (dst (tall t n (d + 1) c i B).2.2.1)) ∧ (¬ (tall t n (d + 1) c i B).1 = 0 → Y.1 1 4 = o3 (tall t n (d + 1) c i B).1) := by
  intro d
  induction d with
  | zero =>
    intro c m B S i s hn ht hB hok hi hcd hm
    subst ht
    obtain ⟨m, rfl⟩ : ∃ m', m = m' + 1 := ⟨m - 1, by omega⟩
    rw [lp_X9_read_41.eq_2, if_neg (show ¬ (24 : Int32) < o3 _ from fun q => by have := (o3_lt (a := 24) (by omega) (by omega)).mp q; omega)]
    obtain ⟨S', i', s', e, hT⟩ := ct_clause (s := s) (f := f) hn hl hB hok (c := c) (by omega) hi
    have hz : ¬ (tcl (S.1 2) n c B i).1 = 0 := fun q => by have := (tcl_ok hok q).2; omega
    rw [e, bd_some, if_neg hz, tall_s, if_neg hz]
    dsimp only
    rw [if_pos rfl, if_neg hz]
    exact ⟨_, rfl, fun q => absurd q hz, fun _ => rfl⟩
  | succ d ih =>
    intro c m B S i s hn ht hB hok hi hcd hm
    subst ht
    obtain ⟨m, rfl⟩ : ∃ m', m = m' + 1 := ⟨m - 1, by omega⟩
    rw [lp_X9_read_41.eq_2, if_neg (show ¬ (24 : Int32) < o3 _ from fun q => by have := (o3_lt (a := 24) (by omega) (by omega)).mp q; omega)]
    obtain ⟨S', i', s', e, hT⟩ := ct_clause (s := s) (f := f) hn hl hB hok (c := c) (by omega) hi
    rw [tall_s]
    by_cases hz : (tcl (S.1 2) n c B i).1 = 0
    · rw [if_pos hz] at e
      have hk := ct_keep e
      have hn' : S'.1 1 1 = o3 n := hk.1.trans hn
      have ht' : S'.1 2 = S.1 2 := hk.2
      have hle := tcl_le hi hz
      have hok' := (tcl_ok hok hz).1
      have hB' := hT hz
      have hsk := sk_le (t := S.1 2) hle.1
      rw [e, bd_some, if_pos hz]
      dsimp only
      rw [if_neg (show ¬ (1 : Int32) = 0 by decide), ct_end hn' hl hle.1, bd_some, ht']
      by_cases h1 : sk (S.1 2) n (tcl (S.1 2) n c B i).2.1 < n
      · rw [if_pos h1, if_pos h1]
        dsimp only
        rw [if_pos rfl, ct_sign hn' hl (by decide) hsk, bd_some, ht', sk_id]
        by_cases h2 : S.1 2 (sk (S.1 2) n (tcl (S.1 2) n c B i).2.1) = 59
        · have hc : sk (S.1 2) n (tcl (S.1 2) n c B i).2.1 < n ∧ S.1 2 (sk (S.1 2) n (tcl (S.1 2) n c B i).2.1) = 59 := ⟨h1, h2⟩
          rw [if_pos hc, if_pos h2]
          dsimp only
          rw [if_neg (show ¬ (1 : Int32) = 0 by decide), o3_s]
          exact ih (c + 1) m _ S' _ _ hn' ht' hB' hok' (by omega) (by omega) (by omega)
        · have hc : ¬ (sk (S.1 2) n (tcl (S.1 2) n c B i).2.1 < n ∧ S.1 2 (sk (S.1 2) n (tcl (S.1 2) n c B i).2.1) = 59) := fun q => h2 q.2
          rw [if_neg hc, if_neg h2]
          dsimp only
          rw [if_pos rfl, ct_fail, bd_some, tS_2]
          refine ⟨pI (tS S' (o3 (sk (S.1 2) n (tcl (S.1 2) n c B i).2.1)) s' f) 1 4 (1 + 8 * o3 (sk (S.1 2) n (tcl (S.1 2) n c B i).2.1) + 0), ?_, fun q => absurd q (by show ¬ (1 + 8 * _ = 0); omega), ?_⟩
          · rw [if_neg (by show ¬ (1 + 8 * _ = 0); omega)]; rfl
          · intro _
            show 1 + 8 * o3 (sk (S.1 2) n (tcl (S.1 2) n c B i).2.1) + 0 = _
            rw [show (1 : Int32) = o3 1 from rfl, show (8 : Int32) = o3 8 from rfl, show (0 : Int32) = o3 0 from rfl, o3_mul, o3_add, o3_add]
            rfl
      · rw [if_neg h1, if_neg h1]
        dsimp only
        rw [if_neg (show ¬ (1 : Int32) = 0 by decide)]
        obtain ⟨Y, y1, y2, y3⟩ := cw_all (X := tS S' (o3 (sk (S.1 2) n (tcl (S.1 2) n c B i).2.1)) s' f) (TBc_tS hB').1 hok'.1 hok'.2.1 hok'.2.2.2.2.1
        rw [y1, bd_some]
        exact ⟨Y, rfl, fun _ => ⟨eR_TB y3 (TBc_tS hB'), hok', y2⟩, fun q => absurd rfl q⟩
    · rw [if_neg hz] at e
      rw [e, bd_some, if_neg hz]
      dsimp only
      rw [if_pos rfl, if_neg hz]
      exact ⟨_, rfl, fun q => absurd q hz, fun _ => rfl⟩
/-- the class's reading of the tape as a tower -/
def tw0 (t : Nat → Int32) (n : Nat) : Nat × TB := tall t n 25 0 0 ([], [], [])
theorem c_read {S : fS} {n : Nat} (hn : S.1 1 1 = o3 n) (hl : n ≤ 400) : ∃ Y, f_X9_read S = some (if (tw0 (S.1 2) n).1 = 0 then 1 else 0, Y) ∧ ((tw0 (S.1 2) n).1 = 0 → TBc Y (tw0 (S.1 2) n).2 ∧ okB (tw0 (S.1 2) n).2 ∧ rW Y 30 (dst (tw0 (S.1 2) n).2.2.1)) ∧ (¬ (tw0 (S.1 2) n).1 = 0 → Y.1 1 4 = o3 (tw0 (S.1 2) n).1) := by
  unfold f_X9_read
  rw [bd_some, bd_some, bd_some, bd_some]
  unfold f_X7_rewind
  rw [bd_some, bd_some, bd_some, bd_some]
  exact ct_readlp hl (f := 0) 24 0 FU ([], [], []) (pI (pI (pI (pI S 24 6 0) 24 7 0) 31 5 0) 31 6 0) 0 0 hn rfl ⟨⟨rfl, rfl, fun k hk => absurd hk (Nat.not_lt_zero _), fun k hk => absurd hk (Nat.not_lt_zero _)⟩, rfl, rfl, fun k hk => absurd hk (Nat.not_lt_zero _)⟩ ⟨by decide, by decide, by decide, fun q hq => absurd hq List.not_mem_nil, fun q hq => absurd hq List.not_mem_nil, fun q hq => absurd hq List.not_mem_nil⟩ (by omega) (by omega) (FU_lt (by omega))
end
