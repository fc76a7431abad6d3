section
/-! the class reads a tower, clause by clause -/
section TP
variable {t : Nat → Int32} {n : Nat} {B : TB} {i : Nat}
theorem tFl_le (hi : i ≤ n) (h : (tFl t n B i).1 = 0) : (tFl t n B i).2.1 ≤ n ∧ i < (tFl t n B i).2.1 := by
  unfold tFl at h ⊢
  by_cases h1 : nmf t n i 1 20 = 0
  · rw [if_pos h1] at h ⊢
    by_cases h2 : nmf t n (nmp t n i) 1 20 = 0
    · rw [if_pos h2] at h ⊢
      have := nmp_le (t := t) hi
      have a := nmp_gt h1
      have b := nmp_gt h2
      exact ⟨nmp_le this, by show i < nmp t n (nmp t n i); omega⟩
    · rw [if_neg h2] at h; exact absurd h h2
  · rw [if_neg h1] at h; exact absurd h h1
theorem tPc_le {a b c : Nat} (hi : i ≤ n) (h : (tPc t n B a b c i).1 = 0) : (tPc t n B a b c i).2.1 ≤ n ∧ i < (tPc t n B a b c i).2.1 := by
  unfold tPc at h ⊢
  by_cases h1 : nmf t n i 1 20 = 0
  · rw [if_pos h1] at h ⊢
    by_cases h2 : nmf t n (nmp t n i) 1 20 = 0
    · rw [if_pos h2] at h ⊢
      have := nmp_le (t := t) hi
      have a := nmp_gt h1
      have b := nmp_gt h2
      exact ⟨nmp_le this, by show i < nmp t n (nmp t n i); omega⟩
    · rw [if_neg h2] at h; exact absurd h h2
  · rw [if_neg h1] at h; exact absurd h h1
theorem tSt_le (hi : i ≤ n) (h : (tSt t n B i).1 = 0) : (tSt t n B i).2.1 ≤ n ∧ i < (tSt t n B i).2.1 := by
  unfold tSt at h ⊢
  by_cases h1 : nmf t n i 0 (B.1.length - 1) = 0
  · rw [if_pos h1] at h ⊢
    by_cases h2 : nmf t n (nmp t n i) 0 (B.1.length - 1) = 0
    · rw [if_pos h2] at h ⊢
      by_cases h3 : nmv t n i = nmv t n (nmp t n i)
      · rw [if_pos h3] at h
        exact absurd h (by show ¬ (1 + 8 * _ + 1 = 0); omega)
      · rw [if_neg h3] at h ⊢
        by_cases h4 : nmf t n (nmp t n (nmp t n i)) 1 9 = 0
        · rw [if_pos h4] at h ⊢
          have e1 := nmp_le (t := t) hi
          have e2 := nmp_le (t := t) e1
          have e3 := nmp_le (t := t) e2
          have a := nmp_gt h1
          have b := nmp_gt h2
          have c := nmp_gt h4
          have := tPc_le e3 h
          omega
        · rw [if_neg h4] at h; exact absurd h h4
    · rw [if_neg h2] at h; exact absurd h h2
  · rw [if_neg h1] at h; exact absurd h h1
theorem tTh_le (hi : i ≤ n) (h : (tTh t n B i).1 = 0) : (tTh t n B i).2.1 ≤ n ∧ i < (tTh t n B i).2.1 := by
  unfold tTh at h ⊢
  by_cases h1 : nmf t n i 0 (B.1.length - 1) = 0
  · rw [if_pos h1] at h ⊢
    exact ⟨nmp_le hi, nmp_gt h1⟩
  · rw [if_neg h1] at h; exact absurd h h1
theorem wpf_le : ∀ (w : List Int32) (j : Nat), j ≤ n → wpf t n w j = true → j + w.length ≤ n := by
  intro w
  induction w with
  | nil => intro j hj _; exact hj
  | cons c w ih =>
    intro j hj h
    have h : (decide (j < n ∧ t j = c) && wpf t n w (j + 1)) = true := h
    rw [Bool.and_eq_true, decide_eq_true_iff] at h
    have := ih (j + 1) (by have := h.1.1; omega) h.2
    show j + (w.length + 1) ≤ n
    omega
theorem wat_le {w : List Int32} {j : Nat} (hj : j ≤ n) (h : wat t n w j = true) : j + w.length ≤ n := by
  rw [wat_wpf, Bool.and_eq_true] at h
  exact wpf_le w j hj h.1
theorem tcl_le {c : Nat} (hi : i ≤ n) (h : (tcl t n c B i).1 = 0) : (tcl t n c B i).2.1 ≤ n ∧ i < (tcl t n c B i).2.1 := by
  have hj := sk_le (t := t) hi
  have hg := sk_ge (t := t) (n := n) (i := i)
  unfold tcl at h ⊢
  by_cases h1 : wat t n (mm_sb.getD 0 []) (sk t n i) = true
  · rw [if_pos h1] at h ⊢
    have hw := wat_le hj h1
    have hw : sk t n i + 5 ≤ n := hw
    by_cases h2 : 10 ≤ B.1.length ∨ 24 ≤ c
    · rw [if_pos h2] at h; exact absurd h (by show ¬ (1 + 8 * _ + 4 = 0); omega)
    · rw [if_neg h2] at h ⊢
      have := tFl_le hw h
      omega
  · rw [if_neg h1] at h ⊢
    by_cases h3 : wat t n (mm_sb.getD 1 []) (sk t n i) = true
    · rw [if_pos h3] at h ⊢
      have hw := wat_le hj h3
      have hw : sk t n i + 5 ≤ n := hw
      by_cases h2 : 12 ≤ B.2.1.length ∨ 24 ≤ c
      · rw [if_pos h2] at h; exact absurd h (by show ¬ (1 + 8 * _ + 4 = 0); omega)
      · rw [if_neg h2] at h ⊢
        have := tSt_le hw h
        omega
    · rw [if_neg h3] at h ⊢
      by_cases h4 : wat t n (mm_sb.getD 2 []) (sk t n i) = true
      · rw [if_pos h4] at h ⊢
        have hw := wat_le hj h4
        have hw : sk t n i + 5 ≤ n := hw
        by_cases h2 : 8 ≤ B.2.2.length ∨ 24 ≤ c
        · rw [if_pos h2] at h; exact absurd h (by show ¬ (1 + 8 * _ + 4 = 0); omega)
        · rw [if_neg h2] at h ⊢
          have := tTh_le hw h
          omega
      · rw [if_neg h4] at h; exact absurd h (by show ¬ (1 + 8 * _ = 0); omega)
end TP
section CR
variable {S : fS} {n : Nat} {s f : Int32}
theorem ct_clause (hn : S.1 1 1 = o3 n) (hl : n ≤ 400) {B : TB} (hB : TBc S B) (hok : okB B) {c i : Nat} (hc : c ≤ 24) (hi : i ≤ n) : ∃ S' i' s', f_X9_readClause (o3 c) (tS S (o3 i) s f) = some (if (tcl (S.1 2) n c B i).1 = 0 then (1, tS S' (o3 (tcl (S.1 2) n c B i).2.1) s' f) else (0, tS S i' s' (o3 (tcl (S.1 2) n c B i).1))) ∧ ((tcl (S.1 2) n c B i).1 = 0 → TBc S' (tcl (S.1 2) n c B i).2.2) := by
  have hj := sk_le (t := S.1 2) hi
  have hok2 := hok
  obtain ⟨b1, b2, b3, -⟩ := hok2
  unfold f_X9_readClause
  rw [ct_word hn hl (w := 0) (by decide) hi, bd_some]
  unfold tcl
  have e155 : ∀ (i' : Int32) (j : Nat), j ≤ 400 → j_X9_readClause_155 (tS S i' (o3 j) f) = some (0, tS S i' (o3 j) (o3 (1 + 8 * j + 4))) := fun i' j hj => by
    rw [cl_155, tS_3, tS_fa, show (1 : Int32) = o3 1 from rfl, show (8 : Int32) = o3 8 from rfl, show (4 : Int32) = o3 4 from rfl, o3_mul, o3_add, o3_add]
  by_cases w0 : wat (S.1 2) n (mm_sb.getD 0 []) (sk (S.1 2) n i) = true
  · rw [if_pos w0, if_pos w0]
    have hw := wat_le hj w0
    have hw : sk (S.1 2) n i + 5 ≤ n := hw
    dsimp only
    rw [if_neg (by decide), cl_F, tS_ne (by decide), hB.1.1]
    by_cases c1 : 10 ≤ B.1.length
    · rw [if_pos (show (10 : Int32) ≤ o3 _ from (o3_le (a := 10) (by omega) (by omega)).mpr c1), if_pos (Or.inl c1), e155 _ _ (by omega)]
      exact ⟨S, _, _, by rw [if_neg (by show ¬ (1 + 8 * _ + 4 = 0); omega)], fun q => absurd q (by show ¬ (1 + 8 * _ + 4 = 0); omega)⟩
    · rw [if_neg (show ¬ (10 : Int32) ≤ o3 _ from fun q => c1 ((o3_le (a := 10) (by omega) (by omega)).mp q))]
      by_cases c2 : 24 ≤ c
      · rw [if_neg (show ¬ o3 _ < (24 : Int32) from fun q => by have := (o3_lt (b := 24) (by omega) (by omega)).mp q; omega), if_pos (Or.inr c2), e155 _ _ (by omega)]
        exact ⟨S, _, _, by rw [if_neg (by show ¬ (1 + 8 * _ + 4 = 0); omega)], fun q => absurd q (by show ¬ (1 + 8 * _ + 4 = 0); omega)⟩
      · rw [if_pos (show o3 _ < (24 : Int32) from (o3_lt (b := 24) (by omega) (by omega)).mpr (by omega)), if_neg (fun q => by omega)]
        obtain ⟨S', i', s', e, hT⟩ := ct_floor (s := o3 (sk (S.1 2) n i)) (f := f) hn hl hB (by omega) (i := sk (S.1 2) n i + 5) hw
        refine ⟨S', i', s', ?_, hT⟩
        rw [show sk (S.1 2) n i + (mm_sb.getD 0 []).length = sk (S.1 2) n i + 5 from rfl, e, bd_some]
        by_cases hz : (tFl (S.1 2) n B (sk (S.1 2) n i + 5)).1 = 0
        · rw [if_pos hz]; rfl
        · rw [if_neg hz]; rfl
  · rw [if_neg w0, if_neg w0]
    dsimp only
    rw [if_pos rfl, ct_word hn hl (w := 1) (by decide) hj, bd_some, sk_id]
    by_cases w1 : wat (S.1 2) n (mm_sb.getD 1 []) (sk (S.1 2) n i) = true
    · rw [if_pos w1, if_pos w1]
      have hw := wat_le hj w1
      have hw : sk (S.1 2) n i + 5 ≤ n := hw
      dsimp only
      rw [if_neg (by decide), cl_S, tS_ne (by decide), hB.1.2.1]
      by_cases c1 : 12 ≤ B.2.1.length
      · rw [if_pos (show (12 : Int32) ≤ o3 _ from (o3_le (a := 12) (by omega) (by omega)).mpr c1), if_pos (Or.inl c1), e155 _ _ (by omega)]
        exact ⟨S, _, _, by rw [if_neg (by show ¬ (1 + 8 * _ + 4 = 0); omega)], fun q => absurd q (by show ¬ (1 + 8 * _ + 4 = 0); omega)⟩
      · rw [if_neg (show ¬ (12 : Int32) ≤ o3 _ from fun q => c1 ((o3_le (a := 12) (by omega) (by omega)).mp q))]
        by_cases c2 : 24 ≤ c
        · rw [if_neg (show ¬ o3 _ < (24 : Int32) from fun q => by have := (o3_lt (b := 24) (by omega) (by omega)).mp q; omega), if_pos (Or.inr c2), e155 _ _ (by omega)]
          exact ⟨S, _, _, by rw [if_neg (by show ¬ (1 + 8 * _ + 4 = 0); omega)], fun q => absurd q (by show ¬ (1 + 8 * _ + 4 = 0); omega)⟩
        · rw [if_pos (show o3 _ < (24 : Int32) from (o3_lt (b := 24) (by omega) (by omega)).mpr (by omega)), if_neg (fun q => by omega)]
          obtain ⟨S', i', s', e, hT⟩ := ct_stair (s := o3 (sk (S.1 2) n i)) (f := f) hn hl hB hok (by omega) (i := sk (S.1 2) n i + 5) hw
          refine ⟨S', i', s', ?_, hT⟩
          rw [show sk (S.1 2) n i + (mm_sb.getD 1 []).length = sk (S.1 2) n i + 5 from rfl, e, bd_some]
          by_cases hz : (tSt (S.1 2) n B (sk (S.1 2) n i + 5)).1 = 0
          · rw [if_pos hz]; rfl
          · rw [if_neg hz]; rfl
    · rw [if_neg w1, if_neg w1]
      dsimp only
      rw [if_pos rfl]
      unfold j_X9_readClause_30 j_X9_readClause_31
      rw [if_pos rfl, if_pos rfl, ct_word hn hl (w := 2) (by decide) hj, bd_some, sk_id]
      by_cases w2 : wat (S.1 2) n (mm_sb.getD 2 []) (sk (S.1 2) n i) = true
      · rw [if_pos w2, if_pos w2]
        have hw := wat_le hj w2
        have hw : sk (S.1 2) n i + 5 ≤ n := hw
        dsimp only
        rw [if_neg (by decide), cl_T, tS_ne (by decide), hB.2.1]
        by_cases c1 : 8 ≤ B.2.2.length
        · rw [if_neg (show ¬ o3 _ < (8 : Int32) from fun q => by have := (o3_lt (b := 8) (by omega) (by omega)).mp q; omega), if_pos (Or.inl c1), e155 _ _ (by omega)]
          exact ⟨S, _, _, by rw [if_neg (by show ¬ (1 + 8 * _ + 4 = 0); omega)], fun q => absurd q (by show ¬ (1 + 8 * _ + 4 = 0); omega)⟩
        · rw [if_pos (show o3 _ < (8 : Int32) from (o3_lt (b := 8) (by omega) (by omega)).mpr (by omega))]
          by_cases c2 : 24 ≤ c
          · rw [if_neg (show ¬ o3 _ < (24 : Int32) from fun q => by have := (o3_lt (b := 24) (by omega) (by omega)).mp q; omega), if_pos (Or.inr c2), e155 _ _ (by omega)]
            exact ⟨S, _, _, by rw [if_neg (by show ¬ (1 + 8 * _ + 4 = 0); omega)], fun q => absurd q (by show ¬ (1 + 8 * _ + 4 = 0); omega)⟩
          · rw [if_pos (show o3 _ < (24 : Int32) from (o3_lt (b := 24) (by omega) (by omega)).mpr (by omega)), if_neg (fun q => by omega)]
            obtain ⟨S', i', s', e, hT⟩ := ct_thing (s := o3 (sk (S.1 2) n i)) (f := f) hn hl hB hok (by omega) (i := sk (S.1 2) n i + 5) hw
            refine ⟨S', i', s', ?_, hT⟩
            rw [show sk (S.1 2) n i + (mm_sb.getD 2 []).length = sk (S.1 2) n i + 5 from rfl, e, bd_some]
            by_cases hz : (tTh (S.1 2) n B (sk (S.1 2) n i + 5)).1 = 0
            · rw [if_pos hz]; rfl
            · rw [if_neg hz]; rfl
      · rw [if_neg w2, if_neg w2]
        dsimp only
        rw [if_pos rfl, cl_N, tS_2, tS_fa, show (1 : Int32) = o3 1 from rfl, show (8 : Int32) = o3 8 from rfl, show (0 : Int32) = o3 0 from rfl, o3_mul, o3_add, o3_add]
        exact ⟨S, _, _, by rw [if_neg (by show ¬ (1 + 8 * _ = 0); omega)]; rfl, fun q => absurd q (by show ¬ (1 + 8 * _ = 0); omega)⟩
theorem tS_rw {i s' f' : Int32} : (tS S i s' f').1 1 1 = S.1 1 1 ∧ (tS S i s' f').1 2 = S.1 2 := ⟨rfl, rfl⟩
/-- fields that a clause of a tower leaves as they are -/
theorem ct_keep {c : Int32} {X Y : fS} {r : Int32} (h : f_X9_readClause c X = some (r, Y)) : Y.1 1 1 = X.1 1 1 ∧ Y.1 2 = X.1 2 := by
  have hF := fr_f_X9_readClause h
  refine ⟨hF.1 1 1 ?_, funext fun k => hF.1 2 k ?_⟩
  · unfold w1_f_X9_readClause; omega
  · unfold w1_f_X9_readClause; omega
end CR
end
