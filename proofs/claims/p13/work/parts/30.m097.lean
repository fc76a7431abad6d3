section
variable {S : fS} {n : Nat} {s f : Int32}
theorem ct_clause (hn : S.1 1 1 = o3 n) (hl : n ≤ 400) {B : TB} (hB : TBc S B) (hok : okB B) {c i : Nat} (hc : c ≤ 24) (hi : i ≤ n) : ∃ S' i' s', f_X9_readClause (o3 c) (tS S (o3 i) s f) = some (if (tcl (S.1 2) n c B i).1 = 0 then (1, tS S' (o3 (tcl (S.1 2) n c B i).2.1) s' f) else (0, tS S i' s' (o3 (tcl (S.1 2) n c B i).1))) ∧ ((tcl (S.1 2) n c B i).1 = 0 → TBc S' (tcl (S.1 2) n c B i).2.2) := by
  have hj := sk_le (t := S.1 2) hi
  have hok2 := hok
  obtain ⟨b1, b2, b3, -⟩ := hok2
  unfold f_X9_readClause
  rw [ct_word hn hl (w := 0) (by decide) hi, bd_some]
  unfold tcl
  have e155 : ∀ (i' : Int32) (j : Nat), j ≤ 400 → j_X9_readClause_155 (tS S i' (o3 j) f) = some (0, tS S i' (o3 j) (o3 (1 + 8 * j + 4))) := fun i' j hj => by
    rw [cl_155, tS_3, tS_fa, show (1 : Int32) = o3 1 from rfl, show (8 : Int32) = o3 8 from rfl, show (4 : Int32) = o3 4 from rfl, o3_mul, o3_add, o3_add]
  by_cases w0 : wat (S.1 2) n (mm_sb.getD 0 []) (sk (S.1 2) n i) = true
  · rw [if_pos w0, if_pos w0]
    have hw := wat_le hj w0
    have hw : sk (S.1 2) n i + 5 ≤ n := hw
    dsimp only
    rw [if_neg (by decide), cl_F, tS_ne (by decide), hB.1.1]
    by_cases c1 : 10 ≤ B.1.length
    · rw [if_pos (show (10 : Int32) ≤ o3 _ from (o3_le (a := 10) (by omega) (by omega)).mpr c1), if_pos (Or.inl c1), e155 _ _ (by omega)]
      exact ⟨S, _, _, by rw [if_neg (by show ¬ (1 + 8 * _ + 4 = 0); omega)], fun q => absurd q (by show ¬ (1 + 8 * _ + 4 = 0); omega)⟩
    · rw [if_neg (show ¬ (10 : Int32) ≤ o3 _ from fun q => c1 ((o3_le (a := 10) (by omega) (by omega)).mp q))]
      by_cases c2 : 24 ≤ c
      · rw [if_neg (show ¬ o3 _ < (24 : Int32) from fun q => by have := (o3_lt (b := 24) (by omega) (by omega)).mp q; omega), if_pos (Or.inr c2), e155 _ _ (by omega)]
        exact ⟨S, _, _, by rw [if_neg (by show ¬ (1 + 8 * _ + 4 = 0); omega)], fun q => absurd q (by show ¬ (1 + 8 * _ + 4 = 0); omega)⟩
      · rw [if_pos (show o3 _ < (24 : Int32) from (o3_lt (b := 24) (by omega) (by omega)).mpr (by omega)), if_neg (fun q => by omega)]
        obtain ⟨S', i', s', e, hT⟩ := ct_floor (s := o3 (sk (S.1 2) n i)) (f := f) hn hl hB (by omega) (i := sk (S.1 2) n i + 5) hw
        refine ⟨S', i', s', ?_, hT⟩
        rw [show sk (S.1 2) n i + (mm_sb.getD 0 []).length = sk (S.1 2) n i + 5 from rfl, e, bd_some]
        by_cases hz : (tFl (S.1 2) n B (sk (S.1 2) n i + 5)).1 = 0
        · rw [if_pos hz]; rfl
        · rw [if_neg hz]; rfl
  · rw [if_neg w0, if_neg w0]
    dsimp only
    rw [if_pos rfl, ct_word hn hl (w := 1) (by decide) hj, bd_some, sk_id]
    by_cases w1 : wat (S.1 2) n (mm_sb.getD 1 []) (sk (S.1 2) n i) = true
    · rw [if_pos w1, if_pos w1]
      have hw := wat_le hj w1
      have hw : sk (S.1 2) n i + 5 ≤ n := hw
      dsimp only
      rw [if_neg (by decide), cl_S, tS_ne (by decide), hB.1.2.1]
      by_cases c1 : 12 ≤ B.2.1.length
      · rw [if_pos (show (12 : Int32) ≤ o3 _ from (o3_le (a := 12) (by omega) (by omega)).mpr c1), if_pos (Or.inl c1), e155 _ _ (by omega)]
        exact ⟨S, _, _, by rw [if_neg (by show ¬ (1 + 8 * _ + 4 = 0); omega)], fun q => absurd q (by show ¬ (1 + 8 * _ + 4 = 0); omega)⟩
      · rw [if_neg (show ¬ (12 : Int32) ≤ o3 _ from fun q => c1 ((o3_le (a := 12) (by omega) (by omega)).mp q))]
        by_cases c2 : 24 ≤ c
        · rw [if_neg (show ¬ o3 _ < (24 : Int32) from fun q => by have := (o3_lt (b := 24) (by omega) (by omega)).mp q; omega), if_pos (Or.inr c2), e155 _ _ (by omega)]
          exact ⟨S, _, _, by rw [if_neg (by show ¬ (1 + 8 * _ + 4 = 0); omega)], fun q => absurd q (by show ¬ (1 + 8 * _ + 4 = 0); omega)⟩
        · rw [if_pos (show o3 _ < (24 : Int32) from (o3_lt (b := 24) (by omega) (by omega)).mpr (by omega)), if_neg (fun q => by omega)]
          obtain ⟨S', i', s', e, hT⟩ := ct_stair (s := o3 (sk (S.1 2) n i)) (f := f) hn hl hB hok (by omega) (i := sk (S.1 2) n i + 5) hw
          refine ⟨S', i', s', ?_, hT⟩
          rw [show sk (S.1 2) n i + (mm_sb.getD 1 []).length = sk (S.1 2) n i + 5 from rfl, e, bd_some]
          by_cases hz : (tSt (S.1 2) n B (sk (S.1 2) n i + 5)).1 = 0
          · rw [if_pos hz]; rfl
          · rw [if_neg hz]; rfl
    · rw [if_neg w1, if_neg w1]
      dsimp only
      rw [if_pos rfl]
      unfold j_X9_readClause_30 j_X9_readClause_31
      rw [if_pos rfl, if_pos rfl, ct_word hn hl (w := 2) (by decide) hj, bd_some, sk_id]
      by_cases w2 : wat (S.1 2) n (mm_sb.getD 2 []) (sk (S.1 2) n i) = true
      · rw [if_pos w2, if_pos w2]
        have hw := wat_le hj w2
        have hw : sk (S.1 2) n i + 5 ≤ n := hw
        dsimp only
        rw [if_neg (by decide), cl_T, tS_ne (by decide), hB.2.1]
        by_cases c1 : 8 ≤ B.2.2.length
        · rw [if_neg (show ¬ o3 _ < (8 : Int32) from fun q => by have := (o3_lt (b := 8) (by omega) (by omega)).mp q; omega), if_pos (Or.inl c1), e155 _ _ (by omega)]
          exact ⟨S, _, _, by rw [if_neg (by show ¬ (1 + 8 * _ + 4 = 0); omega)], fun q => absurd q (by show ¬ (1 + 8 * _ + 4 = 0); omega)⟩
        · rw [if_pos (show o3 _ < (8 : Int32) from (o3_lt (b := 8) (by omega) (by omega)).mpr (by omega))]
          by_cases c2 : 24 ≤ c
          · rw [if_neg (show ¬ o3 _ < (24 : Int32) from fun q => by have := (o3_lt (b := 24) (by omega) (by omega)).mp q; omega), if_pos (Or.inr c2), e155 _ _ (by omega)]
            exact ⟨S, _, _, by rw [if_neg (by show ¬ (1 + 8 * _ + 4 = 0); omega)], fun q => absurd q (by show ¬ (1 + 8 * _ + 4 = 0); omega)⟩
          · rw [if_pos (show o3 _ < (24 : Int32) from (o3_lt (b := 24) (by omega) (by omega)).mpr (by omega)), if_neg (fun q => by omega)]
            obtain ⟨S', i', s', e, hT⟩ := ct_thing (s := o3 (sk (S.1 2) n i)) (f := f) hn hl hB hok (by omega) (i := sk (S.1 2) n i + 5) hw
            refine ⟨S', i', s', ?_, hT⟩
            rw [show sk (S.1 2) n i + (mm_sb.getD 2 []).length = sk (S.1 2) n i + 5 from rfl, e, bd_some]
            by_cases hz : (tTh (S.1 2) n B (sk (S.1 2) n i + 5)).1 = 0
            · rw [if_pos hz]; rfl
            · rw [if_neg hz]; rfl
      · rw [if_neg w2, if_neg w2]
        dsimp only
        rw [if_pos rfl, cl_N, tS_2, tS_fa, show (1 : Int32) = o3 1 from rfl, show (8 : Int32) = o3 8 from rfl, show (0 : Int32) = o3 0 from rfl, o3_mul, o3_add, o3_add]
        exact ⟨S, _, _, by rw [if_neg (by show ¬ (1 + 8 * _ = 0); omega)]; rfl, fun q => absurd q (by show ¬ (1 + 8 * _ = 0); omega)⟩
end
