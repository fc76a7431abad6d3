section
variable {S : fS} {n : Nat} {w u : Int32}
theorem mt_isWord (hn : S.1 145 1 = o3 n) (hl : n ≤ 400) {c : Int64} {W : List Int32} (hW : ∀ x ∈ W, isL x) (h1 : 0 < W.length) (h8 : W.length ≤ 8) (hc : c = Int64.ofNat (pkW W)) {i : Nat} (hi : i ≤ n) : f_X11_isWord c (mS S (o3 i) w u) = some (if wat (S.1 146) n W (sk (S.1 146) n i) = true then 1 else 0, mS S (o3 (sk (S.1 146) n i)) w u) := by
  have hj := sk_le (t := S.1 146) hi
  unfold f_X11_isWord
  rw [mt_see hn hl hi, bd_some]
  show lp_X11_isWord_10 c _ FU 0 0 (mS S (o3 (sk (S.1 146) n i)) w u) = _
  generalize sk (S.1 146) n i = j at hj
  have hL := ll_le (t := S.1 146) (n := n) _ j rfl hj
  have hlp := mt_wordlp hn hl (w := w) (u := u) (c := c) hj (ll (S.1 146) n j) 0 FU (by omega) (FU_lt (by omega)) (K := fun u12 u13 S14 => if u13 ≤ (0 : Int32) then (some ((0 : Int32), S14)) else
  (if (9 : Int32) ≤ u13 then (some ((0 : Int32), S14)) else
  (if u12 = c then (some ((1 : Int32), S14)) else
  (some ((0 : Int32), S14)))))
  refine Eq.trans hlp ?_
  have hlet : ∀ m, m < ll (S.1 146) n j → isL (S.1 146 (j + m)) := fun m hm => (ltr_iff.mp (ll_lt m j hm)).2
  have hW2 : ∀ m, m < W.length → isL (W.getD (0 + m) 0) := fun m hm => by
    rw [show 0 + m = m by omega, List.getD_eq_getElem?_getD, List.getElem?_eq_getElem hm]
    exact hW _ (List.getElem_mem hm)
  have hpw : pkW W < 2 ^ 63 := pkk_8 h8 hW2
  by_cases h0 : ll (S.1 146) n j = 0
  · have hw : ¬ wat (S.1 146) n W j = true := fun q => by
      have := (pk_inj _ _ hlet hW2 ((wat_pk hW).mp q)).1
      omega
    rw [if_neg hw, h0]
    rfl
  · rw [if_neg (show ¬ o3 _ ≤ (0 : Int32) from fun q => by have := (o3_le (b := 0) (by omega) (by omega)).mp q; omega)]
    by_cases h9 : 9 ≤ ll (S.1 146) n j
    · have hw : ¬ wat (S.1 146) n W j = true := fun q => by
        have := (pk_inj _ _ hlet hW2 ((wat_pk hW).mp q)).1
        omega
      rw [if_neg hw, if_pos (show (9 : Int32) ≤ o3 _ from (o3_le (a := 9) (by omega) (by omega)).mpr h9)]
    · rw [if_neg (show ¬ (9 : Int32) ≤ o3 _ from fun q => h9 ((o3_le (a := 9) (by omega) (by omega)).mp q)), show min (ll (S.1 146) n j) 8 = ll (S.1 146) n j by omega, hc]
      have hpl : pk (S.1 146) j (ll (S.1 146) n j) < 2 ^ 63 := pkk_8 (by omega) hlet
      by_cases hw : wat (S.1 146) n W j = true
      · rw [if_pos hw, (wat_pk hW).mp hw, if_pos rfl]
      · rw [if_neg hw, if_neg]
        intro q
        have q := nl_eq.mp q
        rw [nl_ofNat hpl, nl_ofNat hpw] at q
        exact hw ((wat_pk hW).mpr (by omega))
end
