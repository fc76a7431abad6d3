section
variable {S : fS} {n : Nat} {w u : Int32}
theorem mt_numlp (hn : S.1 145 1 = o3 n) (hl : n ≤ 400) {lo hi : Int32} {K : Int32 → fS → Option (Int32 × fS)} {j : Nat} (hj : j ≤ n) : ∀ d k m, k + d = dl (S.1 146) n j → d < m → lp_X11_numberHere_34 lo hi (o3 j) K m (o3 (dv (S.1 146) j (min k 5))) (mS S (o3 (j + k)) w u) = K (o3 (dv (S.1 146) j (min (dl (S.1 146) n j) 5))) (mS S (o3 (j + dl (S.1 146) n j)) w u) := by
  have hL := dl_le (t := S.1 146) (n := n) _ j rfl hj
  intro d
  induction d with
  | zero =>
    intro k m hk hm
    obtain ⟨m, rfl⟩ : ∃ m', m = m' + 1 := ⟨m - 1, by omega⟩
    have hk : k = dl (S.1 146) n j := hk
    subst hk
    have hE := dl_end (t := S.1 146) (n := n) _ j rfl
    rw [lp_X11_numberHere_34.eq_2, mS_13, mt_digit hl (X := mS S (o3 (j + dl (S.1 146) n j)) w u) (by rw [mS_1, hn]) (by omega), bd_some, mS_t, dl_0 hE, if_neg (Nat.lt_irrefl 0), if_pos rfl]
  | succ d ih =>
    intro k m hk hm
    obtain ⟨m, rfl⟩ : ∃ m', m = m' + 1 := ⟨m - 1, by omega⟩
    have hg := dl_dg (t := S.1 146) (n := n) k j (by omega)
    obtain ⟨g1, g2, g3⟩ := hg
    have hds := dl_sub (t := S.1 146) (n := n) (j := j) k (by omega)
    rw [lp_X11_numberHere_34.eq_2, mS_13, mt_digit hl (X := mS S (o3 (j + k)) w u) (by rw [mS_1, hn]) (by omega), bd_some, mS_t, if_pos (show 0 < dl (S.1 146) n (j + k) by omega), if_neg (by decide), o3_sub (by omega), show j + k - j = k by omega]
    by_cases h5 : 5 ≤ k
    · rw [o3_l, if_pos ((o3_le (by omega) (by omega)).mpr h5), bd_some, mS_nx, o3_s, show j + k + 1 = j + (k + 1) by omega, show min k 5 = min (k + 1) 5 by omega]
      exact ih (k + 1) m (by omega) (by omega)
    · rw [if_neg (show ¬ (5 : Int32) ≤ o3 _ from fun q => h5 ((o3_le (a := 5) (by omega) (by omega)).mp q)), gI_o (by omega) (by omega), bd_some, mS_t, bd_some, mS_nx, o3_s, show j + k + 1 = j + (k + 1) by omega, ← ih (k + 1) m (by omega) (by omega)]
      have hd1 := dv_5 (n := n) (t := S.1 146) (j := j) (q := k) (by omega) (by omega)
      obtain ⟨b, hb, hb2⟩ := o3_ex (x := S.1 146 (j + k)) (by omega)
      rw [show min k 5 = k by omega, show min (k + 1) 5 = k + 1 by omega]
      have e : 10 * o3 (dv (S.1 146) j k) + S.1 146 (j + k) - 48 = o3 (dv (S.1 146) j (k + 1)) := by
        show _ = o3 (dv (S.1 146) j k * 10 + ((S.1 146 (j + k)).toInt - 48).toNat)
        rw [hb, show (10 : Int32) = o3 10 from rfl, show (48 : Int32) = o3 48 from rfl, o3_mul, o3_add, o3_sub (by omega), o3_int (by omega), show 10 * dv (S.1 146) j k + b - 48 = dv (S.1 146) j k * 10 + ((b : Int) - 48).toNat by omega]
      rw [e]
end
