section
variable {S : fS} {n : Nat} {w u : Int32}
theorem mt_wordlp (hn : S.1 145 1 = o3 n) (hl : n ≤ 400) {c : Int64} {K : Int64 → Int32 → fS → Option (Int32 × fS)} {j : Nat} (hj : j ≤ n) : ∀ d k m, k + d = ll (S.1 146) n j → d < m → lp_X11_isWord_10 c K m (Int64.ofNat (pk (S.1 146) j (min k 8))) (o3 k) (mS S (o3 j) w u) = K (Int64.ofNat (pk (S.1 146) j (min (ll (S.1 146) n j) 8))) (o3 (ll (S.1 146) n j)) (mS S (o3 j) w u) := by
  have hL := ll_le (t := S.1 146) (n := n) _ j rfl hj
  intro d
  induction d with
  | zero =>
    intro k m hk hm
    obtain ⟨m, rfl⟩ : ∃ m', m = m' + 1 := ⟨m - 1, by omega⟩
    have hk : k = ll (S.1 146) n j := hk
    have h0 := ll_sub (t := S.1 146) (n := n) (j := j) k (by omega)
    have hE : ¬ ltr (S.1 146) n (j + k) = true := fun q => by
      have := ll_1 q
      omega
    rw [lp_X11_isWord_10.eq_2, mS_13, o3_add, mt_letter hl (X := mS S (o3 j) w u) (by rw [mS_1, hn]) (by omega), bd_some, mS_t, if_neg hE, if_pos rfl, hk]
  | succ d ih =>
    intro k m hk hm
    obtain ⟨m, rfl⟩ : ∃ m', m = m' + 1 := ⟨m - 1, by omega⟩
    have hg := ll_lt (t := S.1 146) (n := n) k j (by omega)
    obtain ⟨g1, g2, g3⟩ := ltr_iff.mp hg
    rw [lp_X11_isWord_10.eq_2, mS_13, o3_add, mt_letter hl (X := mS S (o3 j) w u) (by rw [mS_1, hn]) (by omega), bd_some, mS_t, if_pos hg, if_neg (by decide)]
    by_cases h8 : 8 ≤ k
    · rw [show (8 : Int32) = o3 8 from rfl, if_pos ((o3_le (by omega) (by omega)).mpr h8), o3_s, show min k 8 = min (k + 1) 8 by omega]
      exact ih (k + 1) m (by omega) (by omega)
    · rw [if_neg (show ¬ (8 : Int32) ≤ o3 _ from fun q => h8 ((o3_le (a := 8) (by omega) (by omega)).mp q)), gI_o (by omega) (by omega), bd_some, mS_t, o3_s, ← ih (k + 1) m (by omega) (by omega)]
      obtain ⟨b, hb, hb2⟩ := o3_ex (x := S.1 146 (j + k)) (by omega)
      have h64 : Int32.toInt64 (S.1 146 (j + k)) = Int64.ofNat b := nl_eq.mpr (by rw [Int32.toInt_toInt64, nl_ofNat (by omega), hb2])
      rw [h64, show min k 8 = k by omega, show min (k + 1) 8 = k + 1 by omega, pk_sh (pkk_7 (by omega) (fun q hq => (ltr_iff.mp (ll_lt (n := n) q j (by omega))).2)) (by omega)]
      have e : pk (S.1 146) j k * 256 + b = pk (S.1 146) j (k + 1) := by
        show _ = pk (S.1 146) j k * 256 + (S.1 146 (j + k)).toInt.toNat
        omega
      rw [e]
end
