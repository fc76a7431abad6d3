section
variable {S : fS} {n : Nat} {w u : Int32}
theorem mt_passlp (hn : S.1 145 1 = o3 n) (hl : n ≤ 400) {K : fS → Option fS} : ∀ d j m, ll (S.1 146) n j = d → j ≤ n → d < m → lp_X11_passWord_0 K m (mS S (o3 j) w u) = K (mS S (o3 (j + ll (S.1 146) n j)) w u) := by
  intro d
  induction d with
  | zero =>
    intro j m h1 h2 h3
    obtain ⟨m, rfl⟩ : ∃ m', m = m' + 1 := ⟨m - 1, by omega⟩
    have hE : ¬ ltr (S.1 146) n j = true := fun q => by
      have := ll_1 q
      omega
    rw [lp_X11_passWord_0.eq_2, mS_13, mt_letter hl (X := mS S (o3 j) w u) (by rw [mS_1, hn]) (by omega), bd_some, mS_t, if_neg hE, if_pos rfl, h1]
    rfl
  | succ d ih =>
    intro j m h1 h2 h3
    obtain ⟨m, rfl⟩ : ∃ m', m = m' + 1 := ⟨m - 1, by omega⟩
    have hg := ll_lt (t := S.1 146) (n := n) 0 j (by omega)
    have hg : ltr (S.1 146) n j = true := hg
    have h4 := ll_1 hg
    have h5 := (ltr_iff.mp hg).1
    rw [lp_X11_passWord_0.eq_2, mS_13, mt_letter hl (X := mS S (o3 j) w u) (by rw [mS_1, hn]) (by omega), bd_some, mS_t, if_pos hg, if_neg (by decide), bd_some, mS_nx, o3_s, ih (j + 1) m (by omega) (by omega) (by omega), h4, show j + 1 + ll (S.1 146) n (j + 1) = j + (ll (S.1 146) n (j + 1) + 1) by omega]
end
