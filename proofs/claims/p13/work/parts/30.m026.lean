section
variable {S : fS} {n : Nat} {w u : Int32}
theorem mt_seelp (hn : S.1 145 1 = o3 n) (hl : n ≤ 400) {K : fS → Option (Int32 × fS)} : ∀ d i m, n - i = d → i ≤ n → d < m → lp_X11_see_0 K m (mS S (o3 i) w u) = K (mS S (o3 (sk (S.1 146) n i)) w u) := by
  intro d
  induction d with
  | zero =>
    intro i m h1 h2 h3
    obtain ⟨m, rfl⟩ : ∃ m', m = m' + 1 := ⟨m - 1, by omega⟩
    rw [lp_X11_see_0.eq_2, mS_1, mS_13, hn, if_pos ((o3_le (by omega) (by omega)).mpr (by omega)), sk_0 (by omega)]
  | succ d ih =>
    intro i m h1 h2 h3
    obtain ⟨m, rfl⟩ : ∃ m', m = m' + 1 := ⟨m - 1, by omega⟩
    rw [lp_X11_see_0.eq_2, mS_1, mS_13, hn, if_neg (fun q => by have := (o3_le (by omega) (by omega)).mp q; omega), gI_o (by omega) (by omega), bd_some, mS_t]
    by_cases hb : S.1 146 i = 32
    · rw [if_pos hb, bd_some, mS_nx, o3_s, ih (i + 1) m (by omega) (by omega) (by omega), sk_1 (by omega) hb]
    · rw [if_neg hb, sk_0 (fun q => hb q.2)]
end
