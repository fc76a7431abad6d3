section
theorem t_34 (a1 : Int32) (S : fS) (hR : Rel S) : ∃ r r', f_X10_count a1 S = some r ∧ f_X11_count a1 S = some r' ∧ Rel S := by
  have hR0 := hR
  obtain ⟨n, s, L, M, hT, ⟨⟨n1, n2, n3, n4, n5, n6⟩, ⟨b1, b2, b3, b4, b5⟩, ⟨m1, m2, m3, m4⟩, d⟩, hL, hM⟩ := hR
  have h12 := n6.1
  have h8 := n5.1
  have hg4 : gI S 157 158 4 = some (o3 s.2.2.2.1) := (gI_o (k := 4) (by omega) (by omega)).trans (congrArg some m3.1)
  have hc4 : S.1 17 4 = o3 s.2.2.2.1 := b4.1
  have q1 : ∀ dd k nn (p : Int32), k + dd = s.2.2.2.1 → dd < nn → ∃ r, lp_X2_earlyOnes_4 17 4 S (fun u6 => some u6) nn p (o3 k) = some r := by
    intro dd
    induction dd with
    | zero =>
      intro k nn p hk hnn
      obtain ⟨nn, rfl⟩ : ∃ z, nn = z + 1 := ⟨nn - 1, by omega⟩
      rw [lp_X2_earlyOnes_4.eq_2, hc4, if_pos ((o3_le (by omega) (by omega)).mpr (by omega))]
      exact ⟨_, rfl⟩
    | succ dd ih =>
      intro k nn p hk hnn
      obtain ⟨nn, rfl⟩ : ∃ z, nn = z + 1 := ⟨nn - 1, by omega⟩
      rw [lp_X2_earlyOnes_4.eq_2, hc4, if_neg (fun q => by have := (o3_le (by omega) (by omega)).mp q; omega), (pc_sent b1 b4 n3 n1 n6 (show k < s.2.2.2.1 by omega)).2.2, bd_some, o3_s]
      split
      · exact ih (k + 1) nn _ (by omega) (by omega)
      · exact ih (k + 1) nn _ (by omega) (by omega)
  have q2 : ∀ dd k nn (p : Int32), k + dd = s.2.2.2.1 → dd < nn → ∃ r, lp_X11_count_79 S (fun u6 => some u6) nn p (o3 k) = some r := by
    intro dd
    induction dd with
    | zero =>
      intro k nn p hk hnn
      obtain ⟨nn, rfl⟩ : ∃ z, nn = z + 1 := ⟨nn - 1, by omega⟩
      rw [lp_X11_count_79.eq_2, hg4, bd_some, if_pos ((o3_le (by omega) (by omega)).mpr (by omega))]
      exact ⟨_, rfl⟩
    | succ dd ih =>
      intro k nn p hk hnn
      obtain ⟨nn, rfl⟩ : ∃ z, nn = z + 1 := ⟨nn - 1, by omega⟩
      rw [lp_X11_count_79.eq_2, hg4, bd_some, if_neg (fun q => by have := (o3_le (by omega) (by omega)).mp q; omega), (pm_all m1 m3 d n3 n1 n6 (show k < s.2.2.2.1 by omega)).2.2, bd_some, o3_s]
      split
      · exact ih (k + 1) nn _ (by omega) (by omega)
      · exact ih (k + 1) nn _ (by omega) (by omega)
  have q3 : ∀ dd k nn (p : Int32), k + dd = s.2.2.1.1 → dd < nn → ∃ r, lp_X0_going_4 11 S (fun u6 => some u6) nn p (o3 k) = some r := by
    intro dd
    induction dd with
    | zero =>
      intro k nn p hk hnn
      obtain ⟨nn, rfl⟩ : ∃ z, nn = z + 1 := ⟨nn - 1, by omega⟩
      rw [lp_X0_going_4.eq_2, show S.1 11 5 = _ from b3.1, if_pos ((o3_le (by omega) (by omega)).mpr (by omega))]
      exact ⟨_, rfl⟩
    | succ dd ih =>
      intro k nn p hk hnn
      obtain ⟨nn, rfl⟩ : ∃ z, nn = z + 1 := ⟨nn - 1, by omega⟩
      rw [lp_X0_going_4.eq_2, show S.1 11 5 = _ from b3.1, if_neg (fun q => by have := (o3_le (by omega) (by omega)).mp q; omega), o3_s]
      unfold f_X0_isStanding
      rw [gI_o (by omega) (by omega), bd_some]
      by_cases h0 : S.1 (11 + 1) k < 0
      · rw [if_pos h0, bd_some, if_pos rfl]
        exact ih (k + 1) nn _ (by omega) (by omega)
      · rw [if_neg h0, bd_some, if_neg (by decide)]
        exact ih (k + 1) nn _ (by omega) (by omega)
  have q4 : ∀ dd k nn (p : Int32), k + dd = s.2.2.1.1 → dd < nn → ∃ r, lp_X11_count_115 S (fun u6 => some u6) nn p (o3 k) = some r := by
    intro dd
    induction dd with
    | zero =>
      intro k nn p hk hnn
      obtain ⟨nn, rfl⟩ : ∃ z, nn = z + 1 := ⟨nn - 1, by omega⟩
      rw [lp_X11_count_115.eq_2, show (2 : Int32) = o3 2 from rfl, gI_o (by omega) (by omega), bd_some, m2.1, if_pos ((o3_le (by omega) (by omega)).mpr (by omega))]
      exact ⟨_, rfl⟩
    | succ dd ih =>
      intro k nn p hk hnn
      obtain ⟨nn, rfl⟩ : ∃ z, nn = z + 1 := ⟨nn - 1, by omega⟩
      rw [lp_X11_count_115.eq_2, show (2 : Int32) = o3 2 from rfl, gI_o (by omega) (by omega), bd_some, m2.1, if_neg (fun q => by have := (o3_le (by omega) (by omega)).mp q; omega), o3_s, show f_X11_thingOf (o3 k) 0 S = _ from mw_thing (a := 0) (by omega) (by omega), bd_some]
      split
      · exact ih (k + 1) nn _ (by omega) (by omega)
      · exact ih (k + 1) nn _ (by omega) (by omega)
  have rc : ∃ r, f_X10_count a1 S = some r := by
    unfold f_X10_count
    split
    · exact ⟨_, rfl⟩
    split
    · exact ⟨_, rfl⟩
    split
    · exact ⟨_, rfl⟩
    split
    · exact ⟨_, rfl⟩
    split
    · exact ⟨_, rfl⟩
    split
    · exact ⟨_, rfl⟩
    split
    · obtain ⟨r, e⟩ := q1 s.2.2.2.1 0 FU 0 (by omega) (FU_lt (by omega))
      rw [show f_X2_earlyOnes 17 4 S = some r from e, bd_some]; exact ⟨_, rfl⟩
    split
    · obtain ⟨r, e⟩ := q3 s.2.2.1.1 0 FU 0 (by omega) (FU_lt (by omega))
      rw [show f_X0_going 11 S = some r from e, bd_some]; exact ⟨_, rfl⟩
    split
    · exact ⟨_, rfl⟩
    split <;> exact ⟨_, rfl⟩
  have rm : ∃ r, f_X11_count a1 S = some r := by
    unfold f_X11_count
    by_cases h0 : a1 = 0
    · rw [if_pos h0, h0, show (0 : Int32) = o3 0 from rfl, gI_o (by omega) (by omega), bd_some]; exact ⟨_, rfl⟩
    rw [if_neg h0]
    by_cases h1 : a1 = 1
    · rw [if_pos h1, h1, show (1 : Int32) = o3 1 from rfl, gI_o (by omega) (by omega), bd_some]; exact ⟨_, rfl⟩
    rw [if_neg h1]
    by_cases h2 : a1 = 2
    · rw [if_pos h2, h2, show (2 : Int32) = o3 2 from rfl, gI_o (by omega) (by omega), bd_some]; exact ⟨_, rfl⟩
    rw [if_neg h2]
    by_cases h3 : a1 = 3
    · rw [if_pos h3]; exact ⟨_, rfl⟩
    rw [if_neg h3]
    by_cases h4 : a1 = 4
    · rw [if_pos h4, h4, show (4 : Int32) - 1 = o3 3 from rfl, gI_o (by omega) (by omega), bd_some]; exact ⟨_, rfl⟩
    rw [if_neg h4]
    by_cases h5 : a1 = 5
    · rw [if_pos h5, h5, show (5 : Int32) - 1 = o3 4 from rfl, gI_o (by omega) (by omega), bd_some]; exact ⟨_, rfl⟩
    rw [if_neg h5]
    by_cases h6 : a1 = 6
    · rw [if_pos h6]; exact q2 s.2.2.2.1 0 FU 0 (by omega) (FU_lt (by omega))
    rw [if_neg h6]
    by_cases h7 : a1 = 7
    · rw [if_pos h7]; exact q4 s.2.2.1.1 0 FU 0 (by omega) (FU_lt (by omega))
    rw [if_neg h7]
    by_cases h8 : a1 = 8
    · rw [if_pos h8, show (5 : Int32) = o3 5 from rfl, gI_o (by omega) (by omega), bd_some]; exact ⟨_, rfl⟩
    rw [if_neg h8]
    split <;> exact ⟨_, rfl⟩
  obtain ⟨r, e1⟩ := rc
  obtain ⟨r', e2⟩ := rm
  exact ⟨r, r', e1, e2, hR0⟩
end
