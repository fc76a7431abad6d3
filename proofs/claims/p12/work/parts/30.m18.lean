section
theorem m_reads {S : fS} {n : Nat} (hn : S.1 145 1 = o3 n) (hl : n ≤ 400) (hb : ∀ k, byt (S.1 146 k)) (h16 : S.1 145 16 = 6) (h7 : S.1 145 7 = 0) (h8 : S.1 145 8 = 0) (h9 : S.1 145 9 = 0) : ∃ Y, f_X11_readsAll S = some (if (tw0 (S.1 146) n).1 = 0 then 1 else 0, Y) ∧ Y.1 145 1 = 0 ∧ ((tw0 (S.1 146) n).1 = 0 → TBm Y (tw0 (S.1 146) n).2) ∧ (¬ (tw0 (S.1 146) n).1 = 0 → Y.1 145 14 = o3 (tw0 (S.1 146) n).1) ∧ eD S Y := by
  have hfl : (tw0 (S.1 146) n).1 ≤ 8 * n + 10 := tall_fl 25 0 0 _ (Nat.zero_le _)
  rw [rd_eq, h16, show (6 : Int32) = o3 6 from rfl, sI_o (by omega) (by omega), bd_some, bd_some, bd_some, bd_some, bd_some]
  rw [mS_mk, mS_p (by omega)]
  generalize hX : pI (pI (pI S 148 6 0) 145 19 0) 145 17 0 = X
  generalize hu : (pI (pI S 148 6 0) 145 19 0).1 145 15 = u
  have hD0 : eD S X := by
    rw [← hX]
    exact ((eD_pI (by unfold wR; omega)).tr (eD_pI (by unfold wR; omega))).tr (eD_pI (by unfold wR; omega))
  have hXn : X.1 145 1 = o3 n := by rw [← hX, pI_ne (by omega), pI_ne (by omega), pI_ne (by omega)]; exact hn
  have hXt : X.1 146 = S.1 146 := by rw [← hX]; exact funext fun k => by rw [pI_ne (by omega), pI_ne (by omega), pI_ne (by omega)]
  have hX16 : X.1 145 16 = 6 := by rw [← hX, pI_ne (by omega), pI_ne (by omega), pI_ne (by omega)]; exact h16
  have hX7 : X.1 145 7 = 0 := by rw [← hX, pI_ne (by omega), pI_ne (by omega), pI_ne (by omega)]; exact h7
  have hX8 : X.1 145 8 = 0 := by rw [← hX, pI_ne (by omega), pI_ne (by omega), pI_ne (by omega)]; exact h8
  have hX9 : X.1 145 9 = 0 := by rw [← hX, pI_ne (by omega), pI_ne (by omega), pI_ne (by omega)]; exact h9
  have hX19 : X.1 145 19 = o3 0 := by rw [← hX, pI_ne (by omega), pI_eq]; rfl
  have hB : TBm X ([], [], []) := ⟨hX7, hX8, hX9, fun k hk => absurd hk (Nat.not_lt_zero _), fun k hk => absurd hk (Nat.not_lt_zero _), fun k hk => absurd hk (Nat.not_lt_zero _)⟩
  have hok : okB ([], [], []) := ⟨by decide, by decide, by decide, fun q hq => absurd hq List.not_mem_nil, fun q hq => absurd hq List.not_mem_nil, fun q hq => absurd hq List.not_mem_nil⟩
  obtain ⟨S1, u1, i1, e1, f1, g1⟩ := mc_clause (u := u) hXn hl hB hok (c := 0) (by omega) hX19 hX16 (i := 0) (by omega)
  rw [hXt] at e1 g1
  have e1' : f_X11_clauseHere (mS X 0 0 u) = some (if (tcl (S.1 146) n 0 ([], [], []) 0).1 = 0 then (1, mS S1 (o3 (tcl (S.1 146) n 0 ([], [], []) 0).2.1) 0 u1) else (0, mS S1 i1 (o3 (tcl (S.1 146) n 0 ([], [], []) 0).1) u1)) := e1
  rw [e1', bd_some]
  have htw : tw0 (S.1 146) n = if (tcl (S.1 146) n 0 ([], [], []) 0).1 = 0 then tl (S.1 146) n 24 1 (tcl (S.1 146) n 0 ([], [], []) 0).2.1 (tcl (S.1 146) n 0 ([], [], []) 0).2.2 else ((tcl (S.1 146) n 0 ([], [], []) 0).1, ([], [], [])) := rfl
  have bad : ∀ (S2 : fS) (i2 u2 : Int32) (r : Nat), r ≠ 0 → r ≤ 8 * n + 10 → eD S S2 → rdK 0 (mS S2 i2 (o3 r) u2) = some (0, pI (mS S2 i2 (o3 r) u2) 145 1 0) ∧ (pI (mS S2 i2 (o3 r) u2) 145 1 0).1 145 14 = o3 r ∧ eD S (pI (mS S2 i2 (o3 r) u2) 145 1 0) := by
    intro S2 i2 u2 r h0 hr hD
    refine ⟨?_, ?_, (hD.tr eD_mS).tr (eD_pI (by unfold wR; omega))⟩
    · rw [rd_0, mS_14, if_neg (o3_ne0 (by omega) h0)]
    · rw [pI_ne (by omega), mS_14]
  by_cases hz : (tcl (S.1 146) n 0 ([], [], []) 0).1 = 0
  · rw [if_pos hz]
    rw [if_pos hz] at htw
    dsimp only
    have hle := tcl_le (t := S.1 146) (n := n) (c := 0) (B := ([], [], [])) (i := 0) (Nat.zero_le _) hz
    have f1' := f1
    obtain ⟨S2, u2, i2, w2, g2, e2, f2, m2⟩ := ml_loop hl hb (K := rdK) 23 1 FU _ S1 _ u1 (by rw [f1.1 145 1 (by unfold wM; omega)]; exact hXn) (by rw [← hXt]; exact funext fun k => f1.1 146 k (by unfold wM; omega)) (g1 hz).1 (tcl_ok hok hz).1 (tcl_ne hz) (g1 hz).2 (by rw [f1.1 145 16 (by unfold wM; omega)]; exact hX16) hle.1 (by omega) (FU_lt (by omega))
    rw [e2, htw]
    rw [htw] at hfl
    have hD2 : eD S S2 := hD0.tr ((eD_of f1).tr (eD_of f2))
    have hn2 : S2.1 145 1 = o3 n := by rw [f2.1 145 1 (by unfold wM; omega), f1.1 145 1 (by unfold wM; omega)]; exact hXn
    have ht2 : S2.1 146 = S.1 146 := by rw [← hXt]; exact funext fun k => by rw [f2.1 146 k (by unfold wM; omega), f1.1 146 k (by unfold wM; omega)]
    have h162 : S2.1 145 16 = 6 := by rw [f2.1 145 16 (by unfold wM; omega), f1.1 145 16 (by unfold wM; omega)]; exact hX16
    rcases m2 with ⟨r0, rfl, rfl, ⟨j, rfl, hj1, hj2⟩, hT, hne, hok2⟩ | ⟨r0, rfl, rfl⟩ | ⟨j, r0, rfl, rfl, rfl, hj1, hj2⟩
    · have hsee := mt_see (w := 0) (u := u2) hn2 hl (i := j) hj2
      have hsk := sk_ge (t := S2.1 146) (n := n) (i := j)
      rw [(seen_no (by rw [ht2]; exact hb)).mpr (by omega)] at hsee
      have hlen := hok2.1
      rw [rd_2 hsee (by rw [mS_ne (by omega)]; exact h162) (by rw [mS_ne (by omega), hT.1]; exact o3_ne0 (by omega) (by omega)) (by rw [mS_14]), if_pos r0]
      refine ⟨_, rfl, by rw [pI_eq], fun _ => TBm_cg (fun k hk => by rw [pI_ne (by omega), mS_ne (by omega)]) (fun a k ha => by rw [pI_ne (by omega), mS_ne (by omega)]) hT, fun q => absurd r0 q, (hD2.tr eD_mS).tr (eD_pI (by unfold wR; omega))⟩
    · obtain ⟨b1, b2, b3⟩ := bad S2 i2 u2 _ r0 hfl hD2
      rw [b1, if_neg r0]
      exact ⟨_, rfl, by rw [pI_eq], fun q => absurd q r0, fun _ => b2, b3⟩
    · have hsee := mt_see (w := 0) (u := u2) hn2 hl (i := j) (by omega)
      rw [ht2, hj2] at hsee
      have r1 : ¬ (tl (S.1 146) n 24 1 (tcl (S.1 146) n 0 ([], [], []) 0).2.1 (tcl (S.1 146) n 0 ([], [], []) 0).2.2).1 = 0 := by
        show ¬ (tl (S.1 146) n (23 + 1) 1 _ _).1 = 0
        rw [r0]; omega
      have hval : (1 + 8 * o3 j + 0 : Int32) = o3 (1 + 8 * j) := by rw [show (1 : Int32) = o3 1 from rfl, show (8 : Int32) = o3 8 from rfl, show (0 : Int32) = o3 0 from rfl, o3_mul, o3_add, o3_add]; rfl
      rw [rd_1 hsee (fun q => (seen_no hb).mp q hj1) (by rw [mS_14]), mS_13, hval, if_neg (o3_ne0 (by omega) (by omega)), if_neg r1]
      refine ⟨_, rfl, by rw [pI_eq], fun q => absurd q r1, fun _ => ?_, ((hD2.tr eD_mS).tr (eD_pI (by unfold wR; omega))).tr (eD_pI (by unfold wR; omega))⟩
      rw [pI_ne (by omega), pI_eq]
      show o3 (1 + 8 * j) = o3 (tl (S.1 146) n (23 + 1) 1 _ _).1
      rw [r0]
  · rw [if_neg hz]
    rw [if_neg hz] at htw
    dsimp only
    have hzf : (tcl (S.1 146) n 0 ([], [], []) 0).1 ≤ 8 * n + 10 := tcl_fl (Nat.zero_le _)
    obtain ⟨mm, hF⟩ := op_FU
    rw [hF, lp_X11_readsAll_35.eq_2, if_pos (show (0 : Int32) = 0 from rfl), htw]
    obtain ⟨b1, b2, b3⟩ := bad S1 i1 u1 _ hz hzf (hD0.tr (eD_of f1))
    rw [b1, if_neg hz]
    exact ⟨_, rfl, by rw [pI_eq], fun q => absurd q hz, fun _ => b2, b3⟩
end
