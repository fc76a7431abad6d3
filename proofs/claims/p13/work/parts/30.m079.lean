section
variable {S : fS} {n : Nat} {s f : Int32}
theorem ct_stair (hn : S.1 1 1 = o3 n) (hl : n ≤ 400) {B : TB} (hB : TBc S B) (hok : okB B) (h12 : B.2.1.length < 12) {i : Nat} (hi : i ≤ n) : ∃ S' i' s', f_X9_readStair (tS S (o3 i) s f) = some (if (tSt (S.1 2) n B i).1 = 0 then (1, tS S' (o3 (tSt (S.1 2) n B i).2.1) s' f) else (0, tS S i' s' (o3 (tSt (S.1 2) n B i).1))) ∧ ((tSt (S.1 2) n B i).1 = 0 → TBc S' (tSt (S.1 2) n B i).2.2) := by
  have hm : B.1.length < 1000000 := by have := hok.1; omega
  have hi1 := nmp_le (t := S.1 2) hi
  have hi2 := nmp_le (t := S.1 2) hi1
  have hi3 := nmp_le (t := S.1 2) hi2
  unfold f_X9_readStair
  rw [tS_ne (by decide), hB.1.1, ct_num hn hl hi, bd_some, o3_p hm, ni_0]
  unfold tSt
  by_cases c1 : nmf (S.1 2) n i 0 (B.1.length - 1) = 0
  · have g1 := (nmf_0 c1).2.2
    rw [if_pos c1, if_pos c1]
    dsimp only
    rw [if_pos (o3_0le (by omega)), tS_ne (by decide), hB.1.1, ct_num hn hl hi1, bd_some, o3_p hm, ni_0]
    by_cases c2 : nmf (S.1 2) n (nmp (S.1 2) n i) 0 (B.1.length - 1) = 0
    · have g2 := (nmf_0 c2).2.2
      rw [if_pos c2, if_pos c2]
      dsimp only
      rw [if_pos (o3_0le (by omega))]
      by_cases c3 : nmv (S.1 2) n i = nmv (S.1 2) n (nmp (S.1 2) n i)
      · rw [if_pos ((o3_inj (by omega) (by omega)).mpr c3), if_pos c3, ct_fail, bd_some, tS_3]
        refine ⟨S, o3 (nmp (S.1 2) n (nmp (S.1 2) n i)), o3 (sk (S.1 2) n (nmp (S.1 2) n i)), ?_, fun q => absurd q (by show ¬ (1 + 8 * _ + 1 = 0); omega)⟩
        rw [if_neg (by show ¬ (1 + 8 * _ + 1 = 0); omega)]
        show some (0, pI (tS S _ _ f) 1 4 _) = _
        rw [tS_fa, show (1 : Int32) = o3 1 from rfl, show (8 : Int32) = o3 8 from rfl, o3_mul, o3_add, o3_add]
      · rw [if_neg (fun q => c3 ((o3_inj (by omega) (by omega)).mp q)), if_neg c3, ct_num hn hl hi2, bd_some, l1_20.1, l1_20.2.2]
        by_cases c4 : nmf (S.1 2) n (nmp (S.1 2) n (nmp (S.1 2) n i)) 1 9 = 0
        · have g4 := (nmf_0 c4).2.2
          rw [if_pos c4, if_pos c4]
          dsimp only
          rw [if_pos (o3_0le (by omega)), ct_pace hn hl hi3, bd_some]
          unfold tPc
          generalize nmp (S.1 2) n (nmp (S.1 2) n (nmp (S.1 2) n i)) = p at hi3
          by_cases c5 : nmf (S.1 2) n p 1 20 = 0
          · have g5 := (nmf_0 c5).2.2
            rw [if_pos c5, if_pos c5]
            by_cases c6 : nmf (S.1 2) n (nmp (S.1 2) n p) 1 20 = 0
            · have g6 := (nmf_0 c6).2.2
              rw [if_pos c6, if_pos c6]
              dsimp only
              rw [if_pos (pc_nn ⟨by show 1 ≤ nmv _ _ _; omega, by show nmv _ _ _ ≤ 20; omega, by show 1 ≤ nmv _ _ _; omega, by show nmv _ _ _ ≤ 20; omega⟩), ct_addStair hB.1.2.1 h12, bd_some]
              exact ⟨_, 0, _, rfl, fun _ => upS_B hB⟩
            · rw [if_neg c6, if_neg c6]
              exact ⟨S, _, _, by dsimp only; rw [if_neg (by decide), if_neg c6], fun q => absurd q c6⟩
          · rw [if_neg c5, if_neg c5]
            exact ⟨S, _, _, by dsimp only; rw [if_neg (by decide), if_neg c5], fun q => absurd q c5⟩
        · rw [if_neg c4, if_neg c4]
          exact ⟨S, _, _, by dsimp only; rw [if_neg (by decide), if_neg c4], fun q => absurd q c4⟩
    · rw [if_neg c2, if_neg c2]
      exact ⟨S, _, _, by dsimp only; rw [if_neg (by decide), if_neg c2], fun q => absurd q c2⟩
  · rw [if_neg c1, if_neg c1]
    exact ⟨S, _, _, by dsimp only; rw [if_neg (by decide), if_neg c1], fun q => absurd q c1⟩
end
