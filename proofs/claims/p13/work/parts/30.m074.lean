section
variable {S : fS} {n : Nat} {s f : Int32}
theorem ct_floor (hn : S.1 1 1 = o3 n) (hl : n ≤ 400) {B : TB} (hB : TBc S B) (h10 : B.1.length < 10) {i : Nat} (hi : i ≤ n) : ∃ S' i' s', f_X9_readFloor (tS S (o3 i) s f) = some (if (tFl (S.1 2) n B i).1 = 0 then (1, tS S' (o3 (tFl (S.1 2) n B i).2.1) s' f) else (0, tS S i' s' (o3 (tFl (S.1 2) n B i).1))) ∧ ((tFl (S.1 2) n B i).1 = 0 → TBc S' (tFl (S.1 2) n B i).2.2) := by
  unfold f_X9_readFloor
  rw [ct_pace hn hl hi, bd_some]
  unfold tFl
  by_cases c1 : nmf (S.1 2) n i 1 20 = 0
  · have g1 := (nmf_0 c1).2.2
    rw [if_pos c1, if_pos c1]
    by_cases c2 : nmf (S.1 2) n (nmp (S.1 2) n i) 1 20 = 0
    · have g2 := (nmf_0 c2).2.2
      rw [if_pos c2, if_pos c2]
      dsimp only
      rw [if_pos (pc_nn ⟨by show 1 ≤ nmv _ _ _; omega, by show nmv _ _ _ ≤ 20; omega, by show 1 ≤ nmv _ _ _; omega, by show nmv _ _ _ ≤ 20; omega⟩), tS_ne (by decide), hB.1.1, sL_o (by omega) (by omega), bd_some, bd_some, tS_pL, tS_ne (by decide), tS_pI (by decide), pL_1, hB.1.1, o3_s]
      exact ⟨upF S B.1.length (pc (nmv (S.1 2) n i, nmv (S.1 2) n (nmp (S.1 2) n i))), 0, _, rfl, fun _ => upF_B hB⟩
    · rw [if_neg c2, if_neg c2]
      exact ⟨S, _, _, by dsimp only; rw [if_neg (by decide), if_neg c2], fun q => absurd q c2⟩
  · rw [if_neg c1, if_neg c1]
    exact ⟨S, _, _, by dsimp only; rw [if_neg (by decide), if_neg c1], fun q => absurd q c1⟩
end
