section
variable {S : fS} {n : Nat} {s f : Int32}
theorem ct_thing (hn : S.1 1 1 = o3 n) (hl : n ≤ 400) {B : TB} (hB : TBc S B) (hok : okB B) (h8 : B.2.2.length < 8) {i : Nat} (hi : i ≤ n) : ∃ S' i' s', f_X9_readThing (tS S (o3 i) s f) = some (if (tTh (S.1 2) n B i).1 = 0 then (1, tS S' (o3 (tTh (S.1 2) n B i).2.1) s' f) else (0, tS S i' s' (o3 (tTh (S.1 2) n B i).1))) ∧ ((tTh (S.1 2) n B i).1 = 0 → TBc S' (tTh (S.1 2) n B i).2.2) := by
  have hm : B.1.length < 1000000 := by have := hok.1; omega
  unfold f_X9_readThing
  rw [tS_ne (by decide), hB.1.1, ct_num hn hl hi, bd_some, o3_p hm, ni_0]
  unfold tTh
  by_cases c1 : nmf (S.1 2) n i 0 (B.1.length - 1) = 0
  · have g1 := (nmf_0 c1).2.2
    rw [if_pos c1, if_pos c1]
    dsimp only
    rw [if_pos (o3_0le (by omega)), ct_addThing hB.2.1 h8, bd_some]
    exact ⟨_, 0, _, rfl, fun _ => upT_B hB⟩
  · rw [if_neg c1, if_neg c1]
    exact ⟨S, _, _, by dsimp only; rw [if_neg (by decide), if_neg c1], fun q => absurd q c1⟩
end
