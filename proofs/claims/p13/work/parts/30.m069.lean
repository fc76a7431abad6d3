section
variable {S : fS} {n : Nat} {s f : Int32}
theorem ct_pace (hn : S.1 1 1 = o3 n) (hl : n ≤ 400) {i : Nat} (hi : i ≤ n) : f_X9_readPace (tS S (o3 i) s f) = some (if nmf (S.1 2) n i 1 20 = 0 then (if nmf (S.1 2) n (nmp (S.1 2) n i) 1 20 = 0 then (pc (nmv (S.1 2) n i, nmv (S.1 2) n (nmp (S.1 2) n i)), tS S (o3 (nmp (S.1 2) n (nmp (S.1 2) n i))) (o3 (sk (S.1 2) n (nmp (S.1 2) n i))) f) else (-1, tS S (o3 (nmp (S.1 2) n (nmp (S.1 2) n i))) (o3 (sk (S.1 2) n (nmp (S.1 2) n i))) (o3 (nmf (S.1 2) n (nmp (S.1 2) n i) 1 20)))) else (-1, tS S (o3 (nmp (S.1 2) n i)) (o3 (sk (S.1 2) n i)) (o3 (nmf (S.1 2) n i 1 20)))) := by
  have h2 := nmp_le (t := S.1 2) hi
  unfold f_X9_readPace
  rw [ct_num hn hl hi, bd_some, l1_20.1, l1_20.2.1]
  by_cases c1 : nmf (S.1 2) n i 1 20 = 0
  · have g1 := (nmf_0 c1).2.2
    rw [if_pos c1, if_pos c1]
    dsimp only
    rw [if_pos (o3_0le (by omega)), ct_num hn hl h2, bd_some, l1_20.1, l1_20.2.1]
    by_cases c2 : nmf (S.1 2) n (nmp (S.1 2) n i) 1 20 = 0
    · have g2 := (nmf_0 c2).2.2
      rw [if_pos c2, if_pos c2]
      dsimp only
      rw [if_pos (show (0 : Int32) < o3 _ from (o3_lt (a := 0) (by omega) (by omega)).mpr (by omega)), o6_of3 (by omega), o6_of3 (by omega), show (232792560 : Int64) = o6 232792560 from rfl, o6_dL (by omega) (by omega) (by omega), bd_some, o6_mul]
      rfl
    · rw [if_neg c2, if_neg c2]
      rfl
  · rw [if_neg c1, if_neg c1]
    rfl
end
