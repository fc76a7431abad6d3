section
section CL3
variable {S : fS} {m n : Nat} {c : List (Nat × Nat)} {s f : Int32}
theorem cl_clause (hn : S.1 1 1 = o3 n) (hl : n ≤ 400) (hR : RM S m c) (hm : m ≤ 60) {k i : Nat} (hk : k ≤ 12) (hci : c.length ≤ i) (hi : i ≤ n) : ∃ S' i' s', f_X5_readClause (o3 k) (tS S (o3 i) s f) = some (if (rcl (S.1 2) n k m i).1 = 0 then (1, tS S' (o3 (rcl (S.1 2) n k m i).2.1) s' f) else (0, tS S' i' s' (o3 (rcl (S.1 2) n k m i).1))) ∧ eQ S S' ∧ ((rcl (S.1 2) n k m i).1 = 0 → RM S' (rcl (S.1 2) n k m i).2.2.1 (c ++ ccl (rcl (S.1 2) n k m i).2.2.2) ∧ (c ++ ccl (rcl (S.1 2) n k m i).2.2.2).length ≤ (rcl (S.1 2) n k m i).2.1 ∧ (rcl (S.1 2) n k m i).2.1 ≤ n ∧ (rcl (S.1 2) n k m i).2.2.1 ≤ 60 ∧ k < 12 ∧ i < (rcl (S.1 2) n k m i).2.1) := by
  have hj := sk_le (t := S.1 2) hi
  have hg := sk_ge (t := S.1 2) (n := n) (i := i)
  unfold f_X5_readClause rcl
  rw [ct_word hn hl (w := 3) (by decide) hi, bd_some]
  generalize sk (S.1 2) n i = j at hj hg
  by_cases w0 : wat (S.1 2) n (mm_sb.getD 3 []) j = true
  · rw [if_pos w0, if_pos w0]
    have hw : j + 2 ≤ n := wat_le hj w0
    dsimp only
    rw [if_neg (show ¬ (1 : Int32) = 0 by decide)]
    by_cases hk12 : 12 ≤ k
    · rw [if_neg (show ¬ o3 _ < (12 : Int32) from fun q => by have := (o3_lt (b := 12) (by omega) (by omega)).mp q; omega), if_pos hk12, ct_fail, bd_some, tS_3, tS_fa, show (1 : Int32) = o3 1 from rfl, show (8 : Int32) = o3 8 from rfl, show (4 : Int32) = o3 4 from rfl, o3_mul, o3_add, o3_add]
      refine ⟨S, o3 (j + (mm_sb.getD 3 []).length), o3 j, ?_, eQ.rf, fun q => absurd q (show ¬ (1 + 8 * j + 4 = 0) by omega)⟩
      rw [if_neg (show ¬ (1 + 8 * j + 4 = 0) by omega)]
      rfl
    · rw [if_pos (show o3 _ < (12 : Int32) from (o3_lt (b := 12) (by omega) (by omega)).mpr (by omega)), if_neg hk12, show j + (mm_sb.getD 3 []).length = j + 2 from rfl, ct_num hn hl hw, bd_some, ni_0, l1_20.2.2]
      have hp := nmp_le (t := S.1 2) hw
      by_cases h0 : nmf (S.1 2) n (j + 2) 0 9 = 0
      · have g := (nmf_0 h0).2.2
        have hpg := nmp_gt h0
        rw [if_pos h0, if_pos h0]
        dsimp only
        rw [if_pos (o3_0le (by omega)), ct_word hn hl (w := 4) (by decide) hp, bd_some]
        have hq := sk_le (t := S.1 2) hp
        have hqg := sk_ge (t := S.1 2) (n := n) (i := nmp (S.1 2) n (j + 2))
        generalize sk (S.1 2) n (nmp (S.1 2) n (j + 2)) = q at hq hqg
        by_cases w1 : wat (S.1 2) n (mm_sb.getD 4 []) q = true
        · have hw1 : q + 2 ≤ n := wat_le hq w1
          rw [if_pos w1, if_pos w1]
          dsimp only
          rw [if_neg (show ¬ (1 : Int32) = 0 by decide), show q + (mm_sb.getD 4 []).length = q + 2 from rfl]
          obtain ⟨S1, i1, s1, e1, e2, e3⟩ := cl_test (s := o3 q) (f := f) hn hl hR hm (i := q + 2) (by omega) hw1
          rw [e1, bd_some]
          by_cases hr : (run (S.1 2) n (n + 1) (true, false, m, [], [], q + 2)).1 = 0
          · obtain ⟨l1, l2, l3⟩ := run_len hl hm hw1 hr
            rw [if_pos hr, if_pos hr]
            dsimp only
            rw [if_neg (show ¬ (1 : Int32) = 0 by decide), if_neg (show ¬ (1 : Int32) = 0 by decide)]
            have hlen1 : (c ++ (run (S.1 2) n (n + 1) (true, false, m, [], [], q + 2)).2.2.2).length = c.length + (run (S.1 2) n (n + 1) (true, false, m, [], [], q + 2)).2.2.2.length := List.length_append
            obtain ⟨S2, g1, g2, g3⟩ := cl_write (a := 1) (v := nmv (S.1 2) n (j + 2)) (i := o3 (run (S.1 2) n (n + 1) (true, false, m, [], [], q + 2)).2.1) (s := s1) (f := f) (e3 hr) (by omega) (by omega) (by omega)
            rw [show (1 : Int32) = o3 1 from rfl, g1, bd_some]
            refine ⟨S2, 0, s1, rfl, e2.tr g3, fun _ => ⟨?_, ?_, l2, l3, by omega, by show i < (run (S.1 2) n (n + 1) (true, false, m, [], [], q + 2)).2.1; omega⟩⟩
            · rw [List.append_assoc] at g2
              exact g2
            · show (c ++ ((run (S.1 2) n (n + 1) (true, false, m, [], [], q + 2)).2.2.2 ++ [(1, _)])).length ≤ (run (S.1 2) n (n + 1) (true, false, m, [], [], q + 2)).2.1
              rw [List.length_append, ln_app]
              omega
          · rw [if_neg hr, if_neg hr]
            dsimp only
            rw [if_pos (show (0 : Int32) = 0 from rfl)]
            exact ⟨S1, i1, s1, by rw [if_neg hr], e2, fun q => absurd q hr⟩
        · rw [if_neg w1, if_neg w1]
          dsimp only
          rw [if_pos (show (0 : Int32) = 0 from rfl), if_pos (show (0 : Int32) = 0 from rfl)]
          obtain ⟨S2, g1, g2, g3⟩ := cl_write (a := 0) (v := nmv (S.1 2) n (j + 2)) (i := o3 q) (s := o3 (sk (S.1 2) n (j + 2))) (f := f) hR (by omega) (by omega) (by omega)
          rw [show (0 : Int32) = o3 0 from rfl, g1, bd_some]
          refine ⟨S2, 0, o3 (sk (S.1 2) n (j + 2)), rfl, g3, fun _ => ⟨g2, ?_, hq, hm, by omega, by show i < q; omega⟩⟩
          show (c ++ [(0, _)]).length ≤ q
          rw [ln_app]
          omega
      · rw [if_neg h0, if_neg h0]
        dsimp only
        rw [if_neg (show ¬ (0 : Int32) ≤ -1 by decide)]
        exact ⟨S, _, _, by rw [if_neg h0], eQ.rf, fun q => absurd q h0⟩
  · rw [if_neg w0, if_neg w0]
    dsimp only
    rw [if_pos (show (0 : Int32) = 0 from rfl), ct_fail, bd_some, tS_2, tS_fa, show (1 : Int32) = o3 1 from rfl, show (8 : Int32) = o3 8 from rfl, show (0 : Int32) = o3 0 from rfl, o3_mul, o3_add, o3_add]
    refine ⟨S, o3 j, s, ?_, eQ.rf, fun q => absurd q (show ¬ (1 + 8 * j = 0) by omega)⟩
    rw [if_neg (show ¬ (1 + 8 * j = 0) by omega)]
    rfl
end CL3
end
