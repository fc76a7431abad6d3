section
variable {S : fS} {n : Nat} {u : Int32}
theorem mf_stair (hn : S.1 145 1 = o3 n) (hl : n ≤ 400) {B : TB} (hB : TBm S B) (hok : okB B) (h12 : B.2.1.length < 12) {v j : Nat} (hj : j ≤ n) (hw : ll (S.1 146) n j = 5) : ∃ S' u' i', f_X11_isStairHere (o3 v) (mS S (o3 j) 0 u) = some (if (tSt (S.1 146) n B (j + 5)).1 = 0 then (1, mS S' (o3 (tSt (S.1 146) n B (j + 5)).2.1) 0 u') else (0, mS S' i' (o3 (tSt (S.1 146) n B (j + 5)).1) u')) ∧ eM S S' ∧ ((tSt (S.1 146) n B (j + 5)).1 = 0 → TBm S' (tSt (S.1 146) n B (j + 5)).2.2) := by
  have hj5 : j + 5 ≤ n := by have := ll_le (t := S.1 146) (n := n) _ j rfl hj; omega
  have hm : B.1.length < 1000000 := by have := hok.1; omega
  have hi1 := nmp_le (t := S.1 146) hj5
  have hi2 := nmp_le (t := S.1 146) hi1
  have hs2 := sk_le (t := S.1 146) hi1
  unfold f_X11_isStairHere
  rw [mS_ne (by omega), hB.2.1, if_neg (show ¬ o3 _ = (12 : Int32) from fun q => by have := (o3_inj (b := 12) (by omega) (by omega)).mp q; omega), mt_pass hn hl hj, bd_some, hw, mS_ne (by omega), hB.1]
  obtain ⟨u1, e1⟩ := mt_num (u := u) hn hl (lo := 0) (hi := o3 B.1.length - 1) hj5
  rw [mf_lm hm, ni_0] at e1
  rw [e1, bd_some]
  unfold tSt
  by_cases c1 : nmf (S.1 146) n (j + 5) 0 (B.1.length - 1) = 0
  · rw [if_pos c1, if_pos c1]
    dsimp only
    rw [if_neg (show ¬ (1 : Int32) = 0 by decide), mS_15, mS_ne (by omega), hB.2.1, show (5 : Int32) = o3 5 from rfl, o3_mul, sI_o (by omega) (by omega), bd_some, mS_p (by omega)]
    have hn1 := mk_n (a := 152) (k := 5 * B.2.1.length) (x := o3 (nmv (S.1 146) n (j + 5))) hn (by omega)
    have ht1 := mk_t (S := S) (a := 152) (k := 5 * B.2.1.length) (x := o3 (nmv (S.1 146) n (j + 5))) (by omega)
    rw [mt_see hn1 hl hi1, bd_some, ht1]
    dsimp only
    rw [mS_ne (by omega), mS_13, pI_get, if_neg (by omega), hB.1]
    obtain ⟨u2, e2⟩ := mt_num (u := o3 (nmv (S.1 146) n (j + 5))) hn1 hl (lo := 0) (hi := o3 B.1.length - 1) (i := sk (S.1 146) n (nmp (S.1 146) n (j + 5))) hs2
    rw [mf_lm hm, ni_0, ht1] at e2
    have hnmf : ∀ lo hi, nmf (S.1 146) n (sk (S.1 146) n (nmp (S.1 146) n (j + 5))) lo hi = nmf (S.1 146) n (nmp (S.1 146) n (j + 5)) lo hi := fun lo hi => by unfold nmf; rw [sk_id]
    have hnmv : nmv (S.1 146) n (sk (S.1 146) n (nmp (S.1 146) n (j + 5))) = nmv (S.1 146) n (nmp (S.1 146) n (j + 5)) := by unfold nmv; rw [sk_id]
    have hnmp : nmp (S.1 146) n (sk (S.1 146) n (nmp (S.1 146) n (j + 5))) = nmp (S.1 146) n (nmp (S.1 146) n (j + 5)) := by
      generalize nmp (S.1 146) n (j + 5) = x
      unfold nmp
      rw [sk_id]
    rw [hnmf, hnmv, hnmp] at e2
    rw [e2, bd_some]
    have g1 := (nmf_0 c1).2.2
    by_cases c2 : nmf (S.1 146) n (nmp (S.1 146) n (j + 5)) 0 (B.1.length - 1) = 0
    · have g2 := (nmf_0 c2).2.2
      rw [if_pos c2, if_pos c2]
      dsimp only
      rw [if_neg (show ¬ (1 : Int32) = 0 by decide), gI_o (by omega) (by omega), bd_some, mS_15, mS_ne (by omega), pI_eq]
      by_cases c3 : nmv (S.1 146) n (j + 5) = nmv (S.1 146) n (nmp (S.1 146) n (j + 5))
      · rw [if_pos (show o3 (nmv (S.1 146) n (nmp (S.1 146) n (j + 5))) = o3 (nmv (S.1 146) n (j + 5)) by rw [c3]), if_pos c3, show (1 : Int32) = o3 1 from rfl, mf_fails rfl, bd_some]
        refine ⟨pI S 152 (5 * B.2.1.length) (o3 (nmv (S.1 146) n (j + 5))), o3 (nmv (S.1 146) n (nmp (S.1 146) n (j + 5))), o3 (nmp (S.1 146) n (nmp (S.1 146) n (j + 5))), ?_, eM_pI (by unfold wM; omega), fun q => absurd q (by show ¬ (1 + 8 * _ + 1 = 0); omega)⟩
        rw [if_neg (by show ¬ (1 + 8 * _ + 1 = 0); omega)]
        rfl
      · rw [if_neg (fun q => c3 ((o3_inj (by omega) (by omega)).mp q).symm), if_neg c3, show (1 : Int32) = o3 1 from rfl, o3_add, sI_o (by omega) (by omega), bd_some, mS_p (by omega)]
        have hn2 := mk_n (a := 152) (k := 5 * B.2.1.length + 1) (x := o3 (nmv (S.1 146) n (nmp (S.1 146) n (j + 5)))) hn1 (by omega)
        have ht2 := mk_t (S := pI S 152 (5 * B.2.1.length) (o3 (nmv (S.1 146) n (j + 5)))) (a := 152) (k := 5 * B.2.1.length + 1) (x := o3 (nmv (S.1 146) n (nmp (S.1 146) n (j + 5)))) (by omega)
        rw [ht1] at ht2
        obtain ⟨S3, u3, i3, e3, f3⟩ := mf_st3 (u := o3 (nmv (S.1 146) n (nmp (S.1 146) n (j + 5)))) (K := fun S42 => (some (pI S42 145 8 ((S42.1 145 8) + (1 : Int32)))).bind fun S44 => some ((1 : Int32), S44)) hn2 hl h12 hi2
        rw [ht2] at e3
        rw [show (2 : Int32) = o3 2 from rfl]
        rw [show o3 1 = (1 : Int32) from rfl]
        have f4 := ((eM_pI (S := S) (a := 152) (k := 5 * B.2.1.length) (x := o3 (nmv (S.1 146) n (j + 5))) (by unfold wM; omega)).tr (eM_pI (a := 152) (k := 5 * B.2.1.length + 1) (x := o3 (nmv (S.1 146) n (nmp (S.1 146) n (j + 5)))) (by unfold wM; omega))).tr f3
        rw [e3]
        unfold tPc
        generalize hp2 : nmp (S.1 146) n (nmp (S.1 146) n (j + 5)) = p2
        by_cases c4 : nmf (S.1 146) n p2 1 9 = 0
        · rw [if_pos c4, if_pos c4]
          by_cases c5 : nmf (S.1 146) n (nmp (S.1 146) n p2) 1 20 = 0
          · rw [if_pos c5, if_pos c5]
            by_cases c6 : nmf (S.1 146) n (nmp (S.1 146) n (nmp (S.1 146) n p2)) 1 20 = 0
            · rw [if_pos c6, if_pos c6, bd_some, mS_p (by omega)]
              refine ⟨pI (st5 S B.2.1.length (nmv (S.1 146) n (j + 5)) (nmv (S.1 146) n (nmp (S.1 146) n (j + 5))) (nmv (S.1 146) n p2) (nmv (S.1 146) n (nmp (S.1 146) n p2)) (nmv (S.1 146) n (nmp (S.1 146) n (nmp (S.1 146) n p2)))) 145 8 (o3 (B.2.1.length + 1)), u3, 0, ?_, ?_, fun _ => mf_stairB hB⟩
              · have hk8 : (st5 S B.2.1.length (nmv (S.1 146) n (j + 5)) (nmv (S.1 146) n (nmp (S.1 146) n (j + 5))) (nmv (S.1 146) n p2) (nmv (S.1 146) n (nmp (S.1 146) n p2)) (nmv (S.1 146) n (nmp (S.1 146) n (nmp (S.1 146) n p2)))).1 145 8 = o3 B.2.1.length := by rw [st5_ne (by omega)]; exact hB.2.1
                have hk9 : (mS (st5 S B.2.1.length (nmv (S.1 146) n (j + 5)) (nmv (S.1 146) n (nmp (S.1 146) n (j + 5))) (nmv (S.1 146) n p2) (nmv (S.1 146) n (nmp (S.1 146) n p2)) (nmv (S.1 146) n (nmp (S.1 146) n (nmp (S.1 146) n p2)))) (o3 (nmp (S.1 146) n (nmp (S.1 146) n (nmp (S.1 146) n p2)))) 0 u3).1 145 8 + 1 = o3 (B.2.1.length + 1) := by rw [mS_ne (by omega), hk8, o3_s]
                unfold st5 at hk9 ⊢
                rw [hk9]
                rw [if_pos (show (0 : Nat) = 0 from rfl)]
              · unfold st5
                exact (((((eM_pI (by unfold wM; omega)).tr (eM_pI (by unfold wM; omega))).tr (eM_pI (by unfold wM; omega))).tr (eM_pI (by unfold wM; omega))).tr (eM_pI (by unfold wM; omega))).tr (eM_pI (by unfold wM; omega))
            · rw [if_neg c6, if_neg c6]
              exact ⟨S3, u3, i3, by rw [if_neg c6], f4, fun q => absurd q c6⟩
          · rw [if_neg c5, if_neg c5]
            exact ⟨S3, u3, i3, by rw [if_neg c5], f4, fun q => absurd q c5⟩
        · rw [if_neg c4, if_neg c4]
          exact ⟨S3, u3, i3, by rw [if_neg c4], f4, fun q => absurd q c4⟩
    · rw [if_neg c2, if_neg c2]
      dsimp only
      rw [if_pos (show (0 : Int32) = 0 from rfl)]
      exact ⟨pI S 152 (5 * B.2.1.length) (o3 (nmv (S.1 146) n (j + 5))), _, _, by rw [if_neg c2], eM_pI (by unfold wM; omega), fun q => absurd q c2⟩
  · rw [if_neg c1, if_neg c1]
    dsimp only
    rw [if_pos (show (0 : Int32) = 0 from rfl)]
    exact ⟨S, _, _, by rw [if_neg c1], eM.rf, fun q => absurd q c1⟩
end
