section
theorem pI_row {S : fS} {a k b : Nat} {y : Int32} (h : b ≠ a) : (pI S a k y).1 b = S.1 b := by
  funext j
  exact pI_ne (fun q => h q.1)
section MV2
variable {S : fS} {x m n : Nat} {c : List (Nat × Nat)} {u : Int32}
theorem mv_value (hn : S.1 145 1 = o3 n) (hl : n ≤ 400) (hR : RQ S x m c) (hx : x < 6) (hm : m ≤ 60) {i : Nat} (hi : i ≤ n) (hc : vlF (S.1 146) n m (sk (S.1 146) n i) = 0 → c.length < 400) : ∃ T i' u', f_X11_value (mS S (o3 i) 0 u) = some (if vlF (S.1 146) n m (sk (S.1 146) n i) = 0 then (1, mS T (o3 (vlP (S.1 146) n (sk (S.1 146) n i))) 0 u') else (0, mS T i' (o3 (vlF (S.1 146) n m (sk (S.1 146) n i))) u')) ∧ eMr x S T ∧ (vlF (S.1 146) n m (sk (S.1 146) n i) = 0 → RQ T x (m + 1) (c ++ [vlC (S.1 146) n (sk (S.1 146) n i)])) := by
  have hj := sk_le (t := S.1 146) hi
  have hs := sk_id (t := S.1 146) (n := n) (i := i)
  unfold f_X11_value
  rw [mt_see hn hl hi, bd_some]
  dsimp only
  generalize sk (S.1 146) n i = j at hj hs hc
  rw [mS_13, mt_digit hl (mS_1.trans hn) (by omega), bd_some, mS_t]
  have hn1 : (pI S 145 17 (o3 (m + 1))).1 145 1 = o3 n := by rw [pI_ne (by omega)]; exact hn
  have ht1 : (pI S 145 17 (o3 (m + 1))).1 146 = S.1 146 := pI_row (by omega)
  have e17 : eMr x S (pI S 145 17 (o3 (m + 1))) := eMr_pI (by unfold wMr; omega)
  unfold vlF vlP vlC at *
  by_cases hd : 0 < dl (S.1 146) n j
  · simp only [if_pos hd] at hc ⊢
    rw [if_neg (by decide)]
    obtain ⟨u', e⟩ := mt_num (u := u) hn hl (lo := 0) (hi := 99999) hj
    rw [show (0 : Int32).toInt = 0 from rfl, show (99999 : Int32).toInt = 99999 from rfl] at e
    rw [e, bd_some]
    by_cases hf : nmf (S.1 146) n j 0 99999 = 0
    · simp only [if_pos hf] at hc ⊢
      rw [if_neg (by decide), mp_makes hR hm, bd_some]
      by_cases h6 : 60 ≤ m
      · simp only [if_pos h6] at hc ⊢
        rw [if_pos trivial]
        exact ⟨S, o3 (nmp (S.1 146) n j), o3 (nmv (S.1 146) n j), by rw [if_neg (show ¬ 1 + 8 * j + 3 = 0 by omega)], eMr.rf, fun q => by omega⟩
      · simp only [if_neg h6] at hc ⊢
        rw [if_neg (by decide), mS_15]
        obtain ⟨T, t1, t2, t3⟩ := mp_puts (i := o3 (nmp (S.1 146) n j)) (w := 0) (u := o3 (nmv (S.1 146) n j)) (RQ_17 (m' := m + 1) hR) hx (hc trivial) (s := 2) (v := nmv (S.1 146) n j) (a := 0) (b := o3 (nmv (S.1 146) n j)) rfl rfl
        rw [t1, bd_some]
        exact ⟨T, 0, o3 (nmv (S.1 146) n j), by rw [if_pos trivial], e17.tr t3, fun _ => t2⟩
    · simp only [if_neg hf]
      rw [if_pos trivial]
      exact ⟨S, o3 (nmp (S.1 146) n j), u', rfl, eMr.rf, fun q => absurd q hf⟩
  · simp only [if_neg hd] at hc ⊢
    rw [if_pos trivial, mv_name hn hl hj hs, bd_some]
    by_cases h8 : nmI (S.1 146) n j < 8
    · simp only [if_pos h8] at hc ⊢
      rw [if_pos (show (0 : Int32) ≤ o3 _ from (o3_le (a := 0) (by omega) (by omega)).mpr (by omega)), mp_makes hR hm, bd_some]
      by_cases h6 : 60 ≤ m
      · simp only [if_pos h6] at hc ⊢
        rw [if_pos trivial]
        exact ⟨S, o3 j, u, by rw [if_neg (show ¬ 1 + 8 * j + 3 = 0 by omega)], eMr.rf, fun q => by omega⟩
      · simp only [if_neg h6] at hc ⊢
        have hll : ll (S.1 146) n j = nmL (nmI (S.1 146) n j) := ((wat_ll _ _ (mw_L _ (by omega))).mp (nmI_wat h8)).1
        rw [if_neg (by decide), mt_pass hn1 hl hj, bd_some, ht1, hll]
        obtain ⟨T, t1, t2, t3⟩ := mp_puts (i := o3 (j + nmL (nmI (S.1 146) n j))) (w := 0) (u := u) (RQ_17 (m' := m + 1) hR) hx (hc trivial) (s := 3) (v := nmI (S.1 146) n j) (a := 1) (b := o3 (nmI (S.1 146) n j)) rfl rfl
        rw [t1, bd_some]
        exact ⟨T, 0, u, by rw [if_pos trivial], e17.tr t3, fun _ => t2⟩
    · simp only [if_neg h8]
      rw [if_neg (by decide), mt_fails mS_14, bd_some, mS_wr, show (8 : Int32) = o3 8 from rfl, show (1 : Int32) = o3 1 from rfl, o3_mul, o3_add]
      refine ⟨S, o3 j, u, ?_, eMr.rf, fun q => by omega⟩
      rw [show o3 (1 + 8 * j) + (0 : Int32) = o3 (1 + 8 * j) from Int32.add_zero _, if_neg (show ¬ 1 + 8 * j = 0 by omega)]
      rfl
end MV2
end
