section
/-! openings, values -/
def nmI (t : Nat → Int32) (n j : Nat) : Nat := if wat t n (mm_sb.getD 6 []) j = true then 0 else if wat t n (mm_sb.getD 7 []) j = true then 1 else if wat t n (mm_sb.getD 8 []) j = true then 2 else if wat t n (mm_sb.getD 9 []) j = true then 3 else if wat t n (mm_sb.getD 10 []) j = true then 4 else if wat t n (mm_sb.getD 11 []) j = true then 5 else if wat t n (mm_sb.getD 12 []) j = true then 6 else if wat t n (mm_sb.getD 13 []) j = true then 7 else 8
def nmL (k : Nat) : Nat := (mm_sb.getD (6 + k) []).length
def vlF (t : Nat → Int32) (n m j : Nat) : Nat := if 0 < dl t n j then (if nmf t n j 0 99999 = 0 then (if 60 ≤ m then 1 + 8 * j + 3 else 0) else nmf t n j 0 99999) else if nmI t n j < 8 then (if 60 ≤ m then 1 + 8 * j + 3 else 0) else 1 + 8 * j
def vlP (t : Nat → Int32) (n j : Nat) : Nat := if 0 < dl t n j then nmp t n j else j + nmL (nmI t n j)
def vlC (t : Nat → Int32) (n j : Nat) : Nat × Nat := if 0 < dl t n j then (2, nmv t n j) else (3, nmI t n j)
def opn (t : Nat → Int32) (n : Nat) : Nat → Nat → List Nat → Nat × Nat × List Nat
  | 0, i, H => (1, i, H)
  | f + 1, i, H => if wat t n (mm_sb.getD 5 []) (sk t n i) = true then (if 10 ≤ dep H then (1 + 8 * sk t n i + 2, sk t n i, H) else opn t n f (sk t n i + 3) (4 :: H)) else if sk t n i < n ∧ t (sk t n i) = 91 then (if 10 ≤ dep H then (1 + 8 * sk t n i + 2, sk t n i, H) else opn t n f (sk t n i + 1) (16 :: H)) else (0, sk t n i, H)
theorem nmI_wat {t : Nat → Int32} {n j : Nat} (h : nmI t n j < 8) : wat t n (mm_sb.getD (6 + nmI t n j) []) j = true := by
  unfold nmI at h ⊢
  by_cases h0 : wat t n (mm_sb.getD 6 []) j = true
  · rw [if_pos h0]; exact h0
  · rw [if_neg h0] at h ⊢
    by_cases h1 : wat t n (mm_sb.getD 7 []) j = true
    · rw [if_pos h1]; exact h1
    · rw [if_neg h1] at h ⊢
      by_cases h2 : wat t n (mm_sb.getD 8 []) j = true
      · rw [if_pos h2]; exact h2
      · rw [if_neg h2] at h ⊢
        by_cases h3 : wat t n (mm_sb.getD 9 []) j = true
        · rw [if_pos h3]; exact h3
        · rw [if_neg h3] at h ⊢
          by_cases h4 : wat t n (mm_sb.getD 10 []) j = true
          · rw [if_pos h4]; exact h4
          · rw [if_neg h4] at h ⊢
            by_cases h5 : wat t n (mm_sb.getD 11 []) j = true
            · rw [if_pos h5]; exact h5
            · rw [if_neg h5] at h ⊢
              by_cases h6 : wat t n (mm_sb.getD 12 []) j = true
              · rw [if_pos h6]; exact h6
              · rw [if_neg h6] at h ⊢
                by_cases h7 : wat t n (mm_sb.getD 13 []) j = true
                · rw [if_pos h7]; exact h7
                · rw [if_neg h7] at h; omega
section CV
variable {S : fS} {m n : Nat} {c : List (Nat × Nat)} {H : List Nat} {s f : Int32}
theorem cv_name (hn : S.1 1 1 = o3 n) (hl : n ≤ 400) {j : Nat} (hj : j ≤ n) (hs : sk (S.1 2) n j = j) : f_X5_takeName (tS S (o3 j) s f) = some (if nmI (S.1 2) n j < 8 then (o3 (nmI (S.1 2) n j), tS S (o3 (j + nmL (nmI (S.1 2) n j))) (o3 j) f) else (-1, tS S (o3 j) s f)) := by
  unfold f_X5_takeName nmI
  rw [ct_word hn hl (w := 6) (by decide) hj, bd_some, hs]
  by_cases h0 : wat (S.1 2) n (mm_sb.getD 6 []) j = true
  · simp only [if_pos h0]; rw [if_neg (by decide), if_pos (by omega)]; rfl
  simp only [if_neg h0]
  rw [if_pos trivial, ct_word hn hl (w := 7) (by decide) hj, bd_some, hs]
  by_cases h1 : wat (S.1 2) n (mm_sb.getD 7 []) j = true
  · simp only [if_pos h1]; rw [if_neg (by decide), if_pos (by omega)]; rfl
  simp only [if_neg h1]
  rw [if_pos trivial, ct_word hn hl (w := 8) (by decide) hj, bd_some, hs]
  by_cases h2 : wat (S.1 2) n (mm_sb.getD 8 []) j = true
  · simp only [if_pos h2]; rw [if_neg (by decide), if_pos (by omega)]; rfl
  simp only [if_neg h2]
  rw [if_pos trivial, ct_word hn hl (w := 9) (by decide) hj, bd_some, hs]
  by_cases h3 : wat (S.1 2) n (mm_sb.getD 9 []) j = true
  · simp only [if_pos h3]; rw [if_neg (by decide), if_pos (by omega)]; rfl
  simp only [if_neg h3]
  rw [if_pos trivial, ct_word hn hl (w := 10) (by decide) hj, bd_some, hs]
  by_cases h4 : wat (S.1 2) n (mm_sb.getD 10 []) j = true
  · simp only [if_pos h4]; rw [if_neg (by decide), if_pos (by omega)]; rfl
  simp only [if_neg h4]
  rw [if_pos trivial, ct_word hn hl (w := 11) (by decide) hj, bd_some, hs]
  by_cases h5 : wat (S.1 2) n (mm_sb.getD 11 []) j = true
  · simp only [if_pos h5]; rw [if_neg (by decide), if_pos (by omega)]; rfl
  simp only [if_neg h5]
  rw [if_pos trivial, ct_word hn hl (w := 12) (by decide) hj, bd_some, hs]
  by_cases h6 : wat (S.1 2) n (mm_sb.getD 12 []) j = true
  · simp only [if_pos h6]; rw [if_neg (by decide), if_pos (by omega)]; rfl
  simp only [if_neg h6]
  rw [if_pos trivial, ct_word hn hl (w := 13) (by decide) hj, bd_some, hs]
  by_cases h7 : wat (S.1 2) n (mm_sb.getD 13 []) j = true
  · simp only [if_pos h7]; rw [if_neg (by decide), if_pos (by omega)]; rfl
  simp only [if_neg h7]
  rw [if_pos trivial, if_neg (by omega)]
theorem cv_room {i : Int32} {j : Nat} (h3 : S.1 38 3 = o3 m) (hm : m ≤ 60) : f_X5_isRoomForOne (tS S i (o3 j) f) = some (if 60 ≤ m then (0, tS S i (o3 j) (o3 (1 + 8 * j + 3))) else (1, tS (pI S 38 3 (o3 (m + 1))) i (o3 j) f)) := by
  unfold f_X5_isRoomForOne
  rw [tS_ne (by omega), h3]
  by_cases h : 60 ≤ m
  · rw [if_neg (show ¬ o3 _ < (60 : Int32) from fun q => by have := (o3_lt (b := 60) (by omega) (by omega)).mp q; omega), if_pos h, ct_fail, bd_some, tS_3, tS_fa, show (1 : Int32) = o3 1 from rfl, show (8 : Int32) = o3 8 from rfl, show (3 : Int32) = o3 3 from rfl, o3_mul, o3_add, o3_add]
    rfl
  · rw [if_pos (show o3 _ < (60 : Int32) from (o3_lt (b := 60) (by omega) (by omega)).mpr (by omega)), if_neg h, bd_some, tS_pI (by omega), o3_s]
theorem RC_3 {x : Nat} (hR : RC S m c H) : RC (pI S 38 3 (o3 x)) x c H := by
  obtain ⟨r1, r2, r3, r4, r5, r6, r7⟩ := hR
  refine ⟨pI_eq, ?_, ?_, ?_, fun k hk => ?_, ?_, fun k hk => ?_⟩
  · rw [pI_ne (by omega)]; exact r2
  · rw [pI_ne (by omega)]; exact r3
  · rw [pI_ne (by omega)]; exact r4
  · rw [pI_ne (by omega)]; exact r5 k hk
  · rw [pI_ne (by omega)]; exact r6
  · rw [pI_ne (by omega)]; exact r7 k hk
theorem cv_value (hn : S.1 1 1 = o3 n) (hl : n ≤ 400) (hR : RC S m c H) (hm : m ≤ 60) {i : Nat} (hi : i ≤ n) (hc : vlF (S.1 2) n m (sk (S.1 2) n i) = 0 → c.length < 400) : ∃ S' i' s', f_X5_readValue (tS S (o3 i) s f) = some (if vlF (S.1 2) n m (sk (S.1 2) n i) = 0 then (1, tS S' (o3 (vlP (S.1 2) n (sk (S.1 2) n i))) s' f) else (0, tS S' i' s' (o3 (vlF (S.1 2) n m (sk (S.1 2) n i))))) ∧ eQ S S' ∧ (vlF (S.1 2) n m (sk (S.1 2) n i) = 0 → RC S' (m + 1) (c ++ [vlC (S.1 2) n (sk (S.1 2) n i)]) H) := by
  have hj := sk_le (t := S.1 2) hi
  have hid := sk_id (t := S.1 2) (n := n) (i := i)
  unfold f_X5_readValue
  rw [ct_skip hn hl hi, bd_some, tS_2]
  generalize sk (S.1 2) n i = j at hj hid hc
  rw [ct_digit hl (X := tS S (o3 j) s f) (by rw [tS_1, hn]) (by omega), bd_some, tS_t]
  unfold vlF vlP vlC
  have hbad : ∀ x : Nat, (1 + 8 * j + x = 0) → False := fun x h => by omega
  by_cases hd : 0 < dl (S.1 2) n j
  · rw [if_pos hd, if_neg (show ¬ (1 : Int32) = 0 by decide), if_pos hd, if_pos hd, if_pos hd, ct_num hn hl hj, bd_some, ni_0, show (99999 : Int32).toInt = 99999 from rfl, hid]
    by_cases h0 : nmf (S.1 2) n j 0 99999 = 0
    · have g := (nmf_0 h0).2.2
      rw [if_pos h0, if_pos h0]
      dsimp only
      rw [if_pos (o3_0le (by omega)), if_pos (o3_0le (by omega)), cv_room hR.1 hm, bd_some]
      by_cases h60 : 60 ≤ m
      · rw [if_pos h60, if_pos h60]
        exact ⟨S, _, _, by rw [if_neg (hbad 3)]; rfl, eQ.rf, fun q => absurd q (hbad 3)⟩
      · rw [if_neg h60, if_neg h60]
        dsimp only
        rw [if_neg (show ¬ (1 : Int32) = 0 by decide), if_neg (show ¬ (1 : Int32) = 0 by decide)]
        obtain ⟨S1, w1, w2, w3⟩ := cq_write (a := 2) (v := nmv (S.1 2) n j) (i := o3 (nmp (S.1 2) n j)) (s := o3 j) (f := f) (RC_3 (x := m + 1) hR) (hc (by unfold vlF; rw [if_pos hd, if_pos h0, if_neg h60])) (by omega) (by omega)
        rw [show (2 : Int32) = o3 2 from rfl, w1, bd_some]
        exact ⟨S1, 0, _, rfl, (eQ_pI (by unfold wQ; omega)).tr w3, fun _ => w2⟩
    · rw [if_neg h0, if_neg h0]
      dsimp only
      rw [if_neg (show ¬ (0 : Int32) ≤ -1 by decide), if_neg (show ¬ (1 : Int32) = 0 by decide), if_neg (show ¬ (0 : Int32) ≤ -1 by decide)]
      exact ⟨S, _, _, by rw [if_neg h0], eQ.rf, fun q => absurd q h0⟩
  · rw [if_neg hd, if_pos (show (0 : Int32) = 0 from rfl), if_neg hd, if_neg hd, if_neg hd, cv_name hn hl hj hid, bd_some]
    by_cases h8 : nmI (S.1 2) n j < 8
    · rw [if_pos h8, if_pos h8]
      dsimp only
      rw [if_pos (o3_0le (by omega)), if_pos (o3_0le (by omega)), cv_room hR.1 hm, bd_some]
      by_cases h60 : 60 ≤ m
      · rw [if_pos h60, if_pos h60]
        exact ⟨S, _, _, by rw [if_neg (hbad 3)]; rfl, eQ.rf, fun q => absurd q (hbad 3)⟩
      · rw [if_neg h60, if_neg h60]
        dsimp only
        rw [if_neg (show ¬ (1 : Int32) = 0 by decide), if_pos (show (0 : Int32) = 0 from rfl)]
        obtain ⟨S1, w1, w2, w3⟩ := cq_write (a := 3) (v := nmI (S.1 2) n j) (i := o3 (j + nmL (nmI (S.1 2) n j))) (s := o3 j) (f := f) (RC_3 (x := m + 1) hR) (hc (by unfold vlF; rw [if_neg hd, if_pos h8, if_neg h60])) (by omega) (by omega)
        rw [show (3 : Int32) = o3 3 from rfl, w1, bd_some]
        exact ⟨S1, 0, _, rfl, (eQ_pI (by unfold wQ; omega)).tr w3, fun _ => w2⟩
    · rw [if_neg h8, if_neg h8]
      dsimp only
      rw [if_neg (show ¬ (0 : Int32) ≤ -1 by decide), if_pos (show (0 : Int32) = 0 from rfl), ct_fail, bd_some, tS_2, tS_fa, show (1 : Int32) = o3 1 from rfl, show (8 : Int32) = o3 8 from rfl, show (0 : Int32) = o3 0 from rfl, o3_mul, o3_add, o3_add]
      refine ⟨S, o3 j, s, ?_, eQ.rf, fun q => absurd q (hbad 0)⟩
      rw [if_neg (show ¬ (1 + 8 * j = 0) by omega)]
      rfl
end CV
end
