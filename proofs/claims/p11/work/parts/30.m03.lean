section
/-! openings, values -/
def nmI (t : Nat → Int32) (n j : Nat) : Nat := if wat t n (mm_sb.getD 6 []) j = true then 0 else if wat t n (mm_sb.getD 7 []) j = true then 1 else if wat t n (mm_sb.getD 8 []) j = true then 2 else if wat t n (mm_sb.getD 9 []) j = true then 3 else if wat t n (mm_sb.getD 10 []) j = true then 4 else if wat t n (mm_sb.getD 11 []) j = true then 5 else if wat t n (mm_sb.getD 12 []) j = true then 6 else if wat t n (mm_sb.getD 13 []) j = true then 7 else 8
def nmL (k : Nat) : Nat := (mm_sb.getD (6 + k) []).length
def vlF (t : Nat → Int32) (n m j : Nat) : Nat := if 0 < dl t n j then (if nmf t n j 0 99999 = 0 then (if 60 ≤ m then 1 + 8 * j + 3 else 0) else nmf t n j 0 99999) else if nmI t n j < 8 then (if 60 ≤ m then 1 + 8 * j + 3 else 0) else 1 + 8 * j
def vlP (t : Nat → Int32) (n j : Nat) : Nat := if 0 < dl t n j then nmp t n j else j + nmL (nmI t n j)
def vlC (t : Nat → Int32) (n j : Nat) : Nat × Nat := if 0 < dl t n j then (2, nmv t n j) else (3, nmI t n j)
def opn (t : Nat → Int32) (n : Nat) : Nat → Nat → List Nat → Nat × Nat × List Nat
  | 0, i, H => (1, i, H)
  | f + 1, i, H => if wat t n (mm_sb.getD 5 []) (sk t n i) = true then (if 10 ≤ dep H then (1 + 8 * sk t n i + 2, sk t n i, H) else opn t n f (sk t n i + 3) (4 :: H)) else if sk t n i < n ∧ t (sk t n i) = 91 then (if 10 ≤ dep H then (1 + 8 * sk t n i + 2, sk t n i, H) else opn t n f (sk t n i + 1) (16 :: H)) else (0, sk t n i, H)
theorem nmI_wat {t : Nat → Int32} {n j : Nat} (h : nmI t n j < 8) : wat t n (mm_sb.getD (6 + nmI t n j) []) j = true := by
  unfold nmI at h ⊢
  by_cases h0 : wat t n (mm_sb.getD 6 []) j = true
  · rw [if_pos h0]; exact h0
  · rw [if_neg h0] at h ⊢
    by_cases h1 : wat t n (mm_sb.getD 7 []) j = true
    · rw [if_pos h1]; exact h1
    · rw [if_neg h1] at h ⊢
      by_cases h2 : wat t n (mm_sb.getD 8 []) j = true
      · rw [if_pos h2]; exact h2
      · rw [if_neg h2] at h ⊢
        by_cases h3 : wat t n (mm_sb.getD 9 []) j = true
        · rw [if_pos h3]; exact h3
        · rw [if_neg h3] at h ⊢
          by_cases h4 : wat t n (mm_sb.getD 10 []) j = true
          · rw [if_pos h4]; exact h4
          · rw [if_neg h4] at h ⊢
            by_cases h5 : wat t n (mm_sb.getD 11 []) j = true
            · rw [if_pos h5]; exact h5
            · rw [if_neg h5] at h ⊢
              by_cases h6 : wat t n (mm_sb.getD 12 []) j = true
              · rw [if_pos h6]; exact h6
              · rw [if_neg h6] at h ⊢
                by_cases h7 : wat t n (mm_sb.getD 13 []) j = true
                · rw [if_pos h7]; exact h7
                · rw [if_neg h7] at h; omega
section CV
variable {S : fS} {m n : Nat} {c : List (Nat × Nat)} {H : List Nat} {s f : Int32}
theorem cv_name (hn : S.1 1 1 = o3 n) (hl : n ≤ 400) {j : Nat} (hj : j ≤ n) (hs : sk (S.1 2) n j = j) : f_X5_takeName (tS S (o3 j) s f) = some (if nmI (S.1 2) n j < 8 then (o3 (nmI (S.1 2) n j), tS S (o3 (j + nmL (nmI (S.1 2) n j))) (o3 j) f) else (-1, tS S (o3 j) s f)) := by
  unfold f_X5_takeName nmI
  rw [ct_word hn hl (w := 6) (by decide) hj, bd_some, hs]
  by_cases h0 : wat (S.1 2) n (mm_sb.getD 6 []) j = true
  · simp only [if_pos h0]; rw [if_neg (by decide), if_pos (by omega)]; rfl
  simp only [if_neg h0]
  rw [if_pos trivial, ct_word hn hl (w := 7) (by decide) hj, bd_some, hs]
  by_cases h1 : wat (S.1 2) n (mm_sb.getD 7 []) j = true
  · simp only [if_pos h1]; rw [if_neg (by decide), if_pos (by omega)]; rfl
  simp only [if_neg h1]
  rw [if_pos trivial, ct_word hn hl (w := 8) (by decide) hj, bd_some, hs]
  by_cases h2 : wat (S.1 2) n (mm_sb.getD 8 []) j = true
  · simp only [if_pos h2]; rw [if_neg (by decide), if_pos (by omega)]; rfl
  simp only [if_neg h2]
  rw [if_pos trivial, ct_word hn hl (w := 9) (by decide) hj, bd_some, hs]
  by_cases h3 : wat (S.1 2) n (mm_sb.getD 9 []) j = true
  · simp only [if_pos h3]; rw [if_neg (by decide), if_pos (by omega)]; rfl
  simp only [if_neg h3]
  rw [if_pos trivial, ct_word hn hl (w := 10) (by decide) hj, bd_some, hs]
  by_cases h4 : wat (S.1 2) n (mm_sb.getD 10 []) j = true
  · simp only [if_pos h4]; rw [if_neg (by decide), if_pos (by omega)]; rfl
  simp only [if_neg h4]
  rw [if_pos trivial, ct_word hn hl (w := 11) (by decide) hj, bd_some, hs]
  by_cases h5 : wat (S.1 2) n (mm_sb.getD 11 []) j = true
  · simp only [if_pos h5]; rw [if_neg (by decide), if_pos (by omega)]; rfl
  simp only [if_neg h5]
  rw [if_pos trivial, ct_word hn hl (w := 12) (by decide) hj, bd_some, hs]
  by_cases h6 : wat (S.1 2) n (mm_sb.getD 12 []) j = true
  · simp only [if_pos h6]; rw [if_neg (by decide), if_pos (by omega)]; rfl
  simp only [if_neg h6]
  rw [if_pos trivial, ct_word hn hl (w := 13) (by decide) hj, bd_some, hs]
  by_cases h7 : wat (S.1 2) n (mm_sb.getD 13 []) j = true
  · simp only [if_pos h7]; rw [if_neg (by decide), if_pos (by omega)]; rfl
  simp only [if_neg h7]
  rw [if_pos trivial, if_neg (by omega)]
theorem cv_room {i : Int32} {j : Nat} (h3 : S.1 38 3 = o3 m) (hm : m ≤ 60) : f_X5_isRoomForOne (tS S i (o3 j) f) = some (if 60 ≤ m then (0, tS S i (o3 j) (o3 (1 + 8 * j + 3))) else (1, tS (pI S 38 3 (o3 (m + 1))) i (o3 j) f)) := by
  unfold f_X5_isRoomForOne
  rw [tS_ne (by omega), h3]
  by_cases h : 60 ≤ m
  · rw [if_neg (show ¬ o3 _ < (60 : Int32) from fun q => by have := (o3_lt (b := 60) (by omega) (by omega)).mp q; omega), if_pos h, ct_fail, bd_some, tS_3, tS_fa, show (1 : Int32) = o3 1 from rfl, show (8 : Int32) = o3 8 from rfl, show (3 : Int32) = o3 3 from rfl, o3_mul, o3_add, o3_add]
    rfl
  · rw [if_pos (show o3 _ < (60 : Int32) from (o3_lt (b := 60) (by omega) (by omega)).mpr (by omega)), if_neg h, bd_some, tS_pI (by omega), o3_s]
theorem RC_3 {x : Nat} (hR : RC S m c H) : RC (pI S 38 3 (o3 x)) x c H := by
  obtain ⟨r1, r2, r3, r4, r5, r6, r7⟩ := hR
  refine ⟨pI_eq, ?_, ?_, ?_, fun k hk => ?_, ?_, fun k hk => ?_⟩
  · rw [pI_ne (by omega)]; exact r2
  · rw [pI_ne (by omega)]; exact r3
  · rw [pI_ne (by omega)]; exact r4
  · rw [pI_ne (by omega)]; exact r5 k hk
  · rw [pI_ne (by omega)]; exact r6
  · rw [pI_ne (by omega)]; exact r7 k hk
theorem cv_value (hn : S.1 1 1 = o3 n) (hl : n ≤ 400) (hR : RC S m c H) (hm : m ≤ 60) {i : Nat} (hi : i ≤ n) (hc : vlF (S.1 2) n m (sk (S.1 2) n i) = 0 → c.length < 400) : ∃ S' i' s', f_X5_readValue (tS S (o3 i) s f) = some (if vlF (S.1 2) n m (sk (S.1 2) n i) = 0 then (1, tS S' (o3 (vlP (S.1 2) n (sk (S.1 2) n i))) s' f) else (0, tS S' i' s' (o3 (vlF (S.1 2) n m (sk (S.1 2) n i))))) ∧ eQ S S' ∧ (vlF (S.1 2) n m (sk (S.1 2) n i) = 0 → RC S' (m + 1) (c ++ [vlC (S.1 2) n (sk (S.1 2) n i)]) H) := by
  have hj := sk_le (t := S.1 2) hi
  have hid := sk_id (t := S.1 2) (n := n) (i := i)
  unfold f_X5_readValue
  rw [ct_skip hn hl hi, bd_some, tS_2]
  generalize sk (S.1 2) n i = j at hj hid hc
  rw [ct_digit hl (X := tS S (o3 j) s f) (by rw [tS_1, hn]) (by omega), bd_some, tS_t]
  unfold vlF vlP vlC
  have hbad : ∀ x : Nat, (1 + 8 * j + x = 0) → False := fun x h => by omega
  by_cases hd : 0 < dl (S.1 2) n j
  · rw [if_pos hd, if_neg (show ¬ (1 : Int32) = 0 by decide), if_pos hd, if_pos hd, if_pos hd, ct_num hn hl hj, bd_some, ni_0, show (99999 : Int32).toInt = 99999 from rfl, hid]
    by_cases h0 : nmf (S.1 2) n j 0 99999 = 0
    · have g := (nmf_0 h0).2.2
      rw [if_pos h0, if_pos h0]
      dsimp only
      rw [if_pos (o3_0le (by omega)), if_pos (o3_0le (by omega)), cv_room hR.1 hm, bd_some]
      by_cases h60 : 60 ≤ m
      · rw [if_pos h60, if_pos h60]
        exact ⟨S, _, _, by rw [if_neg (hbad 3)]; rfl, eQ.rf, fun q => absurd q (hbad 3)⟩
      · rw [if_neg h60, if_neg h60]
        dsimp only
        rw [if_neg (show ¬ (1 : Int32) = 0 by decide), if_neg (show ¬ (1 : Int32) = 0 by decide)]
        obtain ⟨S1, w1, w2, w3⟩ := cq_write (a := 2) (v := nmv (S.1 2) n j) (i := o3 (nmp (S.1 2) n j)) (s := o3 j) (f := f) (RC_3 (x := m + 1) hR) (hc (by unfold vlF; rw [if_pos hd, if_pos h0, if_neg h60])) (by omega) (by omega)
        rw [show (2 : Int32) = o3 2 from rfl, w1, bd_some]
        exact ⟨S1, 0, _, rfl, (eQ_pI (by unfold wQ; omega)).tr w3, fun _ => w2⟩
    · rw [if_neg h0, if_neg h0]
      dsimp only
      rw [if_neg (show ¬ (0 : Int32) ≤ -1 by decide), if_neg (show ¬ (1 : Int32) = 0 by decide), if_neg (show ¬ (0 : Int32) ≤ -1 by decide)]
      exact ⟨S, _, _, by rw [if_neg h0], eQ.rf, fun q => absurd q h0⟩
  · rw [if_neg hd, if_pos (show (0 : Int32) = 0 from rfl), if_neg hd, if_neg hd, if_neg hd, cv_name hn hl hj hid, bd_some]
    by_cases h8 : nmI (S.1 2) n j < 8
    · rw [if_pos h8, if_pos h8]
      dsimp only
      rw [if_pos (o3_0le (by omega)), if_pos (o3_0le (by omega)), cv_room hR.1 hm, bd_some]
      by_cases h60 : 60 ≤ m
      · rw [if_pos h60, if_pos h60]
        exact ⟨S, _, _, by rw [if_neg (hbad 3)]; rfl, eQ.rf, fun q => absurd q (hbad 3)⟩
      · rw [if_neg h60, if_neg h60]
        dsimp only
        rw [if_neg (show ¬ (1 : Int32) = 0 by decide), if_pos (show (0 : Int32) = 0 from rfl)]
        obtain ⟨S1, w1, w2, w3⟩ := cq_write (a := 3) (v := nmI (S.1 2) n j) (i := o3 (j + nmL (nmI (S.1 2) n j))) (s := o3 j) (f := f) (RC_3 (x := m + 1) hR) (hc (by unfold vlF; rw [if_neg hd, if_pos h8, if_neg h60])) (by omega) (by omega)
        rw [show (3 : Int32) = o3 3 from rfl, w1, bd_some]
        exact ⟨S1, 0, _, rfl, (eQ_pI (by unfold wQ; omega)).tr w3, fun _ => w2⟩
    · rw [if_neg h8, if_neg h8]
      dsimp only
      rw [if_neg (show ¬ (0 : Int32) ≤ -1 by decide), if_pos (show (0 : Int32) = 0 from rfl), ct_fail, bd_some, tS_2, tS_fa, show (1 : Int32) = o3 1 from rfl, show (8 : Int32) = o3 8 from rfl, show (0 : Int32) = o3 0 from rfl, o3_mul, o3_add, o3_add]
      refine ⟨S, o3 j, s, ?_, eQ.rf, fun q => absurd q (hbad 0)⟩
      rw [if_neg (show ¬ (1 + 8 * j = 0) by omega)]
      rfl
end CV
end
section
theorem opn_s {t : Nat → Int32} {n f i : Nat} {H : List Nat} : opn t n (f + 1) i H = if wat t n (mm_sb.getD 5 []) (sk t n i) = true then (if 10 ≤ dep H then (1 + 8 * sk t n i + 2, sk t n i, H) else opn t n f (sk t n i + 3) (4 :: H)) else if sk t n i < n ∧ t (sk t n i) = 91 then (if 10 ≤ dep H then (1 + 8 * sk t n i + 2, sk t n i, H) else opn t n f (sk t n i + 1) (16 :: H)) else (0, sk t n i, H) := rfl
theorem dep_4 {H : List Nat} : dep (4 :: H) = dep H + 1 := rfl
theorem dep_16 {H : List Nat} : dep (16 :: H) = dep H + 1 := rfl
theorem brk_4 {H : List Nat} : brk (4 :: H) = brk H := rfl
theorem brk_16 {H : List Nat} : brk (16 :: H) = brk H + 1 := rfl
theorem opn_pr {t : Nat → Int32} {n : Nat} : ∀ f i H, i ≤ n → dep H ≤ 10 → (opn t n f i H).1 = 0 → ∃ P, (opn t n f i H).2.2 = P ++ H ∧ (∀ x ∈ P, x = 4 ∨ x = 16) ∧ dep (opn t n f i H).2.2 ≤ 10 ∧ i + P.length ≤ (opn t n f i H).2.1 ∧ (opn t n f i H).2.1 ≤ n ∧ sk t n (opn t n f i H).2.1 = (opn t n f i H).2.1 := by
  intro f
  induction f with
  | zero => intro i H _ _ h; exact absurd h (by show ¬ (1 = 0); omega)
  | succ f ih =>
    intro i H hi hd h
    have hj := sk_le (t := t) hi
    have hg := sk_ge (t := t) (n := n) (i := i)
    rw [opn_s] at h ⊢
    by_cases hw : wat t n (mm_sb.getD 5 []) (sk t n i) = true
    · rw [if_pos hw] at h ⊢
      have hle : sk t n i + 3 ≤ n := wat_le hj hw
      by_cases hd10 : 10 ≤ dep H
      · rw [if_pos hd10] at h; exact absurd h (by show ¬ (1 + 8 * _ + 2 = 0); omega)
      · rw [if_neg hd10] at h ⊢
        obtain ⟨P, p1, p2, p3, p4, p5, p6⟩ := ih _ _ hle (by rw [dep_4]; omega) h
        refine ⟨P ++ [4], by rw [p1, List.append_assoc]; rfl, fun x hx => ?_, p3, by rw [ln_app]; omega, p5, p6⟩
        rcases List.mem_append.mp hx with hx | hx
        · exact p2 x hx
        · exact Or.inl (List.mem_singleton.mp hx)
    · rw [if_neg hw] at h ⊢
      by_cases hb : sk t n i < n ∧ t (sk t n i) = 91
      · rw [if_pos hb] at h ⊢
        by_cases hd10 : 10 ≤ dep H
        · rw [if_pos hd10] at h; exact absurd h (by show ¬ (1 + 8 * _ + 2 = 0); omega)
        · rw [if_neg hd10] at h ⊢
          obtain ⟨P, p1, p2, p3, p4, p5, p6⟩ := ih _ _ (by omega) (by rw [dep_16]; omega) h
          refine ⟨P ++ [16], by rw [p1, List.append_assoc]; rfl, fun x hx => ?_, p3, by rw [ln_app]; omega, p5, p6⟩
          rcases List.mem_append.mp hx with hx | hx
          · exact p2 x hx
          · exact Or.inr (List.mem_singleton.mp hx)
      · rw [if_neg hb]
        exact ⟨[], rfl, fun x hx => absurd hx List.not_mem_nil, hd, hg, hj, sk_id⟩
theorem opn_fl {t : Nat → Int32} {n : Nat} : ∀ f i H, i ≤ n → (opn t n f i H).1 ≤ 8 * n + 10 := by
  intro f
  induction f with
  | zero => intro i H _; show 1 ≤ _; omega
  | succ f ih =>
    intro i H hi
    have hj := sk_le (t := t) hi
    rw [opn_s]
    by_cases hw : wat t n (mm_sb.getD 5 []) (sk t n i) = true
    · rw [if_pos hw]
      have hle : sk t n i + 3 ≤ n := wat_le hj hw
      split
      · show 1 + 8 * _ + 2 ≤ _; omega
      · exact ih _ _ hle
    · rw [if_neg hw]
      by_cases hb : sk t n i < n ∧ t (sk t n i) = 91
      · rw [if_pos hb]
        split
        · show 1 + 8 * _ + 2 ≤ _; omega
        · exact ih _ _ (by omega)
      · rw [if_neg hb]; exact Nat.zero_le _
section CO
variable {m n : Nat} {c : List (Nat × Nat)} {f : Int32} {t : Nat → Int32}
theorem co_open (hl : n ≤ 400) {K : fS → Option (Int32 × fS)} : ∀ d p nn (H : List Nat) (S : fS) (i : Nat) (s : Int32), S.1 1 1 = o3 n → S.1 2 = t → RC S m c H → dep H + d = 10 → p ≤ dep H → H.length ≤ 50 + dep H → i ≤ n → d < nn → ∃ S' i' s', lp_X5_readOpenings_2 K nn (o3 p) (tS S (o3 i) s f) = some (if (opn t n (d + 1) i H).1 = 0 then (1, tS S' (o3 (opn t n (d + 1) i H).2.1) s' f) else (0, tS S' i' s' (o3 (opn t n (d + 1) i H).1))) ∧ eQ S S' ∧ ((opn t n (d + 1) i H).1 = 0 → RC S' m c (opn t n (d + 1) i H).2.2) := by
  intro d
  induction d with
  | zero =>
    intro p nn H S i s hn ht hR hd hp hL hi hnn
    subst ht
    obtain ⟨nn, rfl⟩ : ∃ n', nn = n' + 1 := ⟨nn - 1, by omega⟩
    have hj := sk_le (t := S.1 2) hi
    have hR0 := hR
    obtain ⟨r1, r2, r3, r4, r5, r6, r7⟩ := hR
    rw [lp_X5_readOpenings_2.eq_2, if_neg (show ¬ (10 : Int32) < o3 _ from fun q => by have := (o3_lt (a := 10) (by omega) (by omega)).mp q; omega), ct_word hn hl (w := 5) (by decide) hi, bd_some, opn_s]
    by_cases hw : wat (S.1 2) n (mm_sb.getD 5 []) (sk (S.1 2) n i) = true
    · rw [if_pos hw, if_pos hw, if_pos (show 10 ≤ dep H by omega)]
      dsimp only
      rw [if_neg (show ¬ (1 : Int32) = 0 by decide), tS_ne (by omega), r4, if_neg (show ¬ o3 _ < (10 : Int32) from fun q => by have := (o3_lt (b := 10) (by omega) (by omega)).mp q; omega), ct_fail, bd_some, tS_3, tS_fa, show (1 : Int32) = o3 1 from rfl, show (8 : Int32) = o3 8 from rfl, show (2 : Int32) = o3 2 from rfl, o3_mul, o3_add, o3_add]
      exact ⟨S, _, _, by rw [if_neg (show ¬ (1 + 8 * sk (S.1 2) n i + 2 = 0) by omega)]; rfl, eQ.rf, fun q => absurd q (show ¬ (1 + 8 * sk (S.1 2) n i + 2 = 0) by omega)⟩
    · rw [if_neg hw, if_neg hw]
      dsimp only
      rw [if_pos (show (0 : Int32) = 0 from rfl), ct_sign hn hl (by decide) hj, bd_some, sk_id]
      by_cases hb : sk (S.1 2) n i < n ∧ S.1 2 (sk (S.1 2) n i) = 91
      · rw [if_pos hb, if_pos hb, if_pos (show 10 ≤ dep H by omega)]
        dsimp only
        rw [if_neg (show ¬ (1 : Int32) = 0 by decide), tS_ne (by omega), r4, if_neg (show ¬ o3 _ < (10 : Int32) from fun q => by have := (o3_lt (b := 10) (by omega) (by omega)).mp q; omega), ct_fail, bd_some, tS_3, tS_fa, show (1 : Int32) = o3 1 from rfl, show (8 : Int32) = o3 8 from rfl, show (2 : Int32) = o3 2 from rfl, o3_mul, o3_add, o3_add]
        exact ⟨S, _, _, by rw [if_neg (show ¬ (1 + 8 * sk (S.1 2) n i + 2 = 0) by omega)]; rfl, eQ.rf, fun q => absurd q (show ¬ (1 + 8 * sk (S.1 2) n i + 2 = 0) by omega)⟩
      · rw [if_neg hb, if_neg hb]
        dsimp only
        rw [if_pos (show (0 : Int32) = 0 from rfl)]
        exact ⟨S, 0, _, by rw [if_pos (show (0 : Nat) = 0 from rfl)], eQ.rf, fun _ => hR0⟩
  | succ d ih =>
    intro p nn H S i s hn ht hR hd hp hL hi hnn
    subst ht
    obtain ⟨nn, rfl⟩ : ∃ n', nn = n' + 1 := ⟨nn - 1, by omega⟩
    have hj := sk_le (t := S.1 2) hi
    have hR0 := hR
    obtain ⟨r1, r2, r3, r4, r5, r6, r7⟩ := hR
    have hbd := brk_dep H
    rw [lp_X5_readOpenings_2.eq_2, if_neg (show ¬ (10 : Int32) < o3 _ from fun q => by have := (o3_lt (a := 10) (by omega) (by omega)).mp q; omega), ct_word hn hl (w := 5) (by decide) hi, bd_some]
    have step : ∀ (x j' : Nat) (s' : Int32) (S1 : fS), (x = 4 ∨ x = 16) → j' ≤ n → S1.1 38 5 = o3 (brk (x :: H)) → S1.1 38 6 = o3 (dep (x :: H)) → (∀ a k, ¬ (a = 38 ∧ (k = 5 ∨ k = 6)) → S1.1 a k = S.1 a k) → S1.2 = S.2 → ∃ S' i' s'', ((f_X5_hold (o3 x) (tS S1 (o3 j') s' f)).bind fun q => lp_X5_readOpenings_2 K nn (o3 (p + 1)) q) = some (if (opn (S.1 2) n (d + 1) j' (x :: H)).1 = 0 then (1, tS S' (o3 (opn (S.1 2) n (d + 1) j' (x :: H)).2.1) s'' f) else (0, tS S' i' s'' (o3 (opn (S.1 2) n (d + 1) j' (x :: H)).1))) ∧ eQ S S' ∧ ((opn (S.1 2) n (d + 1) j' (x :: H)).1 = 0 → RC S' m c (opn (S.1 2) n (d + 1) j' (x :: H)).2.2) := by
      intro x j' s' S1 hx hj' h5 h6 hfr hfr2
      obtain ⟨S2, e1, e2, e3⟩ := cq_hold (m := m) (c := c) (H := H) (a := x) (i := o3 j') (s := s') (f := f) (by rw [hfr 38 3 (by omega)]; exact r1) (by rw [hfr 38 4 (by omega)]; exact r2) h5 h6 (fun k hk => by rw [hfr 39 k (by omega)]; exact r5 k hk) (by rw [hfr 40 2 (by omega)]; exact r6) (fun k hk => by rw [hfr 41 k (by omega)]; exact r7 k hk) (by omega)
      have hdx : dep (x :: H) = dep H + 1 := by rcases hx with rfl | rfl <;> rfl
      have hE1 : eQ S S1 := ⟨fun a k hn => hfr a k (fun q => hn (by unfold wQ; omega)), hfr2⟩
      rw [e1, bd_some]
      obtain ⟨S3, i3, s3, g1, g2, g3⟩ := ih (p + 1) nn (x :: H) S2 j' s' (by rw [e3.1 1 1 (by unfold wQ; omega), hfr 1 1 (by omega)]; exact hn) (funext fun k => by rw [e3.1 2 k (by unfold wQ; omega), hfr 2 k (by omega)]) e2 (by omega) (by omega) (by show H.length + 1 ≤ _; omega) hj' (by omega)
      exact ⟨S3, i3, s3, g1, (hE1.tr e3).tr g2, g3⟩
    rw [opn_s]
    by_cases hw : wat (S.1 2) n (mm_sb.getD 5 []) (sk (S.1 2) n i) = true
    · have hle : sk (S.1 2) n i + 3 ≤ n := wat_le hj hw
      rw [if_pos hw, if_pos hw, if_neg (show ¬ 10 ≤ dep H by omega)]
      dsimp only
      rw [if_neg (show ¬ (1 : Int32) = 0 by decide), tS_ne (by omega), r4, if_pos (show o3 _ < (10 : Int32) from (o3_lt (b := 10) (by omega) (by omega)).mpr (by omega)), bd_some, tS_pI (by omega), if_neg (show ¬ (1 : Int32) = 0 by decide), bd_some, tS_ne (by omega), pI_ne (by omega), r3, tS_pI (by omega), o3_s, o3_s, Int32.add_zero, if_neg (show ¬ (1 : Int32) = 0 by decide)]
      exact step 4 (sk (S.1 2) n i + 3) _ _ (Or.inl rfl) hle (by rw [pI_eq, brk_4]) (by rw [pI_ne (by omega), pI_eq, dep_4]) (fun a k h => by rw [pI_ne (by omega), pI_ne (by omega)]) rfl
    · rw [if_neg hw, if_neg hw]
      dsimp only
      rw [if_pos (show (0 : Int32) = 0 from rfl), ct_sign hn hl (by decide) hj, bd_some, sk_id]
      by_cases hb : sk (S.1 2) n i < n ∧ S.1 2 (sk (S.1 2) n i) = 91
      · rw [if_pos hb, if_pos hb, if_neg (show ¬ 10 ≤ dep H by omega)]
        dsimp only
        rw [if_neg (show ¬ (1 : Int32) = 0 by decide), tS_ne (by omega), r4, if_pos (show o3 _ < (10 : Int32) from (o3_lt (b := 10) (by omega) (by omega)).mpr (by omega)), bd_some, tS_pI (by omega), if_pos (show (0 : Int32) = 0 from rfl), bd_some, tS_ne (by omega), pI_ne (by omega), r3, tS_pI (by omega), o3_s, o3_s, o3_s, if_pos (show (0 : Int32) = 0 from rfl)]
        exact step 16 (sk (S.1 2) n i + 1) _ _ (Or.inr rfl) (by omega) (by rw [pI_eq, brk_16]) (by rw [pI_ne (by omega), pI_eq, dep_16]) (fun a k h => by rw [pI_ne (by omega), pI_ne (by omega)]) rfl
      · rw [if_neg hb, if_neg hb]
        dsimp only
        rw [if_pos (show (0 : Int32) = 0 from rfl)]
        exact ⟨S, 0, _, by rw [if_pos (show (0 : Nat) = 0 from rfl)], eQ.rf, fun _ => hR0⟩
end CO
end
section
/-! signs -/
def rk (t : Nat → Int32) (n j : Nat) : Nat := if j < n ∧ t j = 43 then 7 else if j < n ∧ t j = 45 then 8 else if j < n ∧ t j = 42 then 9 else if j < n ∧ t j = 47 then 10 else 0
def jn (t : Nat → Int32) (n j : Nat) : Nat := if wat t n (mm_sb.getD 14 []) j = true then 5 else if wat t n (mm_sb.getD 15 []) j = true then 6 else 0
def jnL (k : Nat) : Nat := if k = 5 then 3 else 2
def cm (t : Nat → Int32) (n j : Nat) : Nat := if j < n ∧ t j = 61 then 13 else if j < n ∧ t j = 60 then (if j + 1 < n ∧ t (j + 1) = 61 then 12 else 11) else if j < n ∧ t j = 62 then (if j + 1 < n ∧ t (j + 1) = 61 then 14 else 15) else 0
def cmL (k : Nat) : Nat := if k = 12 ∨ k = 14 then 2 else 1
section CS
variable {S : fS} {m n : Nat} {c : List (Nat × Nat)} {H : List Nat} {s f : Int32}
theorem cs_reck (hn : S.1 1 1 = o3 n) (hl : n ≤ 400) {i : Nat} (hi : i ≤ n) : f_X5_takeReckoning (tS S (o3 i) s f) = some (if rk (S.1 2) n (sk (S.1 2) n i) = 0 then (-1, tS S (o3 (sk (S.1 2) n i)) s f) else (o3 (rk (S.1 2) n (sk (S.1 2) n i)), tS S (o3 (sk (S.1 2) n i + 1)) (o3 (sk (S.1 2) n i)) f)) := by
  have hj := sk_le (t := S.1 2) hi
  have hid := sk_id (t := S.1 2) (n := n) (i := i)
  unfold f_X5_takeReckoning rk
  rw [ct_sign hn hl (by decide) hi, bd_some]
  generalize sk (S.1 2) n i = j at hj hid
  by_cases h0 : j < n ∧ S.1 2 j = 43
  · simp only [if_pos h0]; rw [if_neg (by decide), if_neg (by omega)]; rfl
  simp only [if_neg h0]
  rw [if_pos trivial, ct_sign hn hl (by decide) hj, bd_some, hid]
  by_cases h1 : j < n ∧ S.1 2 j = 45
  · simp only [if_pos h1]; rw [if_neg (by decide), if_neg (by omega)]; rfl
  simp only [if_neg h1]
  rw [if_pos trivial, ct_sign hn hl (by decide) hj, bd_some, hid]
  by_cases h2 : j < n ∧ S.1 2 j = 42
  · simp only [if_pos h2]; rw [if_neg (by decide), if_neg (by omega)]; rfl
  simp only [if_neg h2]
  rw [if_pos trivial, ct_sign hn hl (by decide) hj, bd_some, hid]
  by_cases h3 : j < n ∧ S.1 2 j = 47
  · simp only [if_pos h3]; rw [if_neg (by decide), if_neg (by omega)]; rfl
  simp only [if_neg h3]
  rw [if_pos trivial, if_pos trivial]
theorem cs_join (hn : S.1 1 1 = o3 n) (hl : n ≤ 400) {i : Nat} (hi : i ≤ n) : f_X5_takeJoining (tS S (o3 i) s f) = some (if jn (S.1 2) n (sk (S.1 2) n i) = 0 then (-1, tS S (o3 (sk (S.1 2) n i)) s f) else (o3 (jn (S.1 2) n (sk (S.1 2) n i)), tS S (o3 (sk (S.1 2) n i + jnL (jn (S.1 2) n (sk (S.1 2) n i)))) (o3 (sk (S.1 2) n i)) f)) := by
  have hj := sk_le (t := S.1 2) hi
  have hid := sk_id (t := S.1 2) (n := n) (i := i)
  unfold f_X5_takeJoining jn
  rw [ct_word hn hl (w := 14) (by decide) hi, bd_some]
  generalize sk (S.1 2) n i = j at hj hid
  by_cases h0 : wat (S.1 2) n (mm_sb.getD 14 []) j = true
  · simp only [if_pos h0]; rw [if_neg (by decide), if_neg (by omega)]; rfl
  simp only [if_neg h0]
  rw [if_pos trivial, ct_word hn hl (w := 15) (by decide) hj, bd_some, hid]
  by_cases h1 : wat (S.1 2) n (mm_sb.getD 15 []) j = true
  · simp only [if_pos h1]; rw [if_neg (by decide), if_neg (by omega)]; rfl
  simp only [if_neg h1]
  rw [if_pos trivial, if_pos trivial]
theorem cs_cmp (hn : S.1 1 1 = o3 n) (hl : n ≤ 400) {i : Nat} (hi : i ≤ n) : f_X5_takeComparing (tS S (o3 i) s f) = some (if cm (S.1 2) n (sk (S.1 2) n i) = 0 then (-1, tS S (o3 (sk (S.1 2) n i)) s f) else (o3 (cm (S.1 2) n (sk (S.1 2) n i)), tS S (o3 (sk (S.1 2) n i + cmL (cm (S.1 2) n (sk (S.1 2) n i)))) (o3 (sk (S.1 2) n i)) f)) := by
  have hj := sk_le (t := S.1 2) hi
  have hid := sk_id (t := S.1 2) (n := n) (i := i)
  unfold f_X5_takeComparing cm
  rw [ct_sign hn hl (by decide) hi, bd_some]
  generalize sk (S.1 2) n i = j at hj hid
  have byte : ∀ s', (f_X7_byteAt ((tS S (o3 (j + 1)) s' f).1 1 2) (tS S (o3 (j + 1)) s' f)) = some (if j + 1 < n then S.1 2 (j + 1) else -1) := fun s' => by
    rw [tS_2, ct_byte hl (X := tS S (o3 (j + 1)) s' f) (by rw [tS_1, hn]) (by omega), tS_t]
  have b61 : ((if j + 1 < n then S.1 2 (j + 1) else -1) = (61 : Int32)) ↔ (j + 1 < n ∧ S.1 2 (j + 1) = 61) := by
    by_cases h : j + 1 < n
    · rw [if_pos h]; exact ⟨fun q => ⟨h, q⟩, fun q => q.2⟩
    · rw [if_neg h]; exact ⟨fun q => absurd q (by decide), fun q => absurd q.1 h⟩
  by_cases h0 : j < n ∧ S.1 2 j = 61
  · simp only [if_pos h0]; rw [if_neg (by decide), if_neg (by omega)]; rfl
  simp only [if_neg h0]
  rw [if_pos trivial, ct_sign hn hl (by decide) hj, bd_some, hid]
  by_cases h1 : j < n ∧ S.1 2 j = 60
  · simp only [if_pos h1]
    rw [if_neg (by decide), byte, bd_some]
    by_cases h2 : j + 1 < n ∧ S.1 2 (j + 1) = 61
    · rw [if_pos (b61.mpr h2), bd_some, tS_2, tS_at, o3_s]
      simp only [if_pos h2]
      rw [if_neg (by decide), if_neg (by omega)]
      rfl
    · rw [if_neg (fun q => h2 (b61.mp q))]
      simp only [if_neg h2]
      rw [if_neg (by decide), if_neg (by omega)]
      rfl
  simp only [if_neg h1]
  rw [if_pos trivial, ct_sign hn hl (by decide) hj, bd_some, hid]
  by_cases h3 : j < n ∧ S.1 2 j = 62
  · simp only [if_pos h3]
    rw [if_neg (by decide), byte, bd_some]
    by_cases h2 : j + 1 < n ∧ S.1 2 (j + 1) = 61
    · rw [if_pos (b61.mpr h2), bd_some, tS_2, tS_at, o3_s]
      simp only [if_pos h2]
      rw [if_pos trivial, if_neg (by omega)]
      rfl
    · rw [if_neg (fun q => h2 (b61.mp q))]
      simp only [if_neg h2]
      rw [if_pos trivial, if_neg (by omega)]
      rfl
  simp only [if_neg h3]
  rw [if_pos trivial, if_pos trivial]
end CS
end
section
/-! brackets that close -/
def elH (H : List Nat) : Prop := ∀ x ∈ H, 4 ≤ x ∧ x < 17
def clo (t : Nat → Int32) (n : Nat) : Nat → Nat → List Nat → List (Nat × Nat) × Nat × List Nat
  | 0, i, H => ([], i, H)
  | f + 1, i, H => if 0 < brk H then (if sk t n i < n ∧ t (sk t n i) = 93 then (stO 1 H ++ (clo t n f (sk t n i + 1) (stR 1 H).tail).1, (clo t n f (sk t n i + 1) (stR 1 H).tail).2) else ([], sk t n i, H)) else ([], i, H)
theorem clo_s {t : Nat → Int32} {n f i : Nat} {H : List Nat} : clo t n (f + 1) i H = if 0 < brk H then (if sk t n i < n ∧ t (sk t n i) = 93 then (stO 1 H ++ (clo t n f (sk t n i + 1) (stR 1 H).tail).1, (clo t n f (sk t n i + 1) (stR 1 H).tail).2) else ([], sk t n i, H)) else ([], i, H) := rfl
theorem bnd_0 : ∀ x, 4 ≤ x → x < 17 → (1 ≤ bnd x ↔ x ≠ 16) := by
  intro x h1 h2
  have : ∀ x, x < 17 → 4 ≤ x → (1 ≤ bnd x ↔ x ≠ 16) := by decide
  exact this x h2 h1
theorem st1_16 : ∀ H, elH H → 0 < brk H → ∃ H', stR 1 H = 16 :: H' ∧ brk H' + 1 = brk H ∧ dep H' + 1 ≤ dep H ∧ elH H' ∧ (stO 1 H).length + H'.length + 1 = H.length := by
  intro H
  induction H with
  | nil => intro _ h; exact absurd h (Nat.lt_irrefl 0)
  | cons x H ih =>
    intro he hb
    have hx := he x List.mem_cons_self
    have he' : elH H := fun y hy => he y (List.mem_cons_of_mem _ hy)
    by_cases h16 : x = 16
    · subst h16
      have e1 : stR 1 (16 :: H) = 16 :: H := if_neg (by decide)
      have e2 : stO 1 (16 :: H) = [] := if_neg (by decide)
      rw [e1, e2]
      exact ⟨H, rfl, rfl, Nat.le_refl _, he', by show 0 + H.length + 1 = H.length + 1; omega⟩
    · have hle : 1 ≤ bnd x := (bnd_0 x hx.1 hx.2).mpr h16
      have e1 : stR 1 (x :: H) = stR 1 H := if_pos hle
      have e2 : stO 1 (x :: H) = (x, 0) :: stO 1 H := if_pos hle
      have hbx : brk (x :: H) = brk H := by show brk H + (if x = 16 then 1 else 0) = _; rw [if_neg h16]; rfl
      rw [hbx] at hb
      obtain ⟨H', p1, p2, p3, p4, p5⟩ := ih he' hb
      rw [e1, e2, hbx]
      have hdx : dep H ≤ dep (x :: H) := Nat.le_add_right _ _
      exact ⟨H', p1, p2, by omega, p4, by show (stO 1 H).length + 1 + _ + 1 = H.length + 1; omega⟩
theorem stR_dep1 : ∀ H, elH H → dep (stR 1 H) ≤ dep H := fun H _ => stR_dep H
section CB
variable {m n : Nat} {f : Int32} {t : Nat → Int32}
theorem cb_close (hl : n ≤ 400) {K : fS → Option fS} : ∀ d nn (c : List (Nat × Nat)) (H : List Nat) (S : fS) (i : Nat) (s : Int32), S.1 1 1 = o3 n → S.1 2 = t → RC S m c H → elH H → brk H = d → H.length ≤ 64 → dep H ≤ 10 → c.length + H.length ≤ 400 → i ≤ n → d < nn → ∃ S' s', lp_X5_closeBrackets_0 K nn (tS S (o3 i) s f) = K (tS S' (o3 (clo t n (d + 1) i H).2.1) s' f) ∧ eQ S S' ∧ RC S' m (c ++ (clo t n (d + 1) i H).1) (clo t n (d + 1) i H).2.2 := by
  intro d
  induction d with
  | zero =>
    intro nn c H S i s hn ht hR he hd hL hD hcl hi hnn
    obtain ⟨nn, rfl⟩ : ∃ n', nn = n' + 1 := ⟨nn - 1, by omega⟩
    rw [lp_X5_closeBrackets_0.eq_2, tS_ne (by omega), hR.2.2.1, hd, if_pos (by decide), clo_s, if_neg (by omega)]
    refine ⟨S, s, rfl, eQ.rf, ?_⟩
    show RC S m (c ++ []) H
    rw [List.append_nil]; exact hR
  | succ d ih =>
    intro nn c H S i s hn ht hR he hd hL hD hcl hi hnn
    subst ht
    obtain ⟨nn, rfl⟩ : ∃ n', nn = n' + 1 := ⟨nn - 1, by omega⟩
    have hj := sk_le (t := S.1 2) hi
    have hbd := brk_dep H
    rw [lp_X5_closeBrackets_0.eq_2, tS_ne (by omega), hR.2.2.1, hd, if_neg (show ¬ o3 _ ≤ (0 : Int32) from fun q => by have := (o3_le (b := 0) (by omega) (by omega)).mp q; omega), ct_sign hn hl (by decide) hi, bd_some, clo_s, if_pos (show 0 < brk H by omega)]
    by_cases hc : sk (S.1 2) n i < n ∧ S.1 2 (sk (S.1 2) n i) = 93
    · rw [if_pos hc, if_pos hc]
      dsimp only
      rw [if_neg (show ¬ (1 : Int32) = 0 by decide), show (6 : Int32) = o3 6 from rfl, gB_o (by omega), bd_some, show bnd 6 = 1 from rfl]
      obtain ⟨S1, e1, e2, e3⟩ := cq_settle (i := o3 (sk (S.1 2) n i + 1)) (s := o3 (sk (S.1 2) n i)) (f := f) (b := 1) (by omega) (by omega) hR (fun x hx => (he x hx).2) hL (by omega) hcl
      obtain ⟨H', p1, p2, p3, p4, p5⟩ := st1_16 H he (by omega)
      have hdep := stR_dep (b := 1) H
      have hbrk1 := stR_brk (b := 1) (by omega) H
      rw [p1] at e2 hdep hbrk1
      obtain ⟨r1, r2, r3, r4, r5, r6, r7⟩ := e2
      have r2 : S1.1 38 4 = o3 (H'.length + 1) := r2
      rw [e1, bd_some, tS_ne (by omega), r2, show (1 : Int32) = o3 1 from rfl, o3_sub (by omega), show H'.length + 1 - 1 = H'.length by omega]
      have hmax : ∀ X, f_J9_max_7cf53 (o3 H'.length) (0 : Int32) X = some (o3 H'.length) := fun X => by
        unfold f_J9_max_7cf53
        rw [if_neg (o3_nn (by omega))]
      rw [hmax, bd_some, bd_some, tS_pI (by omega), tS_ne (by omega), pI_ne (by omega), r4, bd_some, tS_pI (by omega), tS_ne (by omega), pI_ne (by omega), pI_ne (by omega), r3, dep_16, brk_16, o3_sub (by omega), o3_sub (by omega), tS_pI (by omega), show dep H' + 1 - 1 = dep H' by omega, show brk H' + 1 - 1 = brk H' by omega]
      have hE : eQ S1 (pI (pI (pI S1 38 4 (o3 H'.length)) 38 6 (o3 (dep H'))) 38 5 (o3 (brk H'))) := ((eQ_pI (by unfold wQ; omega)).tr (eQ_pI (by unfold wQ; omega))).tr (eQ_pI (by unfold wQ; omega))
      have hRn : RC (pI (pI (pI S1 38 4 (o3 H'.length)) 38 6 (o3 (dep H'))) 38 5 (o3 (brk H'))) m (c ++ stO 1 H) H' := by
        refine ⟨?_, ?_, ?_, ?_, fun k hk => ?_, ?_, fun k hk => ?_⟩
        · rw [pI_ne (by omega), pI_ne (by omega), pI_ne (by omega)]; exact r1
        · rw [pI_ne (by omega), pI_ne (by omega), pI_eq]
        · rw [pI_eq]
        · rw [pI_ne (by omega), pI_eq]
        · rw [pI_ne (by omega), pI_ne (by omega), pI_ne (by omega), r5 k (Nat.lt_succ_of_lt hk), rv_init hk]
        · rw [pI_ne (by omega), pI_ne (by omega), pI_ne (by omega)]; exact r6
        · rw [pI_ne (by omega), pI_ne (by omega), pI_ne (by omega)]; exact r7 k hk
      have hE2 := e3.tr hE
      generalize hX : pI (pI (pI S1 38 4 (o3 H'.length)) 38 6 (o3 (dep H'))) 38 5 (o3 (brk H')) = X at hRn hE2
      have hlen : (c ++ stO 1 H).length = c.length + (stO 1 H).length := List.length_append
      obtain ⟨S2, s2, g1, g2, g3⟩ := ih nn (c ++ stO 1 H) H' X (sk (S.1 2) n i + 1) (o3 (sk (S.1 2) n i)) (by rw [hE2.1 1 1 (by unfold wQ; omega)]; exact hn) (funext fun k => hE2.1 2 k (by unfold wQ; omega)) hRn p4 (by omega) (by omega) (by omega) (by omega) (by omega) (by omega)
      rw [p1]
      refine ⟨S2, s2, g1, hE2.tr g2, ?_⟩
      show RC S2 m (c ++ (stO 1 H ++ (clo (S.1 2) n (d + 1) (sk (S.1 2) n i + 1) H').1)) (clo (S.1 2) n (d + 1) (sk (S.1 2) n i + 1) H').2.2
      rw [← List.append_assoc]
      exact g3
    · rw [if_neg hc, if_neg hc]
      dsimp only
      rw [if_pos (show (0 : Int32) = 0 from rfl)]
      refine ⟨S, s, rfl, eQ.rf, ?_⟩
      show RC S m (c ++ []) H
      rw [List.append_nil]; exact hR
theorem clo_pr : ∀ d (H : List Nat) (i : Nat), elH H → brk H ≤ d → i ≤ n → elH (clo t n d i H).2.2 ∧ dep (clo t n d i H).2.2 ≤ dep H ∧ (clo t n d i H).1.length + (clo t n d i H).2.2.length ≤ H.length ∧ i ≤ (clo t n d i H).2.1 ∧ (clo t n d i H).2.1 ≤ n := by
  intro d
  induction d with
  | zero => intro H i he _ hi; exact ⟨he, Nat.le_refl _, by show 0 + H.length ≤ H.length; omega, Nat.le_refl _, hi⟩
  | succ d ih =>
    intro H i he hb hi
    have hj := sk_le (t := t) hi
    have hg := sk_ge (t := t) (n := n) (i := i)
    rw [clo_s]
    by_cases h0 : 0 < brk H
    · rw [if_pos h0]
      by_cases hc : sk t n i < n ∧ t (sk t n i) = 93
      · rw [if_pos hc]
        obtain ⟨H', p1, p2, p3, p4, p5⟩ := st1_16 H he h0
        rw [p1]
        obtain ⟨q1, q2, q3, q4, q5⟩ := ih H' (sk t n i + 1) p4 (by omega) (by omega)
        refine ⟨q1, Nat.le_trans q2 (by omega), ?_, ?_, q5⟩
        · show (stO 1 H ++ (clo t n d (sk t n i + 1) H').1).length + _ ≤ _
          rw [List.length_append]
          show _ + (clo t n d (sk t n i + 1) H').2.2.length ≤ _
          omega
        · show i ≤ (clo t n d (sk t n i + 1) H').2.1
          omega
      · rw [if_neg hc]
        exact ⟨he, Nat.le_refl _, by show 0 + H.length ≤ H.length; omega, hg, hj⟩
    · rw [if_neg h0]
      exact ⟨he, Nat.le_refl _, by show 0 + H.length ≤ H.length; omega, Nat.le_refl _, hi⟩
end CB
end
section
/-! a test, turn by turn -/
/-- due, compared, made, written, held, place -/
abbrev TS : Type := Bool × Bool × Nat × List (Nat × Nat) × List Nat × Nat
/-- fault, place, made, written -/
abbrev TR : Type := Nat × Nat × Nat × List (Nat × Nat)
/-- behind a value: a sign of reckoning; or, where a fact has been compared, the end of the fact; or a sign that compares -/
def aft (t : Nat → Int32) (n : Nat) (cp : Bool) (m : Nat) (c : List (Nat × Nat)) (H : List Nat) (i : Nat) : TR ⊕ TS :=
  if rk t n (sk t n i) = 0 then
    (if cp = true then
      (if jn t n (sk t n (clo t n (brk H + 1) (sk t n i) H).2.1) = 0 then
        (if brk (clo t n (brk H + 1) (sk t n i) H).2.2 = 0 then .inl (0, sk t n (clo t n (brk H + 1) (sk t n i) H).2.1, m, c ++ (clo t n (brk H + 1) (sk t n i) H).1 ++ stO 1 (clo t n (brk H + 1) (sk t n i) H).2.2)
          else .inl (1 + 8 * sk t n (clo t n (brk H + 1) (sk t n i) H).2.1, 0, 0, []))
        else .inr (true, false, m, c ++ (clo t n (brk H + 1) (sk t n i) H).1 ++ stO (bnd (jn t n (sk t n (clo t n (brk H + 1) (sk t n i) H).2.1))) (clo t n (brk H + 1) (sk t n i) H).2.2, jn t n (sk t n (clo t n (brk H + 1) (sk t n i) H).2.1) :: stR (bnd (jn t n (sk t n (clo t n (brk H + 1) (sk t n i) H).2.1))) (clo t n (brk H + 1) (sk t n i) H).2.2, sk t n (clo t n (brk H + 1) (sk t n i) H).2.1 + jnL (jn t n (sk t n (clo t n (brk H + 1) (sk t n i) H).2.1))))
      else (if cm t n (sk t n i) = 0 then .inl (1 + 8 * sk t n i, 0, 0, [])
        else (if 60 ≤ m then .inl (1 + 8 * sk t n i + 3, 0, 0, []) else .inr (false, true, m + 1, c ++ stO 4 H, cm t n (sk t n i) :: stR 4 H, sk t n i + cmL (cm t n (sk t n i))))))
  else .inr (false, cp, m, c ++ stO (bnd (rk t n (sk t n i))) H, rk t n (sk t n i) :: stR (bnd (rk t n (sk t n i))) H, sk t n i + 1)
/-- a turn: openings, where a fact is due; a value; what stands behind it -/
def tval (t : Nat → Int32) (n : Nat) (cp : Bool) (m : Nat) (c : List (Nat × Nat)) (H : List Nat) (i : Nat) : TR ⊕ TS :=
  if vlF t n m (sk t n i) = 0 then aft t n cp (m + 1) (c ++ [vlC t n (sk t n i)]) H (vlP t n (sk t n i)) else .inl (vlF t n m (sk t n i), 0, 0, [])
def stp (t : Nat → Int32) (n : Nat) (x : TS) : TR ⊕ TS :=
  if x.1 = true then (if (opn t n (11 - dep x.2.2.2.2.1) x.2.2.2.2.2 x.2.2.2.2.1).1 = 0 then tval t n false x.2.2.1 x.2.2.2.1 (opn t n (11 - dep x.2.2.2.2.1) x.2.2.2.2.2 x.2.2.2.2.1).2.2 (opn t n (11 - dep x.2.2.2.2.1) x.2.2.2.2.2 x.2.2.2.2.1).2.1 else .inl ((opn t n (11 - dep x.2.2.2.2.1) x.2.2.2.2.2 x.2.2.2.2.1).1, 0, 0, []))
  else tval t n x.2.1 x.2.2.1 x.2.2.2.1 x.2.2.2.2.1 x.2.2.2.2.2
def run (t : Nat → Int32) (n : Nat) : Nat → TS → TR
  | 0, _ => (1, 0, 0, [])
  | f + 1, x => match stp t n x with
    | .inl r => r
    | .inr y => run t n f y
/-- the class, behind a value -/
def tA (K : fS → Option (Int32 × fS)) (nn : Nat) (z p3 : Int32) (X : fS) : Option (Int32 × fS) :=
  (f_X5_takeReckoning X).bind fun q16 =>
  if (0 : Int32) ≤ q16.1 then ((gB q16.1).bind fun a22 =>
    (f_X5_settle a22 q16.2).bind fun q25 =>
    (f_X5_hold q16.1 q25).bind fun q28 =>
    lp_X5_readTest_21 K nn (0 : Int32) z (p3 + (1 : Int32)) q28)
  else if z = (0 : Int32) then
    ((f_X5_takeComparing q16.2).bind fun q31 =>
    if (0 : Int32) ≤ q31.1 then ((f_X5_isRoomForOne q31.2).bind fun q35 =>
    if q35.1 = (0 : Int32) then (some ((0 : Int32), q35.2)) else
    ((gB q31.1).bind fun a39 =>
    (f_X5_settle a39 q35.2).bind fun q42 =>
    (f_X5_hold q31.1 q42).bind fun q45 =>
    lp_X5_readTest_21 K nn (0 : Int32) (1 : Int32) (p3 + (1 : Int32)) q45)) else
    ((f_X7_fail (q31.2.1 1 2) (0 : Int32) q31.2).bind fun q48 =>
    (bZ q48.1).bind fun z51 => some (z51, q48.2)))
  else
    ((f_X5_closeBrackets q16.2).bind fun q56 =>
    (f_X5_takeJoining q56).bind fun q59 =>
    if (0 : Int32) ≤ q59.1 then ((gB q59.1).bind fun a63 =>
    (f_X5_settle a63 q59.2).bind fun q66 =>
    (f_X5_hold q59.1 q66).bind fun q69 =>
    lp_X5_readTest_21 K nn (1 : Int32) z (p3 + (1 : Int32)) q69) else
    ((f_X5_isTestOver q59.2).bind fun q72 =>
    (bZ q72.1).bind fun z75 => some (z75, q72.2)))
set_option maxHeartbeats 4000000 in
theorem tA_eq {K : fS → Option (Int32 × fS)} {nn : Nat} {p1 p2 p3 : Int32} {S0 : fS} : lp_X5_readTest_21 K (nn + 1) p1 p2 p3 S0 = if (400 : Int32) ≤ p3 then K S0 else if p1 = 0 then ((f_X5_readValue S0).bind fun q12 => if q12.1 = (0 : Int32) then (some ((0 : Int32), q12.2)) else tA K nn p2 p3 q12.2) else ((f_X5_readOpenings S0).bind fun q201 => if q201.1 = (0 : Int32) then (some ((0 : Int32), q201.2)) else ((f_X5_readValue q201.2).bind fun q205 => if q205.1 = (0 : Int32) then (some ((0 : Int32), q205.2)) else tA K nn 0 p3 q205.2)) := by
  rw [lp_X5_readTest_21.eq_2]
  unfold tA
  have e00 : ((0 : Int32) = 0) = True := by simp
  have e10 : ((1 : Int32) = 0) = False := by decide
  by_cases h4 : (400 : Int32) ≤ p3
  · rw [if_pos h4, if_pos h4]
  · rw [if_neg h4, if_neg h4]
    by_cases hp : p1 = 0
    · rw [if_pos hp, if_pos hp]
      congr 1
      funext q12
      by_cases hq : q12.1 = 0
      · rw [if_pos hq, if_pos hq]
      · rw [if_neg hq, if_neg hq]
        congr 1
        funext q16
        by_cases h : (0 : Int32) ≤ q16.1
        · simp only [if_pos h, e00, if_true]
        · by_cases hz : p2 = 0
          · simp only [if_neg h, if_pos hz, e00, if_true]
          · simp only [if_neg h, if_neg hz, e10, if_false]
    · rw [if_neg hp, if_neg hp]
      congr 1
      funext q201
      by_cases hq : q201.1 = 0
      · rw [if_pos hq, if_pos hq]
      · rw [if_neg hq, if_neg hq]
        congr 1
        funext q205
        by_cases hq2 : q205.1 = 0
        · rw [if_pos hq2, if_pos hq2]
        · rw [if_neg hq2, if_neg hq2]
          congr 1
          funext q209
          by_cases h : (0 : Int32) ≤ q209.1
          · simp only [if_pos h, e00, if_true]
          · simp only [if_neg h, e00, if_true]
end
section
/-! the class's turn is the automaton's -/
def okHs : Nat → List Nat → Prop
  | _, [] => True
  | b, x :: H => (x = 16 ∧ okHs 4 H) ∨ (x = 4 ∧ 3 < b ∧ okHs 4 H) ∨ (x ≠ 16 ∧ x ≠ 4 ∧ bnd x < b ∧ 1 ≤ bnd x ∧ bnd x ≠ 3 ∧ okHs (bnd x) H)
theorem okHs_mo : ∀ (H : List Nat) (b b' : Nat), b ≤ b' → okHs b H → okHs b' H := by
  intro H
  cases H with
  | nil => intro _ _ _ _; trivial
  | cons x H =>
    intro b b' hb h
    rcases h with h | ⟨h1, h2, h3⟩ | ⟨h1, h2, h3, h4, h5, h6⟩
    · exact Or.inl h
    · exact Or.inr (Or.inl ⟨h1, by omega, h3⟩)
    · exact Or.inr (Or.inr ⟨h1, h2, by omega, h4, h5, h6⟩)
def gg (b : Nat) : Nat := (if 1 < b then 1 else 0) + (if 2 < b then 1 else 0) + (if 4 < b then 1 else 0) + (if 5 < b then 1 else 0) + (if 6 < b then 1 else 0)
theorem bnd_6 (x : Nat) : bnd x ≤ 6 := by
  unfold bnd
  split <;> omega
theorem okHs_len : ∀ (H : List Nat) (b : Nat), okHs b H → H.length ≤ dep H + 2 * brk H + gg b := by
  intro H
  induction H with
  | nil => intro b _; exact Nat.zero_le _
  | cons x H ih =>
    intro b h
    show H.length + 1 ≤ dep (x :: H) + 2 * brk (x :: H) + gg b
    rcases h with ⟨rfl, h⟩ | ⟨rfl, h2, h3⟩ | ⟨h1, h2, h3, h4, h5, h6⟩
    · have := ih 4 h
      have g4 : gg 4 = 2 := by decide
      rw [dep_16, brk_16]
      omega
    · have := ih 4 h3
      have g4 : gg 4 = 2 := by decide
      have gb : 2 ≤ gg b := by unfold gg; rw [if_pos (by omega), if_pos (by omega)]; omega
      rw [dep_4, brk_4]
      omega
    · have := ih (bnd x) h6
      have hd : dep (x :: H) = dep H := by show dep H + (if x = 16 ∨ x = 4 then 1 else 0) = _; rw [if_neg (by omega)]; rfl
      have hk : brk (x :: H) = brk H := by show brk H + (if x = 16 then 1 else 0) = _; rw [if_neg h1]; rfl
      have h7 := bnd_6 x
      have gx : gg (bnd x) + 1 ≤ gg b := by
        generalize bnd x = y at h3 h4 h5 h7
        have : y = 1 ∨ y = 2 ∨ y = 4 ∨ y = 5 ∨ y = 6 := by omega
        unfold gg
        rcases this with rfl | rfl | rfl | rfl | rfl
        · rw [if_pos (show 1 < b by omega)]; simp; omega
        · rw [if_pos (show 1 < b by omega), if_pos (show 2 < b by omega)]; simp; omega
        · rw [if_pos (show 1 < b by omega), if_pos (show 2 < b by omega), if_pos (show 4 < b by omega)]; simp; omega
        · rw [if_pos (show 1 < b by omega), if_pos (show 2 < b by omega), if_pos (show 4 < b by omega), if_pos (show 5 < b by omega)]; simp
        · rw [if_pos (show 1 < b by omega), if_pos (show 2 < b by omega), if_pos (show 4 < b by omega), if_pos (show 5 < b by omega), if_pos (show 6 < b by omega)]; simp
      rw [hd, hk]
      omega
theorem okHs_st {b : Nat} : ∀ (H : List Nat) (k : Nat), okHs k H → okHs b (stR b H) := by
  intro H
  induction H with
  | nil => intro _ _; trivial
  | cons x H ih =>
    intro k h
    unfold stR
    by_cases hle : b ≤ bnd x
    · rw [if_pos hle]
      rcases h with ⟨h1, h⟩ | ⟨h1, h2, h3⟩ | ⟨h1, h2, h3, h4, h5, h6⟩
      · exact ih 4 h
      · exact ih 4 h3
      · exact ih _ h6
    · rw [if_neg hle]
      rcases h with h | ⟨h1, h2, h3⟩ | ⟨h1, h2, h3, h4, h5, h6⟩
      · exact Or.inl h
      · refine Or.inr (Or.inl ⟨h1, ?_, h3⟩)
        rw [h1] at hle
        have : bnd 4 = 3 := rfl
        omega
      · exact Or.inr (Or.inr ⟨h1, h2, by omega, h4, h5, h6⟩)
theorem okHs_el : ∀ (H : List Nat) (k : Nat), okHs k H → (∀ x ∈ H, x < 17) → elH H := by
  intro H
  induction H with
  | nil => intro _ _ _ x hx; exact absurd hx List.not_mem_nil
  | cons y H ih =>
    intro k h hl x hx
    have hl' : ∀ x ∈ H, x < 17 := fun z hz => hl z (List.mem_cons_of_mem _ hz)
    rcases h with ⟨h1, h⟩ | ⟨h1, h2, h3⟩ | ⟨h1, h2, h3, h4, h5, h6⟩
    · rcases List.mem_cons.mp hx with rfl | hx
      · omega
      · exact ih 4 h hl' x hx
    · rcases List.mem_cons.mp hx with rfl | hx
      · omega
      · exact ih 4 h3 hl' x hx
    · rcases List.mem_cons.mp hx with rfl | hx
      · refine ⟨?_, hl x List.mem_cons_self⟩
        refine Nat.not_lt.mp (fun hq => ?_)
        have : ∀ z, z < 4 → bnd z = 0 := by decide
        have := this x hq
        omega
      · exact ih _ h6 hl' x hx
theorem okHs_op : ∀ (P H : List Nat), (∀ x ∈ P, x = 4 ∨ x = 16) → okHs 4 H → okHs 4 (P ++ H) := by
  intro P
  induction P with
  | nil => intro H _ h; exact h
  | cons x P ih =>
    intro H hP h
    have := ih H (fun y hy => hP y (List.mem_cons_of_mem _ hy)) h
    rcases hP x List.mem_cons_self with rfl | rfl
    · exact Or.inr (Or.inl ⟨rfl, by omega, this⟩)
    · exact Or.inl ⟨rfl, this⟩
theorem okHs_pu {a b : Nat} {H : List Nat} (h : okHs b H) (ha : a ≠ 16 ∧ a ≠ 4) (hb : bnd a = b) (h1 : 1 ≤ b) (h3 : b ≠ 3) : okHs (b + 1) (a :: H) := Or.inr (Or.inr ⟨ha.1, ha.2, by omega, by omega, by omega, by rw [hb]; exact h⟩)
theorem okHs_cl {t : Nat → Int32} {n : Nat} : ∀ d (H : List Nat) (i : Nat), okHs 7 H → elH H → okHs 7 (clo t n d i H).2.2 := by
  intro d
  induction d with
  | zero => intro H i h _; exact h
  | succ d ih =>
    intro H i h he
    rw [clo_s]
    by_cases h0 : 0 < brk H
    · rw [if_pos h0]
      by_cases hc : sk t n i < n ∧ t (sk t n i) = 93
      · rw [if_pos hc]
        obtain ⟨H', p1, p2, p3, p4, p5⟩ := st1_16 H he h0
        have hs := okHs_st (b := 1) H 7 h
        rw [p1] at hs
        have h4 : okHs 4 H' := by
          rcases hs with ⟨-, h⟩ | ⟨h1, -⟩ | ⟨h1, -⟩
          · exact h
          · exact absurd h1 (by decide)
          · exact absurd rfl h1
        rw [p1]
        exact ih H' _ (okHs_mo _ 4 7 (by omega) h4) p4
      · rw [if_neg hc]; exact h
    · rw [if_neg h0]; exact h
end
section
section CT3
variable {n m : Nat} {c : List (Nat × Nat)} {H : List Nat} {f : Int32}
theorem rk_cs {t : Nat → Int32} {j : Nat} (h : ¬ rk t n j = 0) : (rk t n j = 7 ∨ rk t n j = 8 ∨ rk t n j = 9 ∨ rk t n j = 10) ∧ j < n := by
  unfold rk at h ⊢
  by_cases h0 : j < n ∧ t j = 43
  · rw [if_pos h0]; exact ⟨by omega, h0.1⟩
  · rw [if_neg h0] at h ⊢
    by_cases h1 : j < n ∧ t j = 45
    · rw [if_pos h1]; exact ⟨by omega, h1.1⟩
    · rw [if_neg h1] at h ⊢
      by_cases h2 : j < n ∧ t j = 42
      · rw [if_pos h2]; exact ⟨by omega, h2.1⟩
      · rw [if_neg h2] at h ⊢
        by_cases h3 : j < n ∧ t j = 47
        · rw [if_pos h3]; exact ⟨by omega, h3.1⟩
        · rw [if_neg h3] at h; exact absurd rfl h
theorem jn_cs {t : Nat → Int32} {j : Nat} (hj : j ≤ n) (h : ¬ jn t n j = 0) : (jn t n j = 5 ∨ jn t n j = 6) ∧ j + jnL (jn t n j) ≤ n ∧ 2 ≤ jnL (jn t n j) := by
  unfold jn at h ⊢
  by_cases h0 : wat t n (mm_sb.getD 14 []) j = true
  · rw [if_pos h0]
    have : j + 3 ≤ n := wat_le hj h0
    exact ⟨by omega, this, by decide⟩
  · rw [if_neg h0] at h ⊢
    by_cases h1 : wat t n (mm_sb.getD 15 []) j = true
    · rw [if_pos h1]
      have : j + 2 ≤ n := wat_le hj h1
      exact ⟨by omega, this, by decide⟩
    · rw [if_neg h1] at h; exact absurd rfl h
theorem cm_cs {t : Nat → Int32} {j : Nat} (h : ¬ cm t n j = 0) : (11 ≤ cm t n j ∧ cm t n j ≤ 15) ∧ j + cmL (cm t n j) ≤ n ∧ 1 ≤ cmL (cm t n j) := by
  unfold cm at h ⊢
  by_cases h0 : j < n ∧ t j = 61
  · rw [if_pos h0]; exact ⟨by omega, by show j + 1 ≤ n; omega, by decide⟩
  · rw [if_neg h0] at h ⊢
    by_cases h1 : j < n ∧ t j = 60
    · rw [if_pos h1]
      by_cases h2 : j + 1 < n ∧ t (j + 1) = 61
      · rw [if_pos h2]; exact ⟨by omega, by show j + 2 ≤ n; omega, by decide⟩
      · rw [if_neg h2]; exact ⟨by omega, by show j + 1 ≤ n; omega, by decide⟩
    · rw [if_neg h1] at h ⊢
      by_cases h3 : j < n ∧ t j = 62
      · rw [if_pos h3]
        by_cases h2 : j + 1 < n ∧ t (j + 1) = 61
        · rw [if_pos h2]; exact ⟨by omega, by show j + 2 ≤ n; omega, by decide⟩
        · rw [if_neg h2]; exact ⟨by omega, by show j + 1 ≤ n; omega, by decide⟩
      · rw [if_neg h3] at h; exact absurd rfl h
/-- what holds between turns -/
def oTS (n : Nat) (x : TS) : Prop := x.2.2.1 ≤ 60 ∧ (∀ y ∈ x.2.2.2.2.1, y < 17) ∧ dep x.2.2.2.2.1 ≤ 10 ∧ x.2.2.2.1.length + x.2.2.2.2.1.length ≤ x.2.2.2.2.2 ∧ x.2.2.2.2.2 ≤ n ∧ okHs (if x.1 = true then 4 else 7) x.2.2.2.2.1
theorem mem17 {b a : Nat} (ha : a < 17) (h : ∀ y ∈ H, y < 17) : ∀ y ∈ a :: stR b H, y < 17 := fun y hy => by
  rcases List.mem_cons.mp hy with rfl | hy
  · exact ha
  · exact h y (stR_mem H hy)
theorem dep_pu {a : Nat} (h : a ≠ 4 ∧ a ≠ 16) : dep (a :: H) = dep H := by
  show dep H + (if a = 16 ∨ a = 4 then 1 else 0) = _
  rw [if_neg (by omega)]; rfl
/-- settling, then holding a sign that joins -/
theorem ca_sh {S : fS} {a b : Nat} {i s : Int32} (hb : bnd a = b) (ha : 5 ≤ a ∧ a < 16) (hR : RC S m c H) (hx : ∀ y ∈ H, y < 17) (hL : H.length ≤ 50) (hD : dep H ≤ 10) (hcl : c.length + H.length ≤ 400) : ∃ S', ((f_X5_settle (o3 b) (tS S i s f)).bind fun y => f_X5_hold (o3 a) y) = some (tS S' i s f) ∧ RC S' m (c ++ stO b H) (a :: stR b H) ∧ eQ S S' := by
  have hb1 : 1 ≤ b ∧ b < 10 := by
    have : ∀ a, a < 16 → 5 ≤ a → 1 ≤ bnd a ∧ bnd a < 10 := by decide
    have := this a ha.2 ha.1
    omega
  obtain ⟨S1, e1, e2, e3⟩ := cq_settle (i := i) (s := s) (f := f) (b := b) hb1.1 hb1.2 hR hx (by omega) (by omega) hcl
  have hlen := stR_len (b := b) H
  obtain ⟨S2, g1, g2, g3⟩ := cq_join (i := i) (s := s) (f := f) (a := a) e2 (by omega) (by omega)
  refine ⟨S2, ?_, g2, e3.tr g3⟩
  rw [e1, bd_some, g1]
theorem ca_sh' {S : fS} {a : Nat} {i s : Int32} {β : Type} {F : fS → Option β} (ha : 5 ≤ a ∧ a < 16) (hR : RC S m c H) (hx : ∀ y ∈ H, y < 17) (hL : H.length ≤ 50) (hD : dep H ≤ 10) (hcl : c.length + H.length ≤ 400) : ∃ S', ((gB (o3 a)).bind fun a22 => (f_X5_settle a22 (tS S i s f)).bind fun q25 => (f_X5_hold (o3 a) q25).bind F) = F (tS S' i s f) ∧ RC S' m (c ++ stO (bnd a) H) (a :: stR (bnd a) H) ∧ eQ S S' := by
  obtain ⟨S', e1, e2, e3⟩ := ca_sh (i := i) (s := s) (f := f) (a := a) (b := bnd a) rfl ha hR hx hL hD hcl
  refine ⟨S', ?_, e2, e3⟩
  rw [gB_o (by omega), bd_some]
  cases hs : f_X5_settle (o3 (bnd a)) (tS S i s f) with
  | none => rw [hs] at e1; exact absurd e1 (by intro h; exact mm_no h)
  | some q =>
    rw [hs, bd_some] at e1
    rw [bd_some, e1, bd_some]
theorem ok_len {k : Nat} (h : okHs k H) (hk : k ≤ 7) (hD : dep H ≤ 10) : H.length ≤ 40 := by
  have h1 := okHs_len H 7 (okHs_mo H k 7 hk h)
  have h2 := brk_dep H
  have h3 : gg 7 = 5 := by decide
  omega
theorem bnd_ok : ∀ a, a < 16 → 5 ≤ a → bnd a ≠ 3 ∧ 1 ≤ bnd a ∧ bnd a ≤ 6 := by decide
theorem ca_aft {S : fS} {K : fS → Option (Int32 × fS)} {nn i p : Nat} {s : Int32} {cp : Bool} (hn : S.1 1 1 = o3 n) (hl : n ≤ 400) (hR : RC S m c H) (hm : m ≤ 60) (hx : ∀ y ∈ H, y < 17) (hD : dep H ≤ 10) (hcl : c.length + H.length ≤ i) (hi : i ≤ n) (hok : okHs 7 H) :
    (∃ r S' i' s', aft (S.1 2) n cp m c H i = .inl r ∧ tA K nn (if cp = true then 1 else 0) (o3 p) (tS S (o3 i) s f) = some (if r.1 = 0 then (1, tS S' (o3 r.2.1) s' f) else (0, tS S' i' s' (o3 r.1))) ∧ eQ S S' ∧ (r.1 = 0 → r.2.1 ≤ n ∧ i ≤ r.2.1 ∧ r.2.2.1 = m ∧ r.2.2.2.length ≤ r.2.1 ∧ ∃ H', RC S' m r.2.2.2 H')) ∨
    (∃ y S' s' z, aft (S.1 2) n cp m c H i = .inr y ∧ tA K nn (if cp = true then 1 else 0) (o3 p) (tS S (o3 i) s f) = lp_X5_readTest_21 K nn (if y.1 = true then 1 else 0) z (o3 (p + 1)) (tS S' (o3 y.2.2.2.2.2) s' f) ∧ (y.1 = true ∨ z = if y.2.1 = true then 1 else 0) ∧ eQ S S' ∧ RC S' y.2.2.1 y.2.2.2.1 y.2.2.2.2.1 ∧ oTS n y ∧ i < y.2.2.2.2.2) := by
  have hj := sk_le (t := S.1 2) hi
  have hg := sk_ge (t := S.1 2) (n := n) (i := i)
  have hL := ok_len hok (by omega) hD
  have hel := okHs_el H 7 hok hx
  have hid := sk_id (t := S.1 2) (n := n) (i := i)
  unfold tA aft
  rw [cs_reck hn hl hi, bd_some]
  generalize sk (S.1 2) n i = j at hj hg hid
  by_cases hr : rk (S.1 2) n j = 0
  · rw [if_pos hr, if_pos hr]
    dsimp only
    rw [if_neg (show ¬ (0 : Int32) ≤ -1 by decide)]
    cases cp with
    | false =>
      rw [if_pos (show (if false = true then (1 : Int32) else 0) = 0 from rfl), if_neg (show ¬ (false = true) by decide), cs_cmp hn hl hj, bd_some, hid]
      by_cases hc : cm (S.1 2) n j = 0
      · rw [if_pos hc, if_pos hc]
        dsimp only
        rw [if_neg (show ¬ (0 : Int32) ≤ -1 by decide), ct_fail, bd_some, tS_2, tS_fa, show (1 : Int32) = o3 1 from rfl, show (8 : Int32) = o3 8 from rfl, show (0 : Int32) = o3 0 from rfl, o3_mul, o3_add, o3_add]
        refine Or.inl ⟨_, S, o3 j, s, rfl, ?_, eQ.rf, fun q => absurd q (show ¬ (1 + 8 * j = 0) by omega)⟩
        rw [if_neg (show ¬ (1 + 8 * j = 0) by omega)]
        rfl
      · obtain ⟨hc1, hc2, hc3⟩ := cm_cs hc
        rw [if_neg hc, if_neg hc]
        dsimp only
        rw [if_pos (o3_0le (by omega)), cv_room hR.1 hm, bd_some]
        by_cases h60 : 60 ≤ m
        · rw [if_pos h60, if_pos h60]
          dsimp only
          rw [if_pos (show (0 : Int32) = 0 from rfl)]
          refine Or.inl ⟨_, S, o3 (j + cmL (cm (S.1 2) n j)), o3 j, rfl, ?_, eQ.rf, fun q => absurd q (show ¬ (1 + 8 * j + 3 = 0) by omega)⟩
          rw [if_neg (show ¬ (1 + 8 * j + 3 = 0) by omega)]
        · rw [if_neg h60, if_neg h60]
          dsimp only
          rw [if_neg (show ¬ (1 : Int32) = 0 by decide)]
          have hb4 : bnd (cm (S.1 2) n j) = 4 := (show ∀ a, a < 16 → 11 ≤ a → bnd a = 4 by decide) _ (by omega) (by omega)
          obtain ⟨S', e1, e2, e3⟩ := ca_sh' (i := o3 (j + cmL (cm (S.1 2) n j))) (s := o3 j) (f := f) (a := cm (S.1 2) n j) (F := fun q45 => lp_X5_readTest_21 K nn (0 : Int32) (1 : Int32) (o3 p + (1 : Int32)) q45) (by omega) (RC_3 (x := m + 1) hR) hx (by omega) hD (by omega)
          rw [e1, o3_s]
          rw [hb4] at e2
          have hlen := stR_len (b := 4) H
          refine Or.inr ⟨_, S', o3 j, 1, rfl, rfl, Or.inr rfl, (eQ_pI (by unfold wQ; omega)).tr e3, e2, ⟨by show m + 1 ≤ 60; omega, mem17 (by omega) hx, ?_, ?_, hc2, ?_⟩, by show i < j + cmL (cm (S.1 2) n j); omega⟩
          · show dep (cm (S.1 2) n j :: stR 4 H) ≤ 10
            rw [dep_pu (by omega)]
            exact Nat.le_trans (stR_dep H) hD
          · show (c ++ stO 4 H).length + (stR 4 H).length.succ ≤ j + cmL (cm (S.1 2) n j)
            rw [List.length_append]
            omega
          · exact okHs_mo _ _ 7 (by omega) (okHs_pu (okHs_st H 7 hok) (by omega) hb4 (by omega) (by omega))
    | true =>
      rw [if_neg (show ¬ (if true = true then (1 : Int32) else 0) = 0 by decide), if_pos rfl]
      obtain ⟨S1, s1, e1, e2, e3⟩ := cb_close (f := f) hl (K := fun S24 => some S24) (brk H) FU c H S j s hn rfl hR hel rfl (by omega) hD (by omega) hj (FU_lt (by have := brk_dep H; omega))
      obtain ⟨q1, q2, q3, q4, q5⟩ := clo_pr (n := n) (t := S.1 2) (brk H + 1) H j hel (by omega) hj
      have hok1 := okHs_cl (t := S.1 2) (n := n) (brk H + 1) H j hok hel
      have hn1 : S1.1 1 1 = o3 n := by rw [e2.1 1 1 (by unfold wQ; omega)]; exact hn
      have ht1 : S1.1 2 = S.1 2 := funext fun k => e2.1 2 k (by unfold wQ; omega)
      unfold f_X5_closeBrackets
      rw [e1, bd_some, cs_join hn1 hl q5, bd_some, ht1]
      generalize clo (S.1 2) n (brk H + 1) j H = Q at e3 q1 q2 q3 q4 q5 hok1
      have hj2 := sk_le (t := S.1 2) q5
      have hg2 := sk_ge (t := S.1 2) (n := n) (i := Q.2.1)
      generalize sk (S.1 2) n Q.2.1 = e at hj2 hg2
      have hx1 : ∀ y ∈ Q.2.2, y < 17 := fun y hy => (q1 y hy).2
      have hL1 := ok_len hok1 (by omega) (by omega)
      have hcl1 : (c ++ Q.1).length = c.length + Q.1.length := List.length_append
      by_cases hjn : jn (S.1 2) n e = 0
      · rw [if_pos hjn, if_pos hjn]
        dsimp only
        rw [if_neg (show ¬ (0 : Int32) ≤ -1 by decide)]
        unfold f_X5_isTestOver
        rw [show (6 : Int32) = o3 6 from rfl, gB_o (by omega), bd_some, show bnd 6 = 1 from rfl]
        obtain ⟨S2, g1, g2, g3⟩ := cq_settle (i := o3 e) (s := s1) (f := f) (b := 1) (by omega) (by omega) e3 hx1 (by omega) (by omega) (by omega)
        rw [g1, bd_some, tS_ne (by omega), g2.2.2.1, stR_brk (by omega)]
        have hlen := stR_len (b := 1) Q.2.2
        by_cases hb0 : brk Q.2.2 = 0
        · rw [if_pos (show o3 _ = (0 : Int32) from (o3_inj (b := 0) (by have := brk_dep Q.2.2; omega) (by omega)).mpr hb0), if_pos hb0]
          refine Or.inl ⟨_, S2, 0, s1, rfl, rfl, e2.tr g3, fun _ => ⟨hj2, by show i ≤ e; omega, rfl, ?_, _, g2⟩⟩
          show (c ++ Q.1 ++ stO 1 Q.2.2).length ≤ e
          rw [List.length_append]
          omega
        · rw [if_neg (show ¬ o3 _ = (0 : Int32) from fun q => hb0 ((o3_inj (b := 0) (by have := brk_dep Q.2.2; omega) (by omega)).mp q)), if_neg hb0, ct_fail, bd_some, tS_2, tS_fa, show (1 : Int32) = o3 1 from rfl, show (8 : Int32) = o3 8 from rfl, show (0 : Int32) = o3 0 from rfl, o3_mul, o3_add, o3_add]
          refine Or.inl ⟨_, S2, o3 e, s1, rfl, ?_, e2.tr g3, fun q => absurd q (show ¬ (1 + 8 * e = 0) by omega)⟩
          rw [if_neg (show ¬ (1 + 8 * e = 0) by omega)]
          rfl
      · obtain ⟨hjn1, hjn2, hjn3⟩ := jn_cs hj2 hjn
        rw [if_neg hjn, if_neg hjn]
        dsimp only
        rw [if_pos (o3_0le (by omega))]
        obtain ⟨S2, g1, g2, g3⟩ := ca_sh' (i := o3 (e + jnL (jn (S.1 2) n e))) (s := o3 e) (f := f) (a := jn (S.1 2) n e) (F := fun q69 => lp_X5_readTest_21 K nn (1 : Int32) (1 : Int32) (o3 p + (1 : Int32)) q69) (by omega) e3 hx1 (by omega) (by omega) (by omega)
        have g1' : ((gB (o3 (jn (S.1 2) n e))).bind fun a63 => (f_X5_settle a63 (tS S1 (o3 (e + jnL (jn (S.1 2) n e))) (o3 e) f)).bind fun q66 => (f_X5_hold (o3 (jn (S.1 2) n e)) q66).bind fun q69 => lp_X5_readTest_21 K nn (1 : Int32) (1 : Int32) (o3 p + (1 : Int32)) q69) = lp_X5_readTest_21 K nn 1 1 (o3 p + 1) (tS S2 (o3 (e + jnL (jn (S.1 2) n e))) (o3 e) f) := g1
        rw [if_pos rfl, g1', o3_s]
        have hlen := stR_len (b := bnd (jn (S.1 2) n e)) Q.2.2
        have hbo := bnd_ok (jn (S.1 2) n e) (by omega) (by omega)
        have hbj : bnd (jn (S.1 2) n e) ≤ 2 := by rcases hjn1 with h | h <;> rw [h] <;> decide
        refine Or.inr ⟨_, S2, o3 e, 1, rfl, rfl, Or.inl rfl, e2.tr g3, g2, ⟨hm, mem17 (by omega) hx1, ?_, ?_, hjn2, ?_⟩, by show i < e + jnL (jn (S.1 2) n e); omega⟩
        · show dep (jn (S.1 2) n e :: stR _ Q.2.2) ≤ 10
          rw [dep_pu (by omega)]
          exact Nat.le_trans (stR_dep Q.2.2) (by omega)
        · show (c ++ Q.1 ++ stO _ Q.2.2).length + (stR _ Q.2.2).length.succ ≤ e + jnL (jn (S.1 2) n e)
          rw [List.length_append]
          omega
        · exact okHs_mo _ _ 4 (by omega) (okHs_pu (okHs_st Q.2.2 7 hok1) (by omega) rfl hbo.2.1 hbo.1)
  · obtain ⟨hr1, hr2⟩ := rk_cs hr
    rw [if_neg hr, if_neg hr]
    dsimp only
    refine Or.inr ?_
    rw [if_pos (o3_0le (by omega))]
    obtain ⟨S', e1, e2, e3⟩ := ca_sh' (i := o3 (j + 1)) (s := o3 j) (f := f) (a := rk (S.1 2) n j) (F := fun q28 => lp_X5_readTest_21 K nn (0 : Int32) (if cp = true then 1 else 0) (o3 p + (1 : Int32)) q28) (by omega) hR hx (by omega) hD (by omega)
    rw [e1, o3_s]
    have hlen := stR_len (b := bnd (rk (S.1 2) n j)) H
    have hbo := bnd_ok (rk (S.1 2) n j) (by omega) (by omega)
    refine ⟨_, S', o3 j, _, rfl, rfl, Or.inr rfl, e3, e2, ⟨hm, mem17 (by omega) hx, ?_, ?_, by show j + 1 ≤ n; omega, ?_⟩, by show i < j + 1; omega⟩
    · show dep (rk (S.1 2) n j :: stR _ H) ≤ 10
      rw [dep_pu (by omega)]
      exact Nat.le_trans (stR_dep H) hD
    · show (c ++ stO _ H).length + (stR _ H).length.succ ≤ j + 1
      rw [List.length_append]
      omega
    · exact okHs_mo _ _ 7 (by omega) (okHs_pu (okHs_st H 7 hok) (by omega) rfl hbo.2.1 hbo.1)
end CT3
end
section
section CT4
variable {n m : Nat} {c : List (Nat × Nat)} {H : List Nat} {f : Int32}
theorem vl_gt {t : Nat → Int32} {j : Nat} (hj : j ≤ n) (hs : sk t n j = j) (h : vlF t n m j = 0) : j < vlP t n j ∧ vlP t n j ≤ n ∧ m < 60 := by
  unfold vlF at h
  unfold vlP
  by_cases hd : 0 < dl t n j
  · rw [if_pos hd] at h ⊢
    by_cases h0 : nmf t n j 0 99999 = 0
    · rw [if_pos h0] at h
      by_cases h60 : 60 ≤ m
      · rw [if_pos h60] at h; omega
      · exact ⟨nmp_gt h0, nmp_le hj, by omega⟩
    · rw [if_neg h0] at h; exact absurd h h0
  · rw [if_neg hd] at h ⊢
    by_cases h8 : nmI t n j < 8
    · rw [if_pos h8] at h
      have hw := nmI_wat h8
      have hle := wat_le hj hw
      have hpos := (mw_l (6 + nmI t n j) (by omega)).1
      by_cases h60 : 60 ≤ m
      · rw [if_pos h60] at h; omega
      · unfold nmL
        exact ⟨by omega, hle, by omega⟩
    · rw [if_neg h8] at h; omega
theorem vl_fl {t : Nat → Int32} {j : Nat} (hj : j ≤ n) : vlF t n m j ≤ 8 * n + 10 := by
  have := nmf_le (t := t) (lo := 0) (hi := 99999) hj
  unfold vlF
  split
  · split
    · split <;> omega
    · omega
  · split
    · split <;> omega
    · omega
theorem cr_val {S : fS} {K : fS → Option (Int32 × fS)} {nn i p : Nat} {s : Int32} {cp : Bool} (hn : S.1 1 1 = o3 n) (hl : n ≤ 400) (hR : RC S m c H) (hm : m ≤ 60) (hx : ∀ y ∈ H, y < 17) (hD : dep H ≤ 10) (hcl : c.length + H.length ≤ i) (hi : i ≤ n) (hok : okHs 7 H) :
    (∃ r S' i' s', tval (S.1 2) n cp m c H i = .inl r ∧ ((f_X5_readValue (tS S (o3 i) s f)).bind fun q12 => if q12.1 = (0 : Int32) then (some ((0 : Int32), q12.2)) else tA K nn (if cp = true then 1 else 0) (o3 p) q12.2) = some (if r.1 = 0 then (1, tS S' (o3 r.2.1) s' f) else (0, tS S' i' s' (o3 r.1))) ∧ eQ S S' ∧ (r.1 = 0 → r.2.1 ≤ n ∧ i < r.2.1 ∧ r.2.2.1 ≤ 60 ∧ r.2.2.2.length ≤ r.2.1 ∧ ∃ H', RC S' r.2.2.1 r.2.2.2 H')) ∨
    (∃ y S' s' z, tval (S.1 2) n cp m c H i = .inr y ∧ ((f_X5_readValue (tS S (o3 i) s f)).bind fun q12 => if q12.1 = (0 : Int32) then (some ((0 : Int32), q12.2)) else tA K nn (if cp = true then 1 else 0) (o3 p) q12.2) = lp_X5_readTest_21 K nn (if y.1 = true then 1 else 0) z (o3 (p + 1)) (tS S' (o3 y.2.2.2.2.2) s' f) ∧ (y.1 = true ∨ z = if y.2.1 = true then 1 else 0) ∧ eQ S S' ∧ RC S' y.2.2.1 y.2.2.2.1 y.2.2.2.2.1 ∧ oTS n y ∧ i + 2 ≤ y.2.2.2.2.2) := by
  have hj := sk_le (t := S.1 2) hi
  have hg := sk_ge (t := S.1 2) (n := n) (i := i)
  have hid := sk_id (t := S.1 2) (n := n) (i := i)
  obtain ⟨S1, i1, s1, e1, e2, e3⟩ := cv_value (s := s) (f := f) hn hl hR hm hi (fun hv => by have := vl_gt hj hid hv; omega)
  unfold tval
  rw [e1, bd_some]
  by_cases hv : vlF (S.1 2) n m (sk (S.1 2) n i) = 0
  · rw [if_pos hv, if_pos hv]
    dsimp only
    rw [if_neg (show ¬ (1 : Int32) = 0 by decide)]
    obtain ⟨v1, v2, v3⟩ := vl_gt hj hid hv
    have hn1 : S1.1 1 1 = o3 n := by rw [e2.1 1 1 (by unfold wQ; omega)]; exact hn
    have ht1 : S1.1 2 = S.1 2 := funext fun k => e2.1 2 k (by unfold wQ; omega)
    rcases ca_aft (K := K) (nn := nn) (p := p) (s := s1) (f := f) (cp := cp) hn1 hl (e3 hv) (by omega) hx hD (by rw [ln_app]; omega) v2 hok with ⟨r, S2, i2, s2, g1, g2, g3, g4⟩ | ⟨y, S2, s2, z, g1, g2, g3, g4, g5, g6, g7⟩
    · rw [ht1] at g1
      exact Or.inl ⟨r, S2, i2, s2, g1, g2, e2.tr g3, fun q => by
        obtain ⟨a1, a2, a3, a4, H', a5⟩ := g4 q
        exact ⟨a1, by omega, by omega, a4, H', by rw [a3]; exact a5⟩⟩
    · rw [ht1] at g1
      exact Or.inr ⟨y, S2, s2, z, g1, g2, g3, e2.tr g4, g5, g6, by omega⟩
  · rw [if_neg hv, if_neg hv]
    dsimp only
    rw [if_pos (show (0 : Int32) = 0 from rfl)]
    exact Or.inl ⟨_, S1, i1, s1, rfl, by rw [if_neg hv], e2, fun q => absurd q hv⟩
theorem run_s {t : Nat → Int32} {F : Nat} {x : TS} : run t n (F + 1) x = match stp t n x with
    | .inl r => r
    | .inr y => run t n F y := rfl
theorem cr_run (hl : n ≤ 400) {K : fS → Option (Int32 × fS)} {t : Nat → Int32} : ∀ F (x : TS) (S : fS) (s z : Int32) (p nn : Nat), S.1 1 1 = o3 n → S.1 2 = t → RC S x.2.2.1 x.2.2.2.1 x.2.2.2.2.1 → oTS n x → (x.1 = true ∨ z = if x.2.1 = true then 1 else 0) → n < x.2.2.2.2.2 + F → F < nn → 2 * p ≤ x.2.2.2.2.2 → ∃ S' i' s', lp_X5_readTest_21 K nn (if x.1 = true then 1 else 0) z (o3 p) (tS S (o3 x.2.2.2.2.2) s f) = some (if (run t n F x).1 = 0 then (1, tS S' (o3 (run t n F x).2.1) s' f) else (0, tS S' i' s' (o3 (run t n F x).1))) ∧ eQ S S' ∧ ((run t n F x).1 = 0 → (run t n F x).2.1 ≤ n ∧ x.2.2.2.2.2 < (run t n F x).2.1 ∧ (run t n F x).2.2.1 ≤ 60 ∧ (run t n F x).2.2.2.length ≤ (run t n F x).2.1 ∧ ∃ H', RC S' (run t n F x).2.2.1 (run t n F x).2.2.2 H') := by
  intro F
  induction F with
  | zero => intro x S s z p nn hn ht hR ho hz hF hnn hp; exact absurd ho.2.2.2.2.1 (by omega)
  | succ F ih =>
    intro x S s z p nn hn ht hR ho hz hF hnn hp
    subst ht
    obtain ⟨nn, rfl⟩ : ∃ n', nn = n' + 1 := ⟨nn - 1, by omega⟩
    obtain ⟨o1, o2, o3', o4, o5, o6⟩ := ho
    obtain ⟨due, cp, m, c, H, i⟩ := x
    dsimp only at hR hz hF hp o1 o2 o3' o4 o5 o6 ⊢
    rw [tA_eq, if_neg (show ¬ (400 : Int32) ≤ o3 _ from fun q => by have := (o3_le (a := 400) (by omega) (by omega)).mp q; omega), run_s]
    cases due with
    | false =>
      have hz : z = if cp = true then 1 else 0 := hz.resolve_left (by decide)
      subst hz
      have hst : stp (S.1 2) n (false, cp, m, c, H, i) = tval (S.1 2) n cp m c H i := rfl
      rw [if_pos (show (if false = true then (1 : Int32) else 0) = 0 from rfl), hst]
      rcases cr_val (K := K) (nn := nn) (p := p) (s := s) (f := f) (cp := cp) hn hl hR o1 o2 o3' o4 o5 o6 with ⟨r, S2, i2, s2, g1, g2, g3, g4⟩ | ⟨y, S2, s2, z2, g1, g2, g3, g4, g5, g6, g7⟩
      · rw [g1, g2]
        exact ⟨S2, i2, s2, rfl, g3, g4⟩
      · rw [g1, g2]
        dsimp only
        obtain ⟨S3, i3, s3, k1, k2, k3⟩ := ih y S2 s2 z2 (p + 1) nn (by rw [g4.1 1 1 (by unfold wQ; omega)]; exact hn) (funext fun k => g4.1 2 k (by unfold wQ; omega)) g5 g6 g3 (by omega) (by omega) (by omega)
        exact ⟨S3, i3, s3, k1, g4.tr k2, fun q => by
          obtain ⟨a1, a2, a3⟩ := k3 q
          exact ⟨a1, by omega, a3⟩⟩
    | true =>
      have o6 : okHs 4 H := o6
      have hL := ok_len o6 (by omega) o3'
      rw [if_neg (show ¬ (if true = true then (1 : Int32) else 0) = 0 by decide)]
      obtain ⟨S1, i1, s1, e1, e2, e3⟩ := co_open (f := f) hl (K := fun S76 => some ((0 : Int32), S76)) (10 - dep H) 0 FU H S i s hn rfl hR (by omega) (by omega) (by omega) o5 (FU_lt (by omega))
      rw [show 10 - dep H + 1 = 11 - dep H by omega] at e1 e3
      have hst : stp (S.1 2) n (true, cp, m, c, H, i) = if (opn (S.1 2) n (11 - dep H) i H).1 = 0 then tval (S.1 2) n false m c (opn (S.1 2) n (11 - dep H) i H).2.2 (opn (S.1 2) n (11 - dep H) i H).2.1 else .inl ((opn (S.1 2) n (11 - dep H) i H).1, 0, 0, []) := rfl
      have e1' : f_X5_readOpenings (tS S (o3 i) s f) = some (if (opn (S.1 2) n (11 - dep H) i H).1 = 0 then (1, tS S1 (o3 (opn (S.1 2) n (11 - dep H) i H).2.1) s1 f) else (0, tS S1 i1 s1 (o3 (opn (S.1 2) n (11 - dep H) i H).1))) := e1
      rw [hst, e1', bd_some]
      have hpr := opn_pr (t := S.1 2) (n := n) (11 - dep H) i H o5 o3'
      generalize opn (S.1 2) n (11 - dep H) i H = Q at e3 hpr
      have hn1 : S1.1 1 1 = o3 n := by rw [e2.1 1 1 (by unfold wQ; omega)]; exact hn
      have ht1 : S1.1 2 = S.1 2 := funext fun k => e2.1 2 k (by unfold wQ; omega)
      by_cases hq : Q.1 = 0
      · rw [if_pos hq, if_pos hq]
        dsimp only
        rw [if_neg (show ¬ (1 : Int32) = 0 by decide)]
        obtain ⟨P, p1, p2, p3, p4, p5, p6⟩ := hpr hq
        have hx1 : ∀ y ∈ Q.2.2, y < 17 := fun y hy => by
          rw [p1] at hy
          rcases List.mem_append.mp hy with hy | hy
          · have := p2 y hy; omega
          · exact o2 y hy
        have hok1 : okHs 7 Q.2.2 := by rw [p1]; exact okHs_mo _ 4 7 (by omega) (okHs_op P H p2 o6)
        have hlen1 : Q.2.2.length = P.length + H.length := by rw [p1, List.length_append]
        rcases cr_val (K := K) (nn := nn) (p := p) (s := s1) (f := f) (cp := false) hn1 hl (e3 hq) o1 hx1 p3 (by omega) p5 hok1 with ⟨r, S2, i2, s2, g1, g2, g3, g4⟩ | ⟨y, S2, s2, z2, g1, g2, g3, g4, g5, g6, g7⟩
        · rw [ht1] at g1
          rw [if_neg (show ¬ (false = true) by decide)] at g2
          rw [g1, g2]
          dsimp only
          exact ⟨S2, i2, s2, rfl, e2.tr g3, fun q => by
            obtain ⟨a1, a2, a3⟩ := g4 q
            exact ⟨a1, by omega, a3⟩⟩
        · rw [ht1] at g1
          rw [if_neg (show ¬ (false = true) by decide)] at g2
          rw [g1, g2]
          dsimp only
          have hE := e2.tr g4
          obtain ⟨S3, i3, s3, k1, k2, k3⟩ := ih y S2 s2 z2 (p + 1) nn (by rw [hE.1 1 1 (by unfold wQ; omega)]; exact hn) (funext fun k => hE.1 2 k (by unfold wQ; omega)) g5 g6 g3 (by omega) (by omega) (by omega)
          exact ⟨S3, i3, s3, k1, hE.tr k2, fun q => by
            obtain ⟨a1, a2, a3⟩ := k3 q
            exact ⟨a1, by omega, a3⟩⟩
      · rw [if_neg hq, if_neg hq]
        dsimp only
        rw [if_pos (show (0 : Int32) = 0 from rfl)]
        exact ⟨S1, i1, s1, by rw [if_neg hq], e2, fun q => absurd q hq⟩
end CT4
end
section
/-! what was written before stands ahead, and matters to nothing else -/
def pre (c0 : List (Nat × Nat)) (r : TR) : TR := if r.1 = 0 then (r.1, r.2.1, r.2.2.1, c0 ++ r.2.2.2) else r
def preS (c0 : List (Nat × Nat)) (x : TR ⊕ TS) : TR ⊕ TS := match x with
  | .inl r => .inl (pre c0 r)
  | .inr y => .inr (y.1, y.2.1, y.2.2.1, c0 ++ y.2.2.2.1, y.2.2.2.2)
theorem aft_pre {t : Nat → Int32} {n m i : Nat} {cp : Bool} {c0 c : List (Nat × Nat)} {H : List Nat} : aft t n cp m (c0 ++ c) H i = preS c0 (aft t n cp m c H i) := by
  unfold aft
  generalize clo t n (brk H + 1) (sk t n i) H = Q
  by_cases h1 : rk t n (sk t n i) = 0
  · rw [if_pos h1, if_pos h1]
    by_cases h2 : cp = true
    · rw [if_pos h2, if_pos h2]
      by_cases h3 : jn t n (sk t n Q.2.1) = 0
      · rw [if_pos h3, if_pos h3]
        by_cases h4 : brk Q.2.2 = 0
        · rw [if_pos h4, if_pos h4]
          show _ = Sum.inl (pre c0 (0, sk t n Q.2.1, m, c ++ Q.1 ++ stO 1 Q.2.2))
          unfold pre
          rw [if_pos rfl, List.append_assoc, List.append_assoc, List.append_assoc]
        · rw [if_neg h4, if_neg h4]
          show _ = Sum.inl (pre c0 (1 + 8 * sk t n Q.2.1, 0, 0, []))
          unfold pre
          rw [if_neg (show ¬ (1 + 8 * sk t n Q.2.1 = 0) by omega)]
      · rw [if_neg h3, if_neg h3]
        show _ = Sum.inr (_, _, _, c0 ++ (c ++ Q.1 ++ stO _ Q.2.2), _)
        rw [List.append_assoc, List.append_assoc, List.append_assoc]
    · rw [if_neg h2, if_neg h2]
      by_cases h3 : cm t n (sk t n i) = 0
      · rw [if_pos h3, if_pos h3]
        show _ = Sum.inl (pre c0 (1 + 8 * sk t n i, 0, 0, []))
        unfold pre
        rw [if_neg (show ¬ (1 + 8 * sk t n i = 0) by omega)]
      · rw [if_neg h3, if_neg h3]
        by_cases h4 : 60 ≤ m
        · rw [if_pos h4, if_pos h4]
          show _ = Sum.inl (pre c0 (1 + 8 * sk t n i + 3, 0, 0, []))
          unfold pre
          rw [if_neg (show ¬ (1 + 8 * sk t n i + 3 = 0) by omega)]
        · rw [if_neg h4, if_neg h4]
          show _ = Sum.inr (_, _, _, c0 ++ (c ++ stO 4 H), _)
          rw [List.append_assoc]
  · rw [if_neg h1, if_neg h1]
    show _ = Sum.inr (_, _, _, c0 ++ (c ++ stO _ H), _)
    rw [List.append_assoc]
theorem tval_pre {t : Nat → Int32} {n m i : Nat} {cp : Bool} {c0 c : List (Nat × Nat)} {H : List Nat} : tval t n cp m (c0 ++ c) H i = preS c0 (tval t n cp m c H i) := by
  unfold tval
  by_cases h1 : vlF t n m (sk t n i) = 0
  · rw [if_pos h1, if_pos h1, List.append_assoc, aft_pre]
  · rw [if_neg h1, if_neg h1]
    show _ = Sum.inl (pre c0 (vlF t n m (sk t n i), 0, 0, []))
    unfold pre
    rw [if_neg h1]
theorem stp_pre {t : Nat → Int32} {n m i : Nat} {due cp : Bool} {c0 c : List (Nat × Nat)} {H : List Nat} : stp t n (due, cp, m, c0 ++ c, H, i) = preS c0 (stp t n (due, cp, m, c, H, i)) := by
  unfold stp
  dsimp only
  generalize opn t n (11 - dep H) i H = Q
  by_cases h1 : due = true
  · rw [if_pos h1, if_pos h1]
    by_cases h2 : Q.1 = 0
    · rw [if_pos h2, if_pos h2, tval_pre]
    · rw [if_neg h2, if_neg h2]
      show _ = Sum.inl (pre c0 (Q.1, 0, 0, []))
      unfold pre
      rw [if_neg h2]
  · rw [if_neg h1, if_neg h1, tval_pre]
theorem run_pre {t : Nat → Int32} {n : Nat} {c0 : List (Nat × Nat)} : ∀ F due cp m c H i, run t n F (due, cp, m, c0 ++ c, H, i) = pre c0 (run t n F (due, cp, m, c, H, i)) := by
  intro F
  induction F with
  | zero => intro due cp m c H i; rfl
  | succ F ih =>
    intro due cp m c H i
    rw [run_s, run_s, stp_pre]
    cases hs : stp t n (due, cp, m, c, H, i) with
    | inl r => rfl
    | inr y =>
      obtain ⟨y1, y2, y3, y4, y5, y6⟩ := y
      exact ih y1 y2 y3 y4 y5 y6
/-! a rule: clauses; each a floor, and what is written of its test -/
abbrev Cl : Type := Nat × Option (List (Nat × Nat))
/-- a clause: fault, place, made, the clause -/
def rcl (t : Nat → Int32) (n k m i : Nat) : Nat × Nat × Nat × Cl :=
  if wat t n (mm_sb.getD 3 []) (sk t n i) = true then
    (if 12 ≤ k then (1 + 8 * sk t n i + 4, 0, 0, (0, none))
    else if nmf t n (sk t n i + 2) 0 9 = 0 then
      (if wat t n (mm_sb.getD 4 []) (sk t n (nmp t n (sk t n i + 2))) = true then
        (if (run t n (n + 1) (true, false, m, [], [], sk t n (nmp t n (sk t n i + 2)) + 2)).1 = 0 then (0, (run t n (n + 1) (true, false, m, [], [], sk t n (nmp t n (sk t n i + 2)) + 2)).2.1, (run t n (n + 1) (true, false, m, [], [], sk t n (nmp t n (sk t n i + 2)) + 2)).2.2.1, (nmv t n (sk t n i + 2), some (run t n (n + 1) (true, false, m, [], [], sk t n (nmp t n (sk t n i + 2)) + 2)).2.2.2))
          else ((run t n (n + 1) (true, false, m, [], [], sk t n (nmp t n (sk t n i + 2)) + 2)).1, 0, 0, (0, none)))
        else (0, sk t n (nmp t n (sk t n i + 2)), m, (nmv t n (sk t n i + 2), none)))
    else (nmf t n (sk t n i + 2) 0 9, 0, 0, (0, none)))
  else (1 + 8 * sk t n i, 0, 0, (0, none))
/-- as the class writes it -/
def ccl (q : Cl) : List (Nat × Nat) := match q.2 with
  | none => [(0, q.1)]
  | some w => w ++ [(1, q.1)]
def ccode (L : List Cl) : List (Nat × Nat) := L.flatMap ccl
theorem ccode_app {L : List Cl} {q : Cl} : ccode (L ++ [q]) = ccode L ++ ccl q := by
  unfold ccode
  rw [List.flatMap_append]
  simp
def rall (t : Nat → Int32) (n : Nat) : Nat → Nat → Nat → Nat → List Cl → Nat × List Cl
  | 0, _, _, _, L => (1, L)
  | f + 1, k, m, i, L => if (rcl t n k m i).1 = 0 then
      (if sk t n (rcl t n k m i).2.1 < n then (if t (sk t n (rcl t n k m i).2.1) = 59 then rall t n f (k + 1) (rcl t n k m i).2.2.1 (sk t n (rcl t n k m i).2.1 + 1) (L ++ [(rcl t n k m i).2.2.2]) else (1 + 8 * sk t n (rcl t n k m i).2.1, L)) else (0, L ++ [(rcl t n k m i).2.2.2]))
    else ((rcl t n k m i).1, L)
/-- the tape as a rule -/
def ru0 (t : Nat → Int32) (n : Nat) : Nat × List Cl := rall t n 13 0 0 0 []
end
section
/-! the class reads a rule's clauses -/
/-- a test's code is no longer than its text -/
theorem run_len {t : Nat → Int32} {n m i : Nat} (hl : n ≤ 400) (hm : m ≤ 60) (hi : i ≤ n) (h : (run t n (n + 1) (true, false, m, [], [], i)).1 = 0) : i + (run t n (n + 1) (true, false, m, [], [], i)).2.2.2.length ≤ (run t n (n + 1) (true, false, m, [], [], i)).2.1 ∧ (run t n (n + 1) (true, false, m, [], [], i)).2.1 ≤ n ∧ (run t n (n + 1) (true, false, m, [], [], i)).2.2.1 ≤ 60 := by
  have hlen : (List.replicate i ((0, 0) : Nat × Nat)).length = i := List.length_replicate
  obtain ⟨S, hS1, hS2, hS3⟩ : ∃ S : fS, S.1 1 1 = o3 n ∧ S.1 2 = t ∧ RC S m (List.replicate i (0, 0)) [] := by
    refine ⟨(fun a k => if a = 1 then o3 n else if a = 2 then t k else if a = 41 then enc ((List.replicate i ((0, 0) : Nat × Nat)).getD k (0, 0)) else if a = 40 then o3 i else if k = 3 then o3 m else 0, fun _ _ => 0), ?_, ?_, ?_, ?_, ?_, ?_, fun k hk => absurd hk (Nat.not_lt_zero _), ?_, fun k hk => ?_⟩
    · simp
    · funext k
      simp
    · simp
    · first | (simp; done) | (simp; rfl)
    · first | (simp; done) | (simp; rfl)
    · first | (simp; done) | (simp; rfl)
    · simp
    · simp
  obtain ⟨S', i', s', -, -, e3⟩ := cr_run (f := 0) hl (K := fun S => some (0, S)) (n + 1) (true, false, m, List.replicate i (0, 0), [], i) S 0 0 0 (n + 2) hS1 hS2 hS3 ⟨hm, fun y hy => absurd hy List.not_mem_nil, Nat.zero_le _, by show (List.replicate i ((0, 0) : Nat × Nat)).length + 0 ≤ i; omega, hi, trivial⟩ (Or.inl rfl) (by show n < i + (n + 1); omega) (by omega) (by omega)
  have hp := run_pre (t := t) (n := n) (c0 := List.replicate i (0, 0)) (n + 1) true false m [] [] i
  rw [List.append_nil] at hp
  rw [hp] at e3
  unfold pre at e3
  rw [if_pos h] at e3
  obtain ⟨a1, a2, a3, a4, -⟩ := e3 h
  have a4 : (List.replicate i ((0, 0) : Nat × Nat) ++ (run t n (n + 1) (true, false, m, [], [], i)).2.2.2).length ≤ (run t n (n + 1) (true, false, m, [], [], i)).2.1 := a4
  rw [List.length_append, hlen] at a4
  exact ⟨a4, a1, a3⟩
/-- made, and written -/
def RM (S : fS) (m : Nat) (c : List (Nat × Nat)) : Prop := S.1 38 3 = o3 m ∧ S.1 40 2 = o3 c.length ∧ (∀ k, k < c.length → S.1 41 k = enc (c.getD k (0, 0)))
theorem RM_of {S : fS} {m : Nat} {c : List (Nat × Nat)} {H : List Nat} (h : RC S m c H) : RM S m c := ⟨h.1, h.2.2.2.2.2.1, h.2.2.2.2.2.2⟩
section CL
variable {S : fS} {m n : Nat} {c : List (Nat × Nat)} {i s f : Int32}
theorem cl_write {a v : Nat} (hR : RM S m c) (hc : c.length < 400) (ha : a < 32) (hv : v < 100000) : ∃ S', f_X4_write 40 (o3 a) (o3 v) (tS S i s f) = some (tS S' i s f) ∧ RM S' m (c ++ [(a, v)]) ∧ eQ S S' := by
  obtain ⟨r1, r6, r7⟩ := hR
  unfold f_X4_write
  rw [tS_ne (by omega), r6, if_neg (show ¬ (400 : Int32) ≤ o3 _ from fun q => by have := (o3_le (a := 400) (by omega) (by omega)).mp q; omega), enc_eq ha hv, sI_o (by omega) (by omega), bd_some, tS_pI (by omega), bd_some, tS_ne (by omega), pI_ne (by omega), r6, tS_pI (by omega), o3_s]
  refine ⟨_, rfl, ⟨?_, ?_, fun k hk => ?_⟩, (eQ_pI (by unfold wQ; omega)).tr (eQ_pI (by unfold wQ; omega))⟩
  · rw [pI_ne (by omega), pI_ne (by omega)]; exact r1
  · rw [pI_eq, ln_app]
  · rw [ln_app] at hk
    rw [pI_ne (by omega), gd_app]
    by_cases hq : k = c.length
    · rw [if_pos hq, hq]; exact pI_eq
    · rw [if_neg hq, pI_ne (by omega)]; exact r7 k (by omega)
end CL
section CL2
variable {S : fS} {m n : Nat} {c : List (Nat × Nat)} {s f : Int32}
theorem cl_test (hn : S.1 1 1 = o3 n) (hl : n ≤ 400) (hR : RM S m c) (hm : m ≤ 60) {i : Nat} (hci : c.length ≤ i) (hi : i ≤ n) : ∃ S' i' s', f_X5_readTest (tS S (o3 i) s f) = some (if (run (S.1 2) n (n + 1) (true, false, m, [], [], i)).1 = 0 then (1, tS S' (o3 (run (S.1 2) n (n + 1) (true, false, m, [], [], i)).2.1) s' f) else (0, tS S' i' s' (o3 (run (S.1 2) n (n + 1) (true, false, m, [], [], i)).1))) ∧ eQ S S' ∧ ((run (S.1 2) n (n + 1) (true, false, m, [], [], i)).1 = 0 → RM S' (run (S.1 2) n (n + 1) (true, false, m, [], [], i)).2.2.1 (c ++ (run (S.1 2) n (n + 1) (true, false, m, [], [], i)).2.2.2)) := by
  obtain ⟨r1, r2, r3⟩ := hR
  unfold f_X5_readTest
  rw [bd_some, bd_some, bd_some, tS_pI (by omega), tS_pI (by omega), tS_pI (by omega)]
  have hE : eQ S (pI (pI (pI S 38 4 0) 38 5 0) 38 6 0) := ((eQ_pI (by unfold wQ; omega)).tr (eQ_pI (by unfold wQ; omega))).tr (eQ_pI (by unfold wQ; omega))
  have hRC : RC (pI (pI (pI S 38 4 0) 38 5 0) 38 6 0) m c [] := by
    refine ⟨?_, ?_, ?_, ?_, fun k hk => absurd hk (Nat.not_lt_zero _), ?_, fun k hk => ?_⟩
    · rw [pI_ne (by omega), pI_ne (by omega), pI_ne (by omega)]; exact r1
    · rw [pI_ne (by omega), pI_ne (by omega), pI_eq]; rfl
    · rw [pI_ne (by omega), pI_eq]; rfl
    · rw [pI_eq]; rfl
    · rw [pI_ne (by omega), pI_ne (by omega), pI_ne (by omega)]; exact r2
    · rw [pI_ne (by omega), pI_ne (by omega), pI_ne (by omega)]; exact r3 k hk
  generalize pI (pI (pI S 38 4 0) 38 5 0) 38 6 0 = X at hE hRC
  have ht : X.1 2 = S.1 2 := funext fun k => hE.1 2 k (by unfold wQ; omega)
  obtain ⟨S', i', s', e1, e2, e3⟩ := cr_run (f := f) hl (K := fun S394 => some ((0 : Int32), S394)) (t := S.1 2) (n + 1) (true, false, m, c, [], i) X s 0 0 FU (by rw [hE.1 1 1 (by unfold wQ; omega)]; exact hn) ht hRC ⟨hm, fun y hy => absurd hy List.not_mem_nil, Nat.zero_le _, by show c.length + 0 ≤ i; omega, hi, trivial⟩ (Or.inl rfl) (by show n < i + (n + 1); omega) (FU_lt (by omega)) (by omega)
  have hp := run_pre (t := S.1 2) (n := n) (c0 := c) (n + 1) true false m [] [] i
  rw [List.append_nil] at hp
  rw [hp] at e1 e3
  refine ⟨S', i', s', ?_, hE.tr e2, fun q => ?_⟩
  · refine Eq.trans e1 ?_
    unfold pre
    by_cases hz : (run (S.1 2) n (n + 1) (true, false, m, [], [], i)).1 = 0
    · rw [if_pos hz, if_pos hz]
    · rw [if_neg hz]
  · unfold pre at e3
    rw [if_pos q] at e3
    obtain ⟨-, -, -, -, H', a5⟩ := e3 q
    exact RM_of a5
end CL2
end
section
section CL3
variable {S : fS} {m n : Nat} {c : List (Nat × Nat)} {s f : Int32}
theorem cl_clause (hn : S.1 1 1 = o3 n) (hl : n ≤ 400) (hR : RM S m c) (hm : m ≤ 60) {k i : Nat} (hk : k ≤ 12) (hci : c.length ≤ i) (hi : i ≤ n) : ∃ S' i' s', f_X5_readClause (o3 k) (tS S (o3 i) s f) = some (if (rcl (S.1 2) n k m i).1 = 0 then (1, tS S' (o3 (rcl (S.1 2) n k m i).2.1) s' f) else (0, tS S' i' s' (o3 (rcl (S.1 2) n k m i).1))) ∧ eQ S S' ∧ ((rcl (S.1 2) n k m i).1 = 0 → RM S' (rcl (S.1 2) n k m i).2.2.1 (c ++ ccl (rcl (S.1 2) n k m i).2.2.2) ∧ (c ++ ccl (rcl (S.1 2) n k m i).2.2.2).length ≤ (rcl (S.1 2) n k m i).2.1 ∧ (rcl (S.1 2) n k m i).2.1 ≤ n ∧ (rcl (S.1 2) n k m i).2.2.1 ≤ 60 ∧ k < 12 ∧ i < (rcl (S.1 2) n k m i).2.1) := by
  have hj := sk_le (t := S.1 2) hi
  have hg := sk_ge (t := S.1 2) (n := n) (i := i)
  unfold f_X5_readClause rcl
  rw [ct_word hn hl (w := 3) (by decide) hi, bd_some]
  generalize sk (S.1 2) n i = j at hj hg
  by_cases w0 : wat (S.1 2) n (mm_sb.getD 3 []) j = true
  · rw [if_pos w0, if_pos w0]
    have hw : j + 2 ≤ n := wat_le hj w0
    dsimp only
    rw [if_neg (show ¬ (1 : Int32) = 0 by decide)]
    by_cases hk12 : 12 ≤ k
    · rw [if_neg (show ¬ o3 _ < (12 : Int32) from fun q => by have := (o3_lt (b := 12) (by omega) (by omega)).mp q; omega), if_pos hk12, ct_fail, bd_some, tS_3, tS_fa, show (1 : Int32) = o3 1 from rfl, show (8 : Int32) = o3 8 from rfl, show (4 : Int32) = o3 4 from rfl, o3_mul, o3_add, o3_add]
      refine ⟨S, o3 (j + (mm_sb.getD 3 []).length), o3 j, ?_, eQ.rf, fun q => absurd q (show ¬ (1 + 8 * j + 4 = 0) by omega)⟩
      rw [if_neg (show ¬ (1 + 8 * j + 4 = 0) by omega)]
      rfl
    · rw [if_pos (show o3 _ < (12 : Int32) from (o3_lt (b := 12) (by omega) (by omega)).mpr (by omega)), if_neg hk12, show j + (mm_sb.getD 3 []).length = j + 2 from rfl, ct_num hn hl hw, bd_some, ni_0, l1_20.2.2]
      have hp := nmp_le (t := S.1 2) hw
      by_cases h0 : nmf (S.1 2) n (j + 2) 0 9 = 0
      · have g := (nmf_0 h0).2.2
        have hpg := nmp_gt h0
        rw [if_pos h0, if_pos h0]
        dsimp only
        rw [if_pos (o3_0le (by omega)), ct_word hn hl (w := 4) (by decide) hp, bd_some]
        have hq := sk_le (t := S.1 2) hp
        have hqg := sk_ge (t := S.1 2) (n := n) (i := nmp (S.1 2) n (j + 2))
        generalize sk (S.1 2) n (nmp (S.1 2) n (j + 2)) = q at hq hqg
        by_cases w1 : wat (S.1 2) n (mm_sb.getD 4 []) q = true
        · have hw1 : q + 2 ≤ n := wat_le hq w1
          rw [if_pos w1, if_pos w1]
          dsimp only
          rw [if_neg (show ¬ (1 : Int32) = 0 by decide), show q + (mm_sb.getD 4 []).length = q + 2 from rfl]
          obtain ⟨S1, i1, s1, e1, e2, e3⟩ := cl_test (s := o3 q) (f := f) hn hl hR hm (i := q + 2) (by omega) hw1
          rw [e1, bd_some]
          by_cases hr : (run (S.1 2) n (n + 1) (true, false, m, [], [], q + 2)).1 = 0
          · obtain ⟨l1, l2, l3⟩ := run_len hl hm hw1 hr
            rw [if_pos hr, if_pos hr]
            dsimp only
            rw [if_neg (show ¬ (1 : Int32) = 0 by decide), if_neg (show ¬ (1 : Int32) = 0 by decide)]
            have hlen1 : (c ++ (run (S.1 2) n (n + 1) (true, false, m, [], [], q + 2)).2.2.2).length = c.length + (run (S.1 2) n (n + 1) (true, false, m, [], [], q + 2)).2.2.2.length := List.length_append
            obtain ⟨S2, g1, g2, g3⟩ := cl_write (a := 1) (v := nmv (S.1 2) n (j + 2)) (i := o3 (run (S.1 2) n (n + 1) (true, false, m, [], [], q + 2)).2.1) (s := s1) (f := f) (e3 hr) (by omega) (by omega) (by omega)
            rw [show (1 : Int32) = o3 1 from rfl, g1, bd_some]
            refine ⟨S2, 0, s1, rfl, e2.tr g3, fun _ => ⟨?_, ?_, l2, l3, by omega, by show i < (run (S.1 2) n (n + 1) (true, false, m, [], [], q + 2)).2.1; omega⟩⟩
            · rw [List.append_assoc] at g2
              exact g2
            · show (c ++ ((run (S.1 2) n (n + 1) (true, false, m, [], [], q + 2)).2.2.2 ++ [(1, _)])).length ≤ (run (S.1 2) n (n + 1) (true, false, m, [], [], q + 2)).2.1
              rw [List.length_append, ln_app]
              omega
          · rw [if_neg hr, if_neg hr]
            dsimp only
            rw [if_pos (show (0 : Int32) = 0 from rfl)]
            exact ⟨S1, i1, s1, by rw [if_neg hr], e2, fun q => absurd q hr⟩
        · rw [if_neg w1, if_neg w1]
          dsimp only
          rw [if_pos (show (0 : Int32) = 0 from rfl), if_pos (show (0 : Int32) = 0 from rfl)]
          obtain ⟨S2, g1, g2, g3⟩ := cl_write (a := 0) (v := nmv (S.1 2) n (j + 2)) (i := o3 q) (s := o3 (sk (S.1 2) n (j + 2))) (f := f) hR (by omega) (by omega) (by omega)
          rw [show (0 : Int32) = o3 0 from rfl, g1, bd_some]
          refine ⟨S2, 0, o3 (sk (S.1 2) n (j + 2)), rfl, g3, fun _ => ⟨g2, ?_, hq, hm, by omega, by show i < q; omega⟩⟩
          show (c ++ [(0, _)]).length ≤ q
          rw [ln_app]
          omega
      · rw [if_neg h0, if_neg h0]
        dsimp only
        rw [if_neg (show ¬ (0 : Int32) ≤ -1 by decide)]
        exact ⟨S, _, _, by rw [if_neg h0], eQ.rf, fun q => absurd q h0⟩
  · rw [if_neg w0, if_neg w0]
    dsimp only
    rw [if_pos (show (0 : Int32) = 0 from rfl), ct_fail, bd_some, tS_2, tS_fa, show (1 : Int32) = o3 1 from rfl, show (8 : Int32) = o3 8 from rfl, show (0 : Int32) = o3 0 from rfl, o3_mul, o3_add, o3_add]
    refine ⟨S, o3 j, s, ?_, eQ.rf, fun q => absurd q (show ¬ (1 + 8 * j = 0) by omega)⟩
    rw [if_neg (show ¬ (1 + 8 * j = 0) by omega)]
    rfl
end CL3
end
section
/-! the class reads a rule to its end -/
theorem rall_s {t : Nat → Int32} {n f k m i : Nat} {L : List Cl} : rall t n (f + 1) k m i L = if (rcl t n k m i).1 = 0 then
      (if sk t n (rcl t n k m i).2.1 < n then (if t (sk t n (rcl t n k m i).2.1) = 59 then rall t n f (k + 1) (rcl t n k m i).2.2.1 (sk t n (rcl t n k m i).2.1 + 1) (L ++ [(rcl t n k m i).2.2.2]) else (1 + 8 * sk t n (rcl t n k m i).2.1, L)) else (0, L ++ [(rcl t n k m i).2.2.2]))
    else ((rcl t n k m i).1, L) := rfl
/-- the code in the reader's rule -/
def cdC (S : fS) (r : Nat) (c : List (Nat × Nat)) : Prop := S.1 r 2 = o3 c.length ∧ c.length ≤ 400 ∧ (∀ k, k < c.length → S.1 (r + 1) k = enc (c.getD k (0, 0)))
theorem cl_readlp {n : Nat} (hl : n ≤ 400) {f : Int32} {K : fS → Option (Int32 × fS)} {t : Nat → Int32} : ∀ d k nn m L (S : fS) (i : Nat) (s : Int32), S.1 1 1 = o3 n → S.1 2 = t → RM S m (ccode L) → m ≤ 60 → (ccode L).length ≤ i → i ≤ n → k + d = 12 → d < nn → ∃ Y, lp_X5_read_22 K nn (o3 k) (tS S (o3 i) s f) = some (if (rall t n (d + 1) k m i L).1 = 0 then 1 else 0, Y) ∧ ((rall t n (d + 1) k m i L).1 = 0 → cdC Y 40 (ccode (rall t n (d + 1) k m i L).2)) ∧ (¬ (rall t n (d + 1) k m i L).1 = 0 → Y.1 1 4 = o3 (rall t n (d + 1) k m i L).1) := by
  intro d
  induction d with
  | zero =>
    intro k nn m L S i s hn ht hR hm hci hi hkd hnn
    subst ht
    obtain ⟨nn, rfl⟩ : ∃ m', nn = m' + 1 := ⟨nn - 1, by omega⟩
    rw [lp_X5_read_22.eq_2, if_neg (show ¬ (12 : Int32) < o3 _ from fun q => by have := (o3_lt (a := 12) (by omega) (by omega)).mp q; omega)]
    obtain ⟨S', i', s', e, e2, e3⟩ := cl_clause (s := s) (f := f) hn hl hR hm (k := k) (by omega) hci hi
    have hz : ¬ (rcl (S.1 2) n k m i).1 = 0 := fun q => by have := (e3 q).2.2.2.2.1; omega
    rw [e, bd_some, if_neg hz, rall_s, if_neg hz]
    dsimp only
    rw [if_pos rfl, if_neg hz]
    exact ⟨_, rfl, fun q => absurd q hz, fun _ => rfl⟩
  | succ d ih =>
    intro k nn m L S i s hn ht hR hm hci hi hkd hnn
    subst ht
    obtain ⟨nn, rfl⟩ : ∃ m', nn = m' + 1 := ⟨nn - 1, by omega⟩
    rw [lp_X5_read_22.eq_2, if_neg (show ¬ (12 : Int32) < o3 _ from fun q => by have := (o3_lt (a := 12) (by omega) (by omega)).mp q; omega)]
    obtain ⟨S', i', s', e, e2, e3⟩ := cl_clause (s := s) (f := f) hn hl hR hm (k := k) (by omega) hci hi
    rw [rall_s]
    by_cases hz : (rcl (S.1 2) n k m i).1 = 0
    · obtain ⟨a1, a2, a3, a4, a5, a6⟩ := e3 hz
      rw [← ccode_app] at a1 a2
      have hn' : S'.1 1 1 = o3 n := by rw [e2.1 1 1 (by unfold wQ; omega)]; exact hn
      have ht' : S'.1 2 = S.1 2 := funext fun j => e2.1 2 j (by unfold wQ; omega)
      have hsk := sk_le (t := S.1 2) a3
      have hsg := sk_ge (t := S.1 2) (n := n) (i := (rcl (S.1 2) n k m i).2.1)
      rw [e, bd_some, if_pos hz, if_pos hz]
      dsimp only
      rw [if_neg (show ¬ (1 : Int32) = 0 by decide), ct_end hn' hl a3, bd_some, ht']
      by_cases h1 : sk (S.1 2) n (rcl (S.1 2) n k m i).2.1 < n
      · rw [if_pos h1, if_pos h1]
        dsimp only
        rw [if_pos rfl, ct_sign hn' hl (by decide) hsk, bd_some, ht', sk_id]
        by_cases h2 : S.1 2 (sk (S.1 2) n (rcl (S.1 2) n k m i).2.1) = 59
        · have hc : sk (S.1 2) n (rcl (S.1 2) n k m i).2.1 < n ∧ S.1 2 (sk (S.1 2) n (rcl (S.1 2) n k m i).2.1) = 59 := ⟨h1, h2⟩
          rw [if_pos hc, if_pos h2]
          dsimp only
          rw [if_neg (show ¬ (1 : Int32) = 0 by decide), o3_s]
          exact ih (k + 1) nn _ _ S' _ _ hn' ht' a1 a4 (by omega) (by omega) (by omega) (by omega)
        · have hc : ¬ (sk (S.1 2) n (rcl (S.1 2) n k m i).2.1 < n ∧ S.1 2 (sk (S.1 2) n (rcl (S.1 2) n k m i).2.1) = 59) := fun q => h2 q.2
          rw [if_neg hc, if_neg h2]
          dsimp only
          rw [if_pos rfl, ct_fail, bd_some, tS_2]
          refine ⟨pI (tS S' (o3 (sk (S.1 2) n (rcl (S.1 2) n k m i).2.1)) s' f) 1 4 (1 + 8 * o3 (sk (S.1 2) n (rcl (S.1 2) n k m i).2.1) + 0), ?_, fun q => absurd q (by show ¬ (1 + 8 * _ = 0); omega), ?_⟩
          · rw [if_neg (by show ¬ (1 + 8 * _ = 0); omega)]; rfl
          · intro _
            show 1 + 8 * o3 (sk (S.1 2) n (rcl (S.1 2) n k m i).2.1) + 0 = _
            rw [show (1 : Int32) = o3 1 from rfl, show (8 : Int32) = o3 8 from rfl, show (0 : Int32) = o3 0 from rfl, o3_mul, o3_add, o3_add]
            rfl
      · rw [if_neg h1, if_neg h1]
        dsimp only
        rw [if_neg (show ¬ (1 : Int32) = 0 by decide)]
        refine ⟨_, rfl, fun _ => ⟨?_, by show (ccode _).length ≤ 400; omega, fun j hj => ?_⟩, fun q => absurd rfl q⟩
        · rw [tS_ne (by omega)]; exact a1.2.1
        · rw [tS_ne (by omega)]; exact a1.2.2 j hj
    · rw [e, bd_some, if_neg hz, if_neg hz]
      dsimp only
      rw [if_pos rfl, if_neg hz]
      exact ⟨_, rfl, fun q => absurd q hz, fun _ => rfl⟩
theorem c_rread {S : fS} {n : Nat} (hn : S.1 1 1 = o3 n) (hl : n ≤ 400) : ∃ Y, f_X5_read S = some (if (ru0 (S.1 2) n).1 = 0 then 1 else 0, Y) ∧ ((ru0 (S.1 2) n).1 = 0 → cdC Y 40 (ccode (ru0 (S.1 2) n).2)) ∧ (¬ (ru0 (S.1 2) n).1 = 0 → Y.1 1 4 = o3 (ru0 (S.1 2) n).1) := by
  unfold f_X5_read
  rw [bd_some, bd_some]
  unfold f_X7_rewind
  rw [bd_some, bd_some, bd_some, bd_some]
  exact cl_readlp hl (f := 0) 12 0 FU 0 [] (pI (pI S 40 2 0) 38 3 0) 0 0 (by rw [pI_ne (by omega), pI_ne (by omega)]; exact hn) (funext fun k => by rw [pI_ne (by omega), pI_ne (by omega)]) ⟨by rw [pI_eq]; rfl, by rw [pI_ne (by omega), pI_eq]; rfl, fun k hk => absurd hk (Nat.not_lt_zero _)⟩ (by omega) (Nat.zero_le _) (by omega) (by omega) (FU_lt (by omega))
end
