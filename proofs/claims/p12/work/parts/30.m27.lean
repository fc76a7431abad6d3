section
theorem opn_s {t : Nat → Int32} {n f i : Nat} {H : List Nat} : opn t n (f + 1) i H = if wat t n (mm_sb.getD 5 []) (sk t n i) = true then (if 10 ≤ dep H then (1 + 8 * sk t n i + 2, sk t n i, H) else opn t n f (sk t n i + 3) (4 :: H)) else if sk t n i < n ∧ t (sk t n i) = 91 then (if 10 ≤ dep H then (1 + 8 * sk t n i + 2, sk t n i, H) else opn t n f (sk t n i + 1) (16 :: H)) else (0, sk t n i, H) := rfl
theorem dep_4 {H : List Nat} : dep (4 :: H) = dep H + 1 := rfl
theorem dep_16 {H : List Nat} : dep (16 :: H) = dep H + 1 := rfl
theorem brk_4 {H : List Nat} : brk (4 :: H) = brk H := rfl
theorem brk_16 {H : List Nat} : brk (16 :: H) = brk H + 1 := rfl
theorem opn_pr {t : Nat → Int32} {n : Nat} : ∀ f i H, i ≤ n → dep H ≤ 10 → (opn t n f i H).1 = 0 → ∃ P, (opn t n f i H).2.2 = P ++ H ∧ (∀ x ∈ P, x = 4 ∨ x = 16) ∧ dep (opn t n f i H).2.2 ≤ 10 ∧ i + P.length ≤ (opn t n f i H).2.1 ∧ (opn t n f i H).2.1 ≤ n ∧ sk t n (opn t n f i H).2.1 = (opn t n f i H).2.1 := by
  intro f
  induction f with
  | zero => intro i H _ _ h; exact absurd h (by show ¬ (1 = 0); omega)
  | succ f ih =>
    intro i H hi hd h
    have hj := sk_le (t := t) hi
    have hg := sk_ge (t := t) (n := n) (i := i)
    rw [opn_s] at h ⊢
    by_cases hw : wat t n (mm_sb.getD 5 []) (sk t n i) = true
    · rw [if_pos hw] at h ⊢
      have hle : sk t n i + 3 ≤ n := wat_le hj hw
      by_cases hd10 : 10 ≤ dep H
      · rw [if_pos hd10] at h; exact absurd h (by show ¬ (1 + 8 * _ + 2 = 0); omega)
      · rw [if_neg hd10] at h ⊢
        obtain ⟨P, p1, p2, p3, p4, p5, p6⟩ := ih _ _ hle (by rw [dep_4]; omega) h
        refine ⟨P ++ [4], by rw [p1, List.append_assoc]; rfl, fun x hx => ?_, p3, by rw [ln_app]; omega, p5, p6⟩
        rcases List.mem_append.mp hx with hx | hx
        · exact p2 x hx
        · exact Or.inl (List.mem_singleton.mp hx)
    · rw [if_neg hw] at h ⊢
      by_cases hb : sk t n i < n ∧ t (sk t n i) = 91
      · rw [if_pos hb] at h ⊢
        by_cases hd10 : 10 ≤ dep H
        · rw [if_pos hd10] at h; exact absurd h (by show ¬ (1 + 8 * _ + 2 = 0); omega)
        · rw [if_neg hd10] at h ⊢
          obtain ⟨P, p1, p2, p3, p4, p5, p6⟩ := ih _ _ (by omega) (by rw [dep_16]; omega) h
          refine ⟨P ++ [16], by rw [p1, List.append_assoc]; rfl, fun x hx => ?_, p3, by rw [ln_app]; omega, p5, p6⟩
          rcases List.mem_append.mp hx with hx | hx
          · exact p2 x hx
          · exact Or.inr (List.mem_singleton.mp hx)
      · rw [if_neg hb]
        exact ⟨[], rfl, fun x hx => absurd hx List.not_mem_nil, hd, hg, hj, sk_id⟩
theorem opn_fl {t : Nat → Int32} {n : Nat} : ∀ f i H, i ≤ n → (opn t n f i H).1 ≤ 8 * n + 10 := by
  intro f
  induction f with
  | zero => intro i H _; show 1 ≤ _; omega
  | succ f ih =>
    intro i H hi
    have hj := sk_le (t := t) hi
    rw [opn_s]
    by_cases hw : wat t n (mm_sb.getD 5 []) (sk t n i) = true
    · rw [if_pos hw]
      have hle : sk t n i + 3 ≤ n := wat_le hj hw
      split
      · show 1 + 8 * _ + 2 ≤ _; omega
      · exact ih _ _ hle
    · rw [if_neg hw]
      by_cases hb : sk t n i < n ∧ t (sk t n i) = 91
      · rw [if_pos hb]
        split
        · show 1 + 8 * _ + 2 ≤ _; omega
        · exact ih _ _ (by omega)
      · rw [if_neg hb]; exact Nat.zero_le _
section CO
variable {m n : Nat} {c : List (Nat × Nat)} {f : Int32} {t : Nat → Int32}
theorem co_open (hl : n ≤ 400) {K : fS → Option (Int32 × fS)} : ∀ d p nn (H : List Nat) (S : fS) (i : Nat) (s : Int32), S.1 1 1 = o3 n → S.1 2 = t → RC S m c H → dep H + d = 10 → p ≤ dep H → H.length ≤ 50 + dep H → i ≤ n → d < nn → ∃ S' i' s', lp_X5_readOpenings_2 K nn (o3 p) (tS S (o3 i) s f) = some (if (opn t n (d + 1) i H).1 = 0 then (1, tS S' (o3 (opn t n (d + 1) i H).2.1) s' f) else (0, tS S' i' s' (o3 (opn t n (d + 1) i H).1))) ∧ eQ S S' ∧ ((opn t n (d + 1) i H).1 = 0 → RC S' m c (opn t n (d + 1) i H).2.2) := by
  intro d
  induction d with
  | zero =>
    intro p nn H S i s hn ht hR hd hp hL hi hnn
    subst ht
    obtain ⟨nn, rfl⟩ : ∃ n', nn = n' + 1 := ⟨nn - 1, by omega⟩
    have hj := sk_le (t := S.1 2) hi
    have hR0 := hR
    obtain ⟨r1, r2, r3, r4, r5, r6, r7⟩ := hR
    rw [lp_X5_readOpenings_2.eq_2, if_neg (show ¬ (10 : Int32) < o3 _ from fun q => by have := (o3_lt (a := 10) (by omega) (by omega)).mp q; omega), ct_word hn hl (w := 5) (by decide) hi, bd_some, opn_s]
    by_cases hw : wat (S.1 2) n (mm_sb.getD 5 []) (sk (S.1 2) n i) = true
    · rw [if_pos hw, if_pos hw, if_pos (show 10 ≤ dep H by omega)]
      dsimp only
      rw [if_neg (show ¬ (1 : Int32) = 0 by decide), tS_ne (by omega), r4, if_neg (show ¬ o3 _ < (10 : Int32) from fun q => by have := (o3_lt (b := 10) (by omega) (by omega)).mp q; omega), ct_fail, bd_some, tS_3, tS_fa, show (1 : Int32) = o3 1 from rfl, show (8 : Int32) = o3 8 from rfl, show (2 : Int32) = o3 2 from rfl, o3_mul, o3_add, o3_add]
      exact ⟨S, _, _, by rw [if_neg (show ¬ (1 + 8 * sk (S.1 2) n i + 2 = 0) by omega)]; rfl, eQ.rf, fun q => absurd q (show ¬ (1 + 8 * sk (S.1 2) n i + 2 = 0) by omega)⟩
    · rw [if_neg hw, if_neg hw]
      dsimp only
      rw [if_pos (show (0 : Int32) = 0 from rfl), ct_sign hn hl (by decide) hj, bd_some, sk_id]
      by_cases hb : sk (S.1 2) n i < n ∧ S.1 2 (sk (S.1 2) n i) = 91
      · rw [if_pos hb, if_pos hb, if_pos (show 10 ≤ dep H by omega)]
        dsimp only
        rw [if_neg (show ¬ (1 : Int32) = 0 by decide), tS_ne (by omega), r4, if_neg (show ¬ o3 _ < (10 : Int32) from fun q => by have := (o3_lt (b := 10) (by omega) (by omega)).mp q; omega), ct_fail, bd_some, tS_3, tS_fa, show (1 : Int32) = o3 1 from rfl, show (8 : Int32) = o3 8 from rfl, show (2 : Int32) = o3 2 from rfl, o3_mul, o3_add, o3_add]
        exact ⟨S, _, _, by rw [if_neg (show ¬ (1 + 8 * sk (S.1 2) n i + 2 = 0) by omega)]; rfl, eQ.rf, fun q => absurd q (show ¬ (1 + 8 * sk (S.1 2) n i + 2 = 0) by omega)⟩
      · rw [if_neg hb, if_neg hb]
        dsimp only
        rw [if_pos (show (0 : Int32) = 0 from rfl)]
        exact ⟨S, 0, _, by rw [if_pos (show (0 : Nat) = 0 from rfl)], eQ.rf, fun _ => hR0⟩
  | succ d ih =>
    intro p nn H S i s hn ht hR hd hp hL hi hnn
    subst ht
    obtain ⟨nn, rfl⟩ : ∃ n', nn = n' + 1 := ⟨nn - 1, by omega⟩
    have hj := sk_le (t := S.1 2) hi
    have hR0 := hR
    obtain ⟨r1, r2, r3, r4, r5, r6, r7⟩ := hR
    have hbd := brk_dep H
    rw [lp_X5_readOpenings_2.eq_2, if_neg (show ¬ (10 : Int32) < o3 _ from fun q => by have := (o3_lt (a := 10) (by omega) (by omega)).mp q; omega), ct_word hn hl (w := 5) (by decide) hi, bd_some]
    have step : ∀ (x j' : Nat) (s' : Int32) (S1 : fS), (x = 4 ∨ x = 16) → j' ≤ n → S1.1 38 5 = o3 (brk (x :: H)) → S1.1 38 6 = o3 (dep (x :: H)) → (∀ a k, ¬ (a = 38 ∧ (k = 5 ∨ k = 6)) → S1.1 a k = S.1 a k) → S1.2 = S.2 → ∃ S' i' s'', ((f_X5_hold (o3 x) (tS S1 (o3 j') s' f)).bind fun q => lp_X5_readOpenings_2 K nn (o3 (p + 1)) q) = some (if (opn (S.1 2) n (d + 1) j' (x :: H)).1 = 0 then (1, tS S' (o3 (opn (S.1 2) n (d + 1) j' (x :: H)).2.1) s'' f) else (0, tS S' i' s'' (o3 (opn (S.1 2) n (d + 1) j' (x :: H)).1))) ∧ eQ S S' ∧ ((opn (S.1 2) n (d + 1) j' (x :: H)).1 = 0 → RC S' m c (opn (S.1 2) n (d + 1) j' (x :: H)).2.2) := by
      intro x j' s' S1 hx hj' h5 h6 hfr hfr2
      obtain ⟨S2, e1, e2, e3⟩ := cq_hold (m := m) (c := c) (H := H) (a := x) (i := o3 j') (s := s') (f := f) (by rw [hfr 38 3 (by omega)]; exact r1) (by rw [hfr 38 4 (by omega)]; exact r2) h5 h6 (fun k hk => by rw [hfr 39 k (by omega)]; exact r5 k hk) (by rw [hfr 40 2 (by omega)]; exact r6) (fun k hk => by rw [hfr 41 k (by omega)]; exact r7 k hk) (by omega)
      have hdx : dep (x :: H) = dep H + 1 := by rcases hx with rfl | rfl <;> rfl
      have hE1 : eQ S S1 := ⟨fun a k hn => hfr a k (fun q => hn (by unfold wQ; omega)), hfr2⟩
      rw [e1, bd_some]
      obtain ⟨S3, i3, s3, g1, g2, g3⟩ := ih (p + 1) nn (x :: H) S2 j' s' (by rw [e3.1 1 1 (by unfold wQ; omega), hfr 1 1 (by omega)]; exact hn) (funext fun k => by rw [e3.1 2 k (by unfold wQ; omega), hfr 2 k (by omega)]) e2 (by omega) (by omega) (by show H.length + 1 ≤ _; omega) hj' (by omega)
      exact ⟨S3, i3, s3, g1, (hE1.tr e3).tr g2, g3⟩
    rw [opn_s]
    by_cases hw : wat (S.1 2) n (mm_sb.getD 5 []) (sk (S.1 2) n i) = true
    · have hle : sk (S.1 2) n i + 3 ≤ n := wat_le hj hw
      rw [if_pos hw, if_pos hw, if_neg (show ¬ 10 ≤ dep H by omega)]
      dsimp only
      rw [if_neg (show ¬ (1 : Int32) = 0 by decide), tS_ne (by omega), r4, if_pos (show o3 _ < (10 : Int32) from (o3_lt (b := 10) (by omega) (by omega)).mpr (by omega)), bd_some, tS_pI (by omega), if_neg (show ¬ (1 : Int32) = 0 by decide), bd_some, tS_ne (by omega), pI_ne (by omega), r3, tS_pI (by omega), o3_s, o3_s, Int32.add_zero, if_neg (show ¬ (1 : Int32) = 0 by decide)]
      exact step 4 (sk (S.1 2) n i + 3) _ _ (Or.inl rfl) hle (by rw [pI_eq, brk_4]) (by rw [pI_ne (by omega), pI_eq, dep_4]) (fun a k h => by rw [pI_ne (by omega), pI_ne (by omega)]) rfl
    · rw [if_neg hw, if_neg hw]
      dsimp only
      rw [if_pos (show (0 : Int32) = 0 from rfl), ct_sign hn hl (by decide) hj, bd_some, sk_id]
      by_cases hb : sk (S.1 2) n i < n ∧ S.1 2 (sk (S.1 2) n i) = 91
      · rw [if_pos hb, if_pos hb, if_neg (show ¬ 10 ≤ dep H by omega)]
        dsimp only
        rw [if_neg (show ¬ (1 : Int32) = 0 by decide), tS_ne (by omega), r4, if_pos (show o3 _ < (10 : Int32) from (o3_lt (b := 10) (by omega) (by omega)).mpr (by omega)), bd_some, tS_pI (by omega), if_pos (show (0 : Int32) = 0 from rfl), bd_some, tS_ne (by omega), pI_ne (by omega), r3, tS_pI (by omega), o3_s, o3_s, o3_s, if_pos (show (0 : Int32) = 0 from rfl)]
        exact step 16 (sk (S.1 2) n i + 1) _ _ (Or.inr rfl) (by omega) (by rw [pI_eq, brk_16]) (by rw [pI_ne (by omega), pI_eq, dep_16]) (fun a k h => by rw [pI_ne (by omega), pI_ne (by omega)]) rfl
      · rw [if_neg hb, if_neg hb]
        dsimp only
        rw [if_pos (show (0 : Int32) = 0 from rfl)]
        exact ⟨S, 0, _, by rw [if_pos (show (0 : Nat) = 0 from rfl)], eQ.rf, fun _ => hR0⟩
end CO
end
