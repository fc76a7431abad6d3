section
/-! the reference reads a tower to its end -/
theorem b255 : ∀ k : Fin 256, (Int32.ofInt ((k : Int) - 128) &&& 255) = if k.val < 128 then Int32.ofInt ((k : Int) + 128) else Int32.ofInt ((k : Int) - 128) := by decide +kernel
def byt (x : Int32) : Prop := -128 ≤ x.toInt ∧ x.toInt ≤ 127
theorem b_and {x : Int32} (h : byt x) : (x &&& 255).toInt = if x.toInt < 0 then x.toInt + 256 else x.toInt := by
  obtain ⟨h1, h2⟩ := h
  have hk : (x.toInt + 128).toNat < 256 := by omega
  have e := b255 ⟨(x.toInt + 128).toNat, hk⟩
  have hv : ((⟨(x.toInt + 128).toNat, hk⟩ : Fin 256).val : Int) = x.toInt + 128 := by show ((x.toInt + 128).toNat : Int) = _; omega
  have ex : Int32.ofInt (((⟨(x.toInt + 128).toNat, hk⟩ : Fin 256).val : Int) - 128) = x := by
    rw [hv, ni_eq, Int32.toInt_ofInt_of_le (by omega) (by omega)]; omega
  have e : (Int32.ofInt (((⟨(x.toInt + 128).toNat, hk⟩ : Fin 256).val : Int) - 128) &&& 255) = if (x.toInt + 128).toNat < 128 then Int32.ofInt (((⟨(x.toInt + 128).toNat, hk⟩ : Fin 256).val : Int) + 128) else Int32.ofInt (((⟨(x.toInt + 128).toNat, hk⟩ : Fin 256).val : Int) - 128) := e
  rw [ex] at e
  rw [e]
  by_cases hx : x.toInt < 0
  · rw [if_pos (by omega), if_pos hx, hv, Int32.toInt_ofInt_of_le (by omega) (by omega)]; omega
  · rw [if_neg (by omega), if_neg hx]
theorem seen_eq {t : Nat → Int32} {n j : Nat} (hb : ∀ k, byt (t k)) {c : Int32} (h0 : 0 ≤ c.toInt) (h1 : c.toInt ≤ 127) : seen t n j = c ↔ j < n ∧ t j = c := by
  unfold seen
  by_cases h : j < n
  · rw [if_pos h]
    have e := b_and (hb j)
    have hbj := hb j
    unfold byt at hbj
    constructor
    · intro q
      rw [q] at e
      refine ⟨h, ni_eq.mpr ?_⟩
      split at e <;> omega
    · rintro ⟨-, q⟩
      rw [ni_eq, e, q, if_neg (by omega)]
  · rw [if_neg h]
    constructor
    · intro q
      rw [← q] at h0
      exact absurd h0 (by decide)
    · intro q; exact absurd q.1 h
theorem seen_no {t : Nat → Int32} {n j : Nat} (hb : ∀ k, byt (t k)) : seen t n j = -1 ↔ ¬ j < n := by
  unfold seen
  by_cases h : j < n
  · rw [if_pos h]
    have e := b_and (hb j)
    have hbj := hb j
    unfold byt at hbj
    constructor
    · intro q
      rw [q] at e
      have e : (-1 : Int) = _ := e
      split at e <;> omega
    · intro q; exact absurd h q
  · rw [if_neg h]
    exact ⟨fun _ => h, fun _ => rfl⟩
theorem tFl_ne {t : Nat → Int32} {n i : Nat} {B : TB} (h : (tFl t n B i).1 = 0) : 0 < (tFl t n B i).2.2.1.length := by
  unfold tFl at h ⊢
  by_cases c1 : nmf t n i 1 20 = 0
  · rw [if_pos c1] at h ⊢
    by_cases c2 : nmf t n (nmp t n i) 1 20 = 0
    · rw [if_pos c2]
      show 0 < (B.1 ++ [_]).length
      rw [ln_app]; omega
    · rw [if_neg c2] at h; exact absurd h c2
  · rw [if_neg c1] at h; exact absurd h c1
theorem tPc_ne {t : Nat → Int32} {n i a b c : Nat} {B : TB} : (tPc t n B a b c i).2.2.1 = B.1 := by
  unfold tPc
  by_cases c1 : nmf t n i 1 20 = 0
  · rw [if_pos c1]
    by_cases c2 : nmf t n (nmp t n i) 1 20 = 0
    · rw [if_pos c2]
    · rw [if_neg c2]
  · rw [if_neg c1]
theorem tSt_ne {t : Nat → Int32} {n i : Nat} {B : TB} (h : (tSt t n B i).1 = 0) : 0 < (tSt t n B i).2.2.1.length := by
  unfold tSt at h ⊢
  by_cases c1 : nmf t n i 0 (B.1.length - 1) = 0
  · have g := (nmf_0 c1).2.2
    rw [if_pos c1] at h ⊢
    by_cases c2 : nmf t n (nmp t n i) 0 (B.1.length - 1) = 0
    · rw [if_pos c2] at h ⊢
      by_cases c3 : nmv t n i = nmv t n (nmp t n i)
      · rw [if_pos c3]
        show 0 < B.1.length
        omega
      · rw [if_neg c3] at h ⊢
        by_cases c4 : nmf t n (nmp t n (nmp t n i)) 1 9 = 0
        · rw [if_pos c4, tPc_ne]
          omega
        · rw [if_neg c4]
          show 0 < B.1.length
          omega
    · rw [if_neg c2]
      show 0 < B.1.length
      omega
  · rw [if_neg c1] at h; exact absurd h c1
theorem tTh_ne {t : Nat → Int32} {n i : Nat} {B : TB} (h : (tTh t n B i).1 = 0) : 0 < (tTh t n B i).2.2.1.length := by
  unfold tTh at h ⊢
  by_cases c1 : nmf t n i 0 (B.1.length - 1) = 0
  · have g := (nmf_0 c1).2.2
    rw [if_pos c1]
    show 0 < B.1.length
    omega
  · rw [if_neg c1] at h; exact absurd h c1
theorem tcl_ne {t : Nat → Int32} {n c i : Nat} {B : TB} (h : (tcl t n c B i).1 = 0) : 0 < (tcl t n c B i).2.2.1.length := by
  unfold tcl at h ⊢
  by_cases h1 : wat t n (mm_sb.getD 0 []) (sk t n i) = true
  · rw [if_pos h1] at h ⊢
    by_cases h2 : 10 ≤ B.1.length ∨ 24 ≤ c
    · rw [if_pos h2] at h; exact absurd h (by show ¬ (1 + 8 * _ + 4 = 0); omega)
    · rw [if_neg h2] at h ⊢
      exact tFl_ne h
  · rw [if_neg h1] at h ⊢
    by_cases h3 : wat t n (mm_sb.getD 1 []) (sk t n i) = true
    · rw [if_pos h3] at h ⊢
      by_cases h2 : 12 ≤ B.2.1.length ∨ 24 ≤ c
      · rw [if_pos h2] at h; exact absurd h (by show ¬ (1 + 8 * _ + 4 = 0); omega)
      · rw [if_neg h2] at h ⊢
        exact tSt_ne h
    · rw [if_neg h3] at h ⊢
      by_cases h4 : wat t n (mm_sb.getD 2 []) (sk t n i) = true
      · rw [if_pos h4] at h ⊢
        by_cases h2 : 8 ≤ B.2.2.length ∨ 24 ≤ c
        · rw [if_pos h2] at h; exact absurd h (by show ¬ (1 + 8 * _ + 4 = 0); omega)
        · rw [if_neg h2] at h ⊢
          exact tTh_ne h
      · rw [if_neg h4] at h; exact absurd h (by show ¬ (1 + 8 * _ = 0); omega)
/-- behind a clause -/
def tl (t : Nat → Int32) (n d c i : Nat) (B : TB) : Nat × TB := if sk t n i < n then (if t (sk t n i) = 59 then tall t n d c (sk t n i + 1) B else (1 + 8 * sk t n i, B)) else (0, B)
theorem tall_tl {t : Nat → Int32} {n d c i : Nat} {B : TB} : tall t n (d + 1) c i B = if (tcl t n c B i).1 = 0 then tl t n d (c + 1) (tcl t n c B i).2.1 (tcl t n c B i).2.2 else ((tcl t n c B i).1, B) := rfl
section ML
variable {n : Nat} {t : Nat → Int32}
/-- how the loop over clauses leaves the reader: good, and at the end; or with a fault that is told, or that is to be told at the place where it stands -/
def mEnd (n : Nat) (t : Nat → Int32) (r : Nat × TB) (g : Int32) (S' : fS) (i' w' : Int32) : Prop :=
  (r.1 = 0 ∧ g = 1 ∧ w' = 0 ∧ (∃ j, i' = o3 j ∧ ¬ j < n ∧ j ≤ n) ∧ TBm S' r.2 ∧ 0 < r.2.1.length ∧ okB r.2) ∨ (r.1 ≠ 0 ∧ g = 0 ∧ w' = o3 r.1) ∨ (∃ j, r.1 = 1 + 8 * j ∧ g = 1 ∧ w' = 0 ∧ i' = o3 j ∧ j < n ∧ sk t n j = j)
theorem ml_loop (hl : n ≤ 400) (hb : ∀ k, byt (t k)) {K : Int32 → fS → Option (Int32 × fS)} : ∀ d c m B (S : fS) (i : Nat) (u : Int32), S.1 145 1 = o3 n → S.1 146 = t → TBm S B → okB B → 0 < B.1.length → S.1 145 19 = o3 c → S.1 145 16 = 6 → i ≤ n → c + d = 24 → d + 1 < m → ∃ S' u' i' w' g, lp_X11_readsAll_35 K m 1 (mS S (o3 i) 0 u) = K g (mS S' i' w' u') ∧ eC S S' ∧ mEnd n t (tl t n (d + 1) c i B) g S' i' w' := by
  intro d
  induction d with
  | zero =>
    intro c m B S i u hn ht hB hok hne h19 h16 hi hcd hm
    subst ht
    obtain ⟨m, rfl⟩ : ∃ m', m = m' + 1 := ⟨m - 1, by omega⟩
    have hj := sk_le (t := S.1 146) hi
    rw [lp_X11_readsAll_35.eq_2, if_neg (show ¬ (1 : Int32) = 0 by decide), mt_see hn hl hi, bd_some]
    dsimp only
    unfold tl
    by_cases h59 : sk (S.1 146) n i < n ∧ S.1 146 (sk (S.1 146) n i) = 59
    · rw [if_pos ((seen_eq hb (by decide) (by decide)).mpr h59), bd_some, mS_nx, mS_13, o3_s, if_pos h59.1, if_pos h59.2, tall_tl]
      obtain ⟨S1, u1, i1, e1, f1, g1⟩ := mc_clause (u := u) hn hl hB hok (c := c) (by omega) h19 h16 (i := sk (S.1 146) n i + 1) (by omega)
      have hz : ¬ (tcl (S.1 146) n c B (sk (S.1 146) n i + 1)).1 = 0 := fun q => by have := (tcl_ok hok q).2; omega
      obtain ⟨m, rfl⟩ : ∃ m', m = m' + 1 := ⟨m - 1, by omega⟩
      rw [e1, bd_some, if_neg hz, if_neg hz]
      dsimp only
      rw [lp_X11_readsAll_35.eq_2, if_pos (show (0 : Int32) = 0 from rfl)]
      exact ⟨S1, u1, i1, _, 0, rfl, f1, Or.inr (Or.inl ⟨hz, rfl, rfl⟩)⟩
    · rw [if_neg (fun q => h59 ((seen_eq hb (by decide) (by decide)).mp q))]
      refine ⟨S, u, _, 0, 1, rfl, eC.rf, ?_⟩
      by_cases h1 : sk (S.1 146) n i < n
      · rw [if_pos h1, if_neg (fun q => h59 ⟨h1, q⟩)]
        exact Or.inr (Or.inr ⟨sk (S.1 146) n i, rfl, rfl, rfl, rfl, h1, sk_id⟩)
      · rw [if_neg h1]
        exact Or.inl ⟨rfl, rfl, rfl, ⟨_, rfl, h1, hj⟩, hB, hne, hok⟩
  | succ d ih =>
    intro c m B S i u hn ht hB hok hne h19 h16 hi hcd hm
    subst ht
    obtain ⟨m, rfl⟩ : ∃ m', m = m' + 1 := ⟨m - 1, by omega⟩
    have hj := sk_le (t := S.1 146) hi
    rw [lp_X11_readsAll_35.eq_2, if_neg (show ¬ (1 : Int32) = 0 by decide), mt_see hn hl hi, bd_some]
    dsimp only
    rw [show tl (S.1 146) n (d + 1 + 1) c i B = if sk (S.1 146) n i < n then (if S.1 146 (sk (S.1 146) n i) = 59 then tall (S.1 146) n (d + 1 + 1) c (sk (S.1 146) n i + 1) B else (1 + 8 * sk (S.1 146) n i, B)) else (0, B) from rfl]
    by_cases h59 : sk (S.1 146) n i < n ∧ S.1 146 (sk (S.1 146) n i) = 59
    · rw [if_pos ((seen_eq hb (by decide) (by decide)).mpr h59), bd_some, mS_nx, mS_13, o3_s, if_pos h59.1, if_pos h59.2, tall_tl]
      obtain ⟨S1, u1, i1, e1, f1, g1⟩ := mc_clause (u := u) hn hl hB hok (c := c) (by omega) h19 h16 (i := sk (S.1 146) n i + 1) (by omega)
      rw [e1, bd_some]
      by_cases hz : (tcl (S.1 146) n c B (sk (S.1 146) n i + 1)).1 = 0
      · rw [if_pos hz, if_pos hz]
        dsimp only
        have hle := tcl_le (t := S.1 146) (B := B) (c := c) (i := sk (S.1 146) n i + 1) (by omega) hz
        obtain ⟨S2, u2, i2, w2, g2, e2, f2, m2⟩ := ih (c + 1) m _ S1 _ u1 (by rw [f1.1 145 1 (by unfold wM; omega)]; exact hn) (funext fun k => f1.1 146 k (by unfold wM; omega)) (g1 hz).1 (tcl_ok hok hz).1 (tcl_ne hz) (g1 hz).2 (by rw [f1.1 145 16 (by unfold wM; omega)]; exact h16) hle.1 (by omega) (by omega)
        exact ⟨S2, u2, i2, w2, g2, e2, f1.tr f2, m2⟩
      · rw [if_neg hz, if_neg hz]
        dsimp only
        obtain ⟨m, rfl⟩ : ∃ m', m = m' + 1 := ⟨m - 1, by omega⟩
        rw [lp_X11_readsAll_35.eq_2, if_pos (show (0 : Int32) = 0 from rfl)]
        exact ⟨S1, u1, i1, _, 0, rfl, f1, Or.inr (Or.inl ⟨hz, rfl, rfl⟩)⟩
    · rw [if_neg (fun q => h59 ((seen_eq hb (by decide) (by decide)).mp q))]
      refine ⟨S, u, _, 0, 1, rfl, eC.rf, ?_⟩
      by_cases h1 : sk (S.1 146) n i < n
      · rw [if_pos h1, if_neg (fun q => h59 ⟨h1, q⟩)]
        exact Or.inr (Or.inr ⟨sk (S.1 146) n i, rfl, rfl, rfl, rfl, h1, sk_id⟩)
      · rw [if_neg h1]
        exact Or.inl ⟨rfl, rfl, rfl, ⟨_, rfl, h1, hj⟩, hB, hne, hok⟩
end ML
end
section
theorem pI_ne {S : fS} {a k b j : Nat} {x : Int32} (h : ¬ (b = a ∧ j = k)) : (pI S a k x).1 b j = S.1 b j := by rw [pI_get, if_neg h]
theorem pL_ne {S : fS} {a k b j : Nat} {x : Int64} (h : ¬ (b = a ∧ j = k)) : (pL S a k x).2 b j = S.2 b j := by rw [pL_get, if_neg h]
/-! a tower's faults are small -/
section TF
variable {t : Nat → Int32} {n : Nat} {B : TB} {i : Nat}
theorem tFl_fl (hi : i ≤ n) : (tFl t n B i).1 ≤ 8 * n + 10 := by
  have h1 := nmf_le (t := t) (lo := 1) (hi := 20) hi
  have h2 := nmf_le (t := t) (lo := 1) (hi := 20) (nmp_le (t := t) hi)
  unfold tFl
  split
  · split
    · exact Nat.zero_le _
    · show nmf t n (nmp t n i) 1 20 ≤ _; omega
  · show nmf t n i 1 20 ≤ _; omega
theorem tPc_fl {a b c : Nat} (hi : i ≤ n) : (tPc t n B a b c i).1 ≤ 8 * n + 10 := by
  have h1 := nmf_le (t := t) (lo := 1) (hi := 20) hi
  have h2 := nmf_le (t := t) (lo := 1) (hi := 20) (nmp_le (t := t) hi)
  unfold tPc
  split
  · split
    · exact Nat.zero_le _
    · show nmf t n (nmp t n i) 1 20 ≤ _; omega
  · show nmf t n i 1 20 ≤ _; omega
theorem tSt_fl (hi : i ≤ n) : (tSt t n B i).1 ≤ 8 * n + 10 := by
  have e1 := nmp_le (t := t) hi
  have e2 := nmp_le (t := t) e1
  have e3 := nmp_le (t := t) e2
  have h1 := nmf_le (t := t) (lo := 0) (hi := B.1.length - 1) hi
  have h2 := nmf_le (t := t) (lo := 0) (hi := B.1.length - 1) e1
  have h3 := nmf_le (t := t) (lo := 1) (hi := 9) e2
  have h4 := sk_le (t := t) e1
  unfold tSt
  split
  · split
    · split
      · show 1 + 8 * sk t n (nmp t n i) + 1 ≤ _; omega
      · split
        · exact tPc_fl e3
        · show nmf t n (nmp t n (nmp t n i)) 1 9 ≤ _; omega
    · show nmf t n (nmp t n i) 0 _ ≤ _; omega
  · show nmf t n i 0 _ ≤ _; omega
theorem tTh_fl (hi : i ≤ n) : (tTh t n B i).1 ≤ 8 * n + 10 := by
  have h1 := nmf_le (t := t) (lo := 0) (hi := B.1.length - 1) hi
  unfold tTh
  split
  · exact Nat.zero_le _
  · show nmf t n i 0 _ ≤ _; omega
theorem tcl_fl {c : Nat} (hi : i ≤ n) : (tcl t n c B i).1 ≤ 8 * n + 10 := by
  have hj := sk_le (t := t) hi
  unfold tcl
  by_cases h1 : wat t n (mm_sb.getD 0 []) (sk t n i) = true
  · rw [if_pos h1]
    have hw : sk t n i + 5 ≤ n := wat_le hj h1
    split
    · show 1 + 8 * sk t n i + 4 ≤ _; omega
    · exact tFl_fl hw
  · rw [if_neg h1]
    by_cases h2 : wat t n (mm_sb.getD 1 []) (sk t n i) = true
    · rw [if_pos h2]
      have hw : sk t n i + 5 ≤ n := wat_le hj h2
      split
      · show 1 + 8 * sk t n i + 4 ≤ _; omega
      · exact tSt_fl hw
    · rw [if_neg h2]
      by_cases h3 : wat t n (mm_sb.getD 2 []) (sk t n i) = true
      · rw [if_pos h3]
        have hw : sk t n i + 5 ≤ n := wat_le hj h3
        split
        · show 1 + 8 * sk t n i + 4 ≤ _; omega
        · exact tTh_fl hw
      · rw [if_neg h3]
        show 1 + 8 * sk t n i ≤ _; omega
end TF
theorem tall_fl {t : Nat → Int32} {n : Nat} : ∀ f c i B, i ≤ n → (tall t n f c i B).1 ≤ 8 * n + 10 := by
  intro f
  induction f with
  | zero => intro c i B _; show 1 ≤ _; omega
  | succ f ih =>
    intro c i B hi
    have h1 := tcl_fl (t := t) (B := B) (c := c) hi
    rw [tall_tl]
    by_cases hz : (tcl t n c B i).1 = 0
    · rw [if_pos hz]
      have hle := tcl_le hi hz
      have hs := sk_le (t := t) hle.1
      unfold tl
      split
      · split
        · exact ih _ _ _ (by omega)
        · show 1 + 8 * _ ≤ _; omega
      · exact Nat.zero_le _
    · rw [if_neg hz]; exact h1
/-- what the reference's reader does behind the clauses -/
def rdK (u30 : Int32) (S31 : fS) : Option (Int32 × fS) := if u30 = (0 : Int32) then (if u30 = (0 : Int32) then ((some (pI S31 145 1 (0 : Int32))).bind fun S35 =>
  if (S35.1 145 14) = (0 : Int32) then (some ((1 : Int32), S35)) else
  (some ((0 : Int32), S35))) else
  (if (S31.1 145 16) = (6 : Int32) then (if (S31.1 145 7) = (0 : Int32) then ((f_X11_fails (0 : Int32) (S31.1 145 13) S31).bind fun q49 =>
  (some (pI q49.2 145 1 (0 : Int32))).bind fun S52 =>
  if (S52.1 145 14) = (0 : Int32) then (some ((1 : Int32), S52)) else
  (some ((0 : Int32), S52))) else
  ((some (pI S31 145 1 (0 : Int32))).bind fun S45 =>
  if (S45.1 145 14) = (0 : Int32) then (some ((1 : Int32), S45)) else
  (some ((0 : Int32), S45)))) else
  ((some (pI S31 145 1 (0 : Int32))).bind fun S40 =>
  if (S40.1 145 14) = (0 : Int32) then (some ((1 : Int32), S40)) else
  (some ((0 : Int32), S40))))) else
  ((f_X11_see  S31).bind fun q56 =>
  if q56.1 = (-1 : Int32) then (if u30 = (0 : Int32) then ((some (pI q56.2 145 1 (0 : Int32))).bind fun S61 =>
  if (S61.1 145 14) = (0 : Int32) then (some ((1 : Int32), S61)) else
  (some ((0 : Int32), S61))) else
  (if (q56.2.1 145 16) = (6 : Int32) then (if (q56.2.1 145 7) = (0 : Int32) then ((f_X11_fails (0 : Int32) (q56.2.1 145 13) q56.2).bind fun q75 =>
  (some (pI q75.2 145 1 (0 : Int32))).bind fun S78 =>
  if (S78.1 145 14) = (0 : Int32) then (some ((1 : Int32), S78)) else
  (some ((0 : Int32), S78))) else
  ((some (pI q56.2 145 1 (0 : Int32))).bind fun S71 =>
  if (S71.1 145 14) = (0 : Int32) then (some ((1 : Int32), S71)) else
  (some ((0 : Int32), S71)))) else
  ((some (pI q56.2 145 1 (0 : Int32))).bind fun S66 =>
  if (S66.1 145 14) = (0 : Int32) then (some ((1 : Int32), S66)) else
  (some ((0 : Int32), S66))))) else
  ((f_X11_fails (0 : Int32) (q56.2.1 145 13) q56.2).bind fun q82 =>
  if q82.1 = (0 : Int32) then ((some (pI q82.2 145 1 (0 : Int32))).bind fun S86 =>
  if (S86.1 145 14) = (0 : Int32) then (some ((1 : Int32), S86)) else
  (some ((0 : Int32), S86))) else
  (if (q82.2.1 145 16) = (6 : Int32) then (if (q82.2.1 145 7) = (0 : Int32) then ((f_X11_fails (0 : Int32) (q82.2.1 145 13) q82.2).bind fun q100 =>
  (some (pI q100.2 145 1 (0 : Int32))).bind fun S103 =>
  if (S103.1 145 14) = (0 : Int32) then (some ((1 : Int32), S103)) else
  (some ((0 : Int32), S103))) else
  ((some (pI q82.2 145 1 (0 : Int32))).bind fun S96 =>
  if (S96.1 145 14) = (0 : Int32) then (some ((1 : Int32), S96)) else
  (some ((0 : Int32), S96)))) else
  ((some (pI q82.2 145 1 (0 : Int32))).bind fun S91 =>
  if (S91.1 145 14) = (0 : Int32) then (some ((1 : Int32), S91)) else
  (some ((0 : Int32), S91))))))
theorem rd_eq {S : fS} : f_X11_readsAll S = ((sI S 148 7 (S.1 145 16) (0 : Int32)).bind fun S1 =>
  (some (pI S1 145 19 (0 : Int32))).bind fun S4 =>
  (some (pI S4 145 13 (0 : Int32))).bind fun S7 =>
  (some (pI S7 145 14 (0 : Int32))).bind fun S10 =>
  (some (pI S10 145 17 (0 : Int32))).bind fun S13 =>
  (f_X11_clauseHere S13).bind fun q16 => lp_X11_readsAll_35 rdK FU q16.1 q16.2) := rfl
theorem rd_0 {X : fS} : rdK 0 X = some (if X.1 145 14 = 0 then 1 else 0, pI X 145 1 0) := by
  unfold rdK
  rw [if_pos (show (0 : Int32) = 0 from rfl), if_pos (show (0 : Int32) = 0 from rfl), bd_some, pI_ne (by omega)]
  by_cases h : X.1 145 14 = 0
  · rw [if_pos h, if_pos h]
  · rw [if_neg h, if_neg h]
theorem rd_1 {X Y : fS} {c : Int32} (e : f_X11_see X = some (c, Y)) (hc : c ≠ -1) (hw : Y.1 145 14 = 0) : rdK 1 X = some (if (1 + 8 * Y.1 145 13 + 0 : Int32) = 0 then 1 else 0, pI (pI Y 145 14 (1 + 8 * Y.1 145 13 + 0)) 145 1 0) := by
  unfold rdK
  rw [if_neg (show ¬ (1 : Int32) = 0 by decide), e, bd_some]
  dsimp only
  rw [if_neg hc, mt_fails hw, bd_some]
  dsimp only
  rw [if_pos (show (0 : Int32) = 0 from rfl), bd_some, pI_ne (by omega), pI_eq]
  by_cases h : (1 + 8 * Y.1 145 13 + 0 : Int32) = 0
  · rw [if_pos h, if_pos h]
  · rw [if_neg h, if_neg h]
theorem rd_2 {X Y : fS} (e : f_X11_see X = some (-1, Y)) (h16 : Y.1 145 16 = 6) (h7 : Y.1 145 7 ≠ 0) (hw : Y.1 145 14 = 0) : rdK 1 X = some (1, pI Y 145 1 0) := by
  unfold rdK
  rw [if_neg (show ¬ (1 : Int32) = 0 by decide), e, bd_some]
  dsimp only
  rw [if_pos (show (-1 : Int32) = -1 from rfl), if_neg (show ¬ (1 : Int32) = 0 by decide), if_pos h16, if_neg h7, bd_some, pI_ne (by omega), if_pos hw]
/-- outside of the reader's own cells -/
def wR (a k : Nat) : Prop := (a = 145 ∧ (k = 1 ∨ k = 7 ∨ k = 8 ∨ k = 9 ∨ k = 13 ∨ k = 14 ∨ k = 15 ∨ k = 17 ∨ k = 19)) ∨ (a = 148 ∧ k = 6) ∨ a = 151 ∨ a = 152 ∨ a = 153
def eD (S T : fS) : Prop := (∀ a k, ¬ wR a k → T.1 a k = S.1 a k) ∧ T.2 = S.2
theorem eD.rf {S : fS} : eD S S := ⟨fun _ _ _ => rfl, rfl⟩
theorem eD.tr {S T U : fS} (h : eD S T) (g : eD T U) : eD S U := ⟨fun a k n => (g.1 a k n).trans (h.1 a k n), g.2.trans h.2⟩
theorem eD_of {S T : fS} (h : eC S T) : eD S T := ⟨fun a k n => h.1 a k (fun q => n (by unfold wR; unfold wM at q; omega)), h.2⟩
theorem eD_pI {S : fS} {a k : Nat} {x : Int32} (h : wR a k) : eD S (pI S a k x) := ⟨fun b j n => by
  rw [pI_get]
  by_cases q : b = a ∧ j = k
  · exact absurd (q.1 ▸ q.2 ▸ h) n
  · rw [if_neg q], rfl⟩
theorem eD_mS {S : fS} {i w u : Int32} : eD S (mS S i w u) := by
  unfold mS
  exact ((eD_pI (by unfold wR; omega)).tr (eD_pI (by unfold wR; omega))).tr (eD_pI (by unfold wR; omega))
theorem mS_mk {X : fS} {i w : Int32} : pI (pI X 145 13 i) 145 14 w = mS X i w (X.1 145 15) := by
  have e : X.1 145 15 = (pI (pI X 145 13 i) 145 14 w).1 145 15 := by rw [pI_get, if_neg (by omega), pI_get, if_neg (by omega)]
  unfold mS
  rw [e, pI_self]
theorem TBm_cg {S T : fS} {B : TB} (h1 : ∀ k, k = 7 ∨ k = 8 ∨ k = 9 → T.1 145 k = S.1 145 k) (h2 : ∀ a k, a = 151 ∨ a = 152 ∨ a = 153 → T.1 a k = S.1 a k) (hB : TBm S B) : TBm T B := by
  obtain ⟨b1, b2, b3, b4, b5, b6⟩ := hB
  refine ⟨?_, ?_, ?_, fun k hk => ⟨?_, ?_⟩, fun k hk => ⟨?_, ?_, ?_, ?_, ?_⟩, fun k hk => ?_⟩
  · rw [h1 7 (by omega)]; exact b1
  · rw [h1 8 (by omega)]; exact b2
  · rw [h1 9 (by omega)]; exact b3
  · rw [h2 _ _ (by omega)]; exact (b4 k hk).1
  · rw [h2 _ _ (by omega)]; exact (b4 k hk).2
  · rw [h2 _ _ (by omega)]; exact (b5 k hk).1
  · rw [h2 _ _ (by omega)]; exact (b5 k hk).2.1
  · rw [h2 _ _ (by omega)]; exact (b5 k hk).2.2.1
  · rw [h2 _ _ (by omega)]; exact (b5 k hk).2.2.2.1
  · rw [h2 _ _ (by omega)]; exact (b5 k hk).2.2.2.2
  · rw [h2 _ _ (by omega)]; exact b6 k hk
end
section
theorem m_reads {S : fS} {n : Nat} (hn : S.1 145 1 = o3 n) (hl : n ≤ 400) (hb : ∀ k, byt (S.1 146 k)) (h16 : S.1 145 16 = 6) (h7 : S.1 145 7 = 0) (h8 : S.1 145 8 = 0) (h9 : S.1 145 9 = 0) : ∃ Y, f_X11_readsAll S = some (if (tw0 (S.1 146) n).1 = 0 then 1 else 0, Y) ∧ Y.1 145 1 = 0 ∧ ((tw0 (S.1 146) n).1 = 0 → TBm Y (tw0 (S.1 146) n).2) ∧ (¬ (tw0 (S.1 146) n).1 = 0 → Y.1 145 14 = o3 (tw0 (S.1 146) n).1) ∧ eD S Y := by
  have hfl : (tw0 (S.1 146) n).1 ≤ 8 * n + 10 := tall_fl 25 0 0 _ (Nat.zero_le _)
  rw [rd_eq, h16, show (6 : Int32) = o3 6 from rfl, sI_o (by omega) (by omega), bd_some, bd_some, bd_some, bd_some, bd_some]
  rw [mS_mk, mS_p (by omega)]
  generalize hX : pI (pI (pI S 148 6 0) 145 19 0) 145 17 0 = X
  generalize hu : (pI (pI S 148 6 0) 145 19 0).1 145 15 = u
  have hD0 : eD S X := by
    rw [← hX]
    exact ((eD_pI (by unfold wR; omega)).tr (eD_pI (by unfold wR; omega))).tr (eD_pI (by unfold wR; omega))
  have hXn : X.1 145 1 = o3 n := by rw [← hX, pI_ne (by omega), pI_ne (by omega), pI_ne (by omega)]; exact hn
  have hXt : X.1 146 = S.1 146 := by rw [← hX]; exact funext fun k => by rw [pI_ne (by omega), pI_ne (by omega), pI_ne (by omega)]
  have hX16 : X.1 145 16 = 6 := by rw [← hX, pI_ne (by omega), pI_ne (by omega), pI_ne (by omega)]; exact h16
  have hX7 : X.1 145 7 = 0 := by rw [← hX, pI_ne (by omega), pI_ne (by omega), pI_ne (by omega)]; exact h7
  have hX8 : X.1 145 8 = 0 := by rw [← hX, pI_ne (by omega), pI_ne (by omega), pI_ne (by omega)]; exact h8
  have hX9 : X.1 145 9 = 0 := by rw [← hX, pI_ne (by omega), pI_ne (by omega), pI_ne (by omega)]; exact h9
  have hX19 : X.1 145 19 = o3 0 := by rw [← hX, pI_ne (by omega), pI_eq]; rfl
  have hB : TBm X ([], [], []) := ⟨hX7, hX8, hX9, fun k hk => absurd hk (Nat.not_lt_zero _), fun k hk => absurd hk (Nat.not_lt_zero _), fun k hk => absurd hk (Nat.not_lt_zero _)⟩
  have hok : okB ([], [], []) := ⟨by decide, by decide, by decide, fun q hq => absurd hq List.not_mem_nil, fun q hq => absurd hq List.not_mem_nil, fun q hq => absurd hq List.not_mem_nil⟩
  obtain ⟨S1, u1, i1, e1, f1, g1⟩ := mc_clause (u := u) hXn hl hB hok (c := 0) (by omega) hX19 hX16 (i := 0) (by omega)
  rw [hXt] at e1 g1
  have e1' : f_X11_clauseHere (mS X 0 0 u) = some (if (tcl (S.1 146) n 0 ([], [], []) 0).1 = 0 then (1, mS S1 (o3 (tcl (S.1 146) n 0 ([], [], []) 0).2.1) 0 u1) else (0, mS S1 i1 (o3 (tcl (S.1 146) n 0 ([], [], []) 0).1) u1)) := e1
  rw [e1', bd_some]
  have htw : tw0 (S.1 146) n = if (tcl (S.1 146) n 0 ([], [], []) 0).1 = 0 then tl (S.1 146) n 24 1 (tcl (S.1 146) n 0 ([], [], []) 0).2.1 (tcl (S.1 146) n 0 ([], [], []) 0).2.2 else ((tcl (S.1 146) n 0 ([], [], []) 0).1, ([], [], [])) := rfl
  have bad : ∀ (S2 : fS) (i2 u2 : Int32) (r : Nat), r ≠ 0 → r ≤ 8 * n + 10 → eD S S2 → rdK 0 (mS S2 i2 (o3 r) u2) = some (0, pI (mS S2 i2 (o3 r) u2) 145 1 0) ∧ (pI (mS S2 i2 (o3 r) u2) 145 1 0).1 145 14 = o3 r ∧ eD S (pI (mS S2 i2 (o3 r) u2) 145 1 0) := by
    intro S2 i2 u2 r h0 hr hD
    refine ⟨?_, ?_, (hD.tr eD_mS).tr (eD_pI (by unfold wR; omega))⟩
    · rw [rd_0, mS_14, if_neg (o3_ne0 (by omega) h0)]
    · rw [pI_ne (by omega), mS_14]
  by_cases hz : (tcl (S.1 146) n 0 ([], [], []) 0).1 = 0
  · rw [if_pos hz]
    rw [if_pos hz] at htw
    dsimp only
    have hle := tcl_le (t := S.1 146) (n := n) (c := 0) (B := ([], [], [])) (i := 0) (Nat.zero_le _) hz
    have f1' := f1
    obtain ⟨S2, u2, i2, w2, g2, e2, f2, m2⟩ := ml_loop hl hb (K := rdK) 23 1 FU _ S1 _ u1 (by rw [f1.1 145 1 (by unfold wM; omega)]; exact hXn) (by rw [← hXt]; exact funext fun k => f1.1 146 k (by unfold wM; omega)) (g1 hz).1 (tcl_ok hok hz).1 (tcl_ne hz) (g1 hz).2 (by rw [f1.1 145 16 (by unfold wM; omega)]; exact hX16) hle.1 (by omega) (FU_lt (by omega))
    rw [e2, htw]
    rw [htw] at hfl
    have hD2 : eD S S2 := hD0.tr ((eD_of f1).tr (eD_of f2))
    have hn2 : S2.1 145 1 = o3 n := by rw [f2.1 145 1 (by unfold wM; omega), f1.1 145 1 (by unfold wM; omega)]; exact hXn
    have ht2 : S2.1 146 = S.1 146 := by rw [← hXt]; exact funext fun k => by rw [f2.1 146 k (by unfold wM; omega), f1.1 146 k (by unfold wM; omega)]
    have h162 : S2.1 145 16 = 6 := by rw [f2.1 145 16 (by unfold wM; omega), f1.1 145 16 (by unfold wM; omega)]; exact hX16
    rcases m2 with ⟨r0, rfl, rfl, ⟨j, rfl, hj1, hj2⟩, hT, hne, hok2⟩ | ⟨r0, rfl, rfl⟩ | ⟨j, r0, rfl, rfl, rfl, hj1, hj2⟩
    · have hsee := mt_see (w := 0) (u := u2) hn2 hl (i := j) hj2
      have hsk := sk_ge (t := S2.1 146) (n := n) (i := j)
      rw [(seen_no (by rw [ht2]; exact hb)).mpr (by omega)] at hsee
      have hlen := hok2.1
      rw [rd_2 hsee (by rw [mS_ne (by omega)]; exact h162) (by rw [mS_ne (by omega), hT.1]; exact o3_ne0 (by omega) (by omega)) (by rw [mS_14]), if_pos r0]
      refine ⟨_, rfl, by rw [pI_eq], fun _ => TBm_cg (fun k hk => by rw [pI_ne (by omega), mS_ne (by omega)]) (fun a k ha => by rw [pI_ne (by omega), mS_ne (by omega)]) hT, fun q => absurd r0 q, (hD2.tr eD_mS).tr (eD_pI (by unfold wR; omega))⟩
    · obtain ⟨b1, b2, b3⟩ := bad S2 i2 u2 _ r0 hfl hD2
      rw [b1, if_neg r0]
      exact ⟨_, rfl, by rw [pI_eq], fun q => absurd q r0, fun _ => b2, b3⟩
    · have hsee := mt_see (w := 0) (u := u2) hn2 hl (i := j) (by omega)
      rw [ht2, hj2] at hsee
      have r1 : ¬ (tl (S.1 146) n 24 1 (tcl (S.1 146) n 0 ([], [], []) 0).2.1 (tcl (S.1 146) n 0 ([], [], []) 0).2.2).1 = 0 := by
        show ¬ (tl (S.1 146) n (23 + 1) 1 _ _).1 = 0
        rw [r0]; omega
      have hval : (1 + 8 * o3 j + 0 : Int32) = o3 (1 + 8 * j) := by rw [show (1 : Int32) = o3 1 from rfl, show (8 : Int32) = o3 8 from rfl, show (0 : Int32) = o3 0 from rfl, o3_mul, o3_add, o3_add]; rfl
      rw [rd_1 hsee (fun q => (seen_no hb).mp q hj1) (by rw [mS_14]), mS_13, hval, if_neg (o3_ne0 (by omega) (by omega)), if_neg r1]
      refine ⟨_, rfl, by rw [pI_eq], fun q => absurd q r1, fun _ => ?_, ((hD2.tr eD_mS).tr (eD_pI (by unfold wR; omega))).tr (eD_pI (by unfold wR; omega))⟩
      rw [pI_ne (by omega), pI_eq]
      show o3 (1 + 8 * j) = o3 (tl (S.1 146) n (23 + 1) 1 _ _).1
      rw [r0]
  · rw [if_neg hz]
    rw [if_neg hz] at htw
    dsimp only
    have hzf : (tcl (S.1 146) n 0 ([], [], []) 0).1 ≤ 8 * n + 10 := tcl_fl (Nat.zero_le _)
    obtain ⟨mm, hF⟩ := op_FU
    rw [hF, lp_X11_readsAll_35.eq_2, if_pos (show (0 : Int32) = 0 from rfl), htw]
    obtain ⟨b1, b2, b3⟩ := bad S1 i1 u1 _ hz hzf (hD0.tr (eD_of f1))
    rw [b1, if_neg hz]
    exact ⟨_, rfl, by rw [pI_eq], fun q => absurd q hz, fun _ => b2, b3⟩
end
section
/-! the reference measures the ways -/
def rH (S : fS) (w : Mx) : Prop := ∀ a b, a < 10 → b < 10 → S.2 161 (10 * a + b) = o6 (w a b)
def eL (S T : fS) : Prop := T.1 = S.1 ∧ ∀ a k, a ≠ 161 → T.2 a k = S.2 a k
theorem eL.rf {S : fS} : eL S S := ⟨rfl, fun _ _ _ => rfl⟩
theorem eL.tr {S T U : fS} (h : eL S T) (g : eL T U) : eL S U := ⟨g.1.trans h.1, fun a k n => (g.2 a k n).trans (h.2 a k n)⟩
theorem eL_pL {S : fS} {k : Nat} {x : Int64} : eL S (pL S 161 k x) := ⟨rfl, fun a j h => pL_ne (fun q => h q.1)⟩
theorem rH_cg {S : fS} {w v : Mx} (h : rH S w) (e : ∀ a b, a < 10 → b < 10 → v a b = w a b) : rH S v := fun a b ha hb => by rw [e a b ha hb]; exact h a b ha hb
theorem rH_set {S : fS} {w : Mx} {a b x : Nat} (hw : rH S w) : rH (pL S 161 (10 * a + b) (o6 x)) (fun c d => if c = a ∧ d = b then x else w c d) ∨ 10 ≤ b := by
  by_cases hb : b < 10
  · refine Or.inl fun c d hc hd => ?_
    rw [pL_get]
    by_cases h : c = a ∧ d = b
    · rw [if_pos ⟨rfl, by omega⟩]
      show _ = o6 (if c = a ∧ d = b then x else w c d)
      rw [if_pos h]
    · rw [if_neg (fun q => h ⟨by omega, by omega⟩)]
      show _ = o6 (if c = a ∧ d = b then x else w c d)
      rw [if_neg h]
      exact hw c d hc hd
  · exact Or.inr (by omega)
theorem rH_set' {S : fS} {w : Mx} {a b x : Nat} (hb : b < 10) (hw : rH S w) : rH (pL S 161 (10 * a + b) (o6 x)) (fun c d => if c = a ∧ d = b then x else w c d) := (rH_set hw).resolve_right (by omega)
theorem ix10 {a b : Nat} : ((10 : Int32) * o3 a + o3 b) = o3 (10 * a + b) := by
  rw [show (10 : Int32) = o3 10 from rfl, o3_mul, o3_add]
theorem sp_10 {K : fS → Option fS} {a : Nat} (ha : a < 10) : ∀ d b m (S : fS), b + d = 10 → d < m → (∀ c e, e < 10 → (c < a ∨ (c = a ∧ e < b)) → S.2 161 (10 * c + e) = o6 (wI c e)) → ∃ S', lp_X11_spreads_10 (o3 a) K m (o3 b) S = K S' ∧ (∀ c e, e < 10 → c < a + 1 → S'.2 161 (10 * c + e) = o6 (wI c e)) ∧ eL S S' := by
  intro d
  induction d with
  | zero =>
    intro b m S hb hm h
    obtain ⟨m, rfl⟩ : ∃ m', m = m' + 1 := ⟨m - 1, by omega⟩
    rw [lp_X11_spreads_10.eq_2, if_pos (show (10 : Int32) ≤ o3 _ from (o3_le (a := 10) (by omega) (by omega)).mpr (by omega))]
    exact ⟨S, rfl, fun c e he hc => h c e he (by omega), eL.rf⟩
  | succ d ih =>
    intro b m S hb hm h
    obtain ⟨m, rfl⟩ : ∃ m', m = m' + 1 := ⟨m - 1, by omega⟩
    rw [lp_X11_spreads_10.eq_2, if_neg (show ¬ (10 : Int32) ≤ o3 _ from fun q => by have := (o3_le (a := 10) (by omega) (by omega)).mp q; omega), ix10, o3_s]
    have go : ∀ x, x = wI a b → ∃ S', lp_X11_spreads_10 (o3 a) K m (o3 (b + 1)) (pL S 161 (10 * a + b) (o6 x)) = K S' ∧ (∀ c e, e < 10 → c < a + 1 → S'.2 161 (10 * c + e) = o6 (wI c e)) ∧ eL S S' := by
      intro x hx
      obtain ⟨S', e1, e2, e3⟩ := ih (b + 1) m (pL S 161 (10 * a + b) (o6 x)) (by omega) (by omega) (fun c e he hc => by
        by_cases hq : c = a ∧ e = b
        · rw [hq.1, hq.2, pL_eq, hx]
        · rw [pL_ne (by omega)]
          exact h c e he (by omega))
      exact ⟨S', e1, e2, eL_pL.tr e3⟩
    by_cases hab : a = b
    · rw [if_pos (by rw [hab]), show (0 : Int64) = o6 0 from rfl, sL_o (by omega) (by omega), bd_some]
      exact go 0 (by unfold wI; rw [if_pos hab])
    · rw [if_neg (fun q => hab ((o3_inj (by omega) (by omega)).mp q)), show (99999 : Int64) = o6 99999 from rfl, sL_o (by omega) (by omega), bd_some]
      exact go 99999 (by unfold wI; rw [if_neg hab])
theorem sp_2 {K : fS → Option fS} : ∀ d a m (S : fS), a + d = 10 → d < m → (∀ c e, e < 10 → c < a → S.2 161 (10 * c + e) = o6 (wI c e)) → ∃ S', lp_X11_spreads_2 K m (o3 a) S = K S' ∧ rH S' wI ∧ eL S S' := by
  intro d
  induction d with
  | zero =>
    intro a m S ha hm h
    obtain ⟨m, rfl⟩ : ∃ m', m = m' + 1 := ⟨m - 1, by omega⟩
    rw [lp_X11_spreads_2.eq_2, if_pos (show (10 : Int32) ≤ o3 _ from (o3_le (a := 10) (by omega) (by omega)).mpr (by omega))]
    exact ⟨S, rfl, fun c e hc he => h c e he (by omega), eL.rf⟩
  | succ d ih =>
    intro a m S ha hm h
    obtain ⟨m, rfl⟩ : ∃ m', m = m' + 1 := ⟨m - 1, by omega⟩
    rw [lp_X11_spreads_2.eq_2, if_neg (show ¬ (10 : Int32) ≤ o3 _ from fun q => by have := (o3_le (a := 10) (by omega) (by omega)).mp q; omega)]
    obtain ⟨S1, e1, e2, e3⟩ := sp_10 (K := fun S10 => lp_X11_spreads_2 K m (o3 a + (1 : Int32)) S10) (a := a) (by omega) 10 0 FU S (by omega) (FU_lt (by omega)) (fun c e he hc => h c e he (by omega))
    rw [show (0 : Int32) = o3 0 from rfl, e1, o3_s]
    obtain ⟨S2, g1, g2, g3⟩ := ih (a + 1) m S1 (by omega) (by omega) e2
    exact ⟨S2, g1, g2, e3.tr g3⟩
/-- floors and stairs as the reference holds them -/
def twM (I : Nat → Int32) (F : List (Nat × Nat)) (E : List (Nat × Nat × Nat × Nat × Nat)) : Prop := I 0 = o3 F.length ∧ I 1 = o3 E.length ∧ (∀ k, k < F.length → I (10 + 2 * k) = o3 (F.getD k (0, 0)).1 ∧ I (10 + 2 * k + 1) = o3 (F.getD k (0, 0)).2) ∧ (∀ k, k < E.length → I (30 + 5 * k) = o3 (E.getD k d5).1 ∧ I (30 + 5 * k + 1) = o3 (E.getD k d5).2.1 ∧ I (30 + 5 * k + 2) = o3 (E.getD k d5).2.2.1 ∧ I (30 + 5 * k + 3) = o3 (E.getD k d5).2.2.2.1 ∧ I (30 + 5 * k + 4) = o3 (E.getD k d5).2.2.2.2)
theorem m_stairOf {S : fS} {s k : Nat} (hs : s < 12) (hk : k < 5) : f_X11_stairOf (o3 s) (o3 k) S = some (S.1 157 (30 + 5 * s + k)) := by
  unfold f_X11_stairOf
  rw [show (30 : Int32) = o3 30 from rfl, show (5 : Int32) = o3 5 from rfl, o3_mul, o3_add, o3_add, gI_o (by omega) (by omega), bd_some]
def sy (w : Mx) : Prop := ∀ a b, w a b = w b a
theorem sy_I : sy wI := by
  intro a b
  unfold wI
  by_cases h : a = b
  · rw [if_pos h, if_pos h.symm]
  · rw [if_neg h, if_neg (fun q => h q.symm)]
theorem sy_1 {w : Mx} {q : Nat × Nat × Nat × Nat × Nat} (h : sy w) : sy (wS1 w q) := by
  intro a b
  have := h a b
  unfold wS1
  by_cases hc : (a = q.1 ∧ b = q.2.1) ∨ (a = q.2.1 ∧ b = q.1)
  · rw [if_pos hc, if_pos (by omega), this]
  · rw [if_neg hc, if_neg (by omega), this]
theorem sy_f : ∀ (E : List (Nat × Nat × Nat × Nat × Nat)) (w : Mx), sy w → sy (E.foldl wS1 w) := by
  intro E
  induction E with
  | nil => intro w h; exact h
  | cons q E ih => intro w h; exact ih _ (sy_1 h)
theorem sp_53 {K : fS → Option fS} {F : List (Nat × Nat)} {E : List (Nat × Nat × Nat × Nat × Nat)} (hE : ∀ q ∈ E, okS 10 q) (hl : E.length ≤ 12) : ∀ d k m (S : fS), k + d = E.length → d < m → twM (S.1 157) F E → rH S ((E.take k).foldl wS1 wI) → ∃ S', lp_X11_spreads_53 K m (o3 k) S = K S' ∧ rH S' (wSt E) ∧ eL S S' := by
  intro d
  induction d with
  | zero =>
    intro k m S hk hm ht hw
    obtain ⟨m, rfl⟩ : ∃ m', m = m' + 1 := ⟨m - 1, by omega⟩
    rw [lp_X11_spreads_53.eq_2, show (1 : Int32) = o3 1 from rfl, gI_o (by omega) (by omega), bd_some, ht.2.1, if_pos ((o3_le (by omega) (by omega)).mpr (by omega))]
    refine ⟨S, rfl, ?_, eL.rf⟩
    rw [show k = E.length by omega, List.take_length] at hw
    exact hw
  | succ d ih =>
    intro k m S hk hm ht hw
    obtain ⟨m, rfl⟩ : ∃ m', m = m' + 1 := ⟨m - 1, by omega⟩
    have hk2 : k < E.length := by omega
    obtain ⟨s1, s2, s3, s4, s5, -⟩ := hE _ (gd_mem (d := d5) hk2)
    have h9 : le9 ((E.take k).foldl wS1 wI) := fold_9 _ _ wI_9
    have hsy : sy ((E.take k).foldl wS1 wI) := sy_f _ _ sy_I
    obtain ⟨r1, r2, r3, -⟩ := ht.2.2.2 k hk2
    rw [lp_X11_spreads_53.eq_2, show (1 : Int32) = o3 1 from rfl, gI_o (by omega) (by omega), bd_some, ht.2.1, if_neg (fun q => by have := (o3_le (by omega) (by omega)).mp q; omega)]
    rw [show (0 : Int32) = o3 0 from rfl, show (2 : Int32) = o3 2 from rfl, m_stairOf (by omega) (by omega), bd_some, m_stairOf (by omega) (by omega), bd_some, m_stairOf (by omega) (by omega), bd_some, Nat.add_zero, r1, r2, r3, ix10, ix10, gL_o (by omega) (by omega), bd_some, hw _ _ s1 s2, o6_of3 (by omega), o3_add]
    have w9 := h9 (E.getD k d5).1 (E.getD k d5).2.1
    have wsy := hsy (E.getD k d5).1 (E.getD k d5).2.1
    have ihk : ∀ (T : fS), eL S T → rH T (wS1 ((E.take k).foldl wS1 wI) (E.getD k d5)) → ∃ S', lp_X11_spreads_53 K m (o3 (k + 1)) T = K S' ∧ rH S' (wSt E) ∧ eL S S' := by
      intro T hT hr
      obtain ⟨S', e1, e2, e3⟩ := ih (k + 1) m T (by omega) (by omega) (by rw [hT.1]; exact ht) (by rw [fl_take (d := d5) hk2]; exact hr)
      exact ⟨S', e1, e2, hT.tr e3⟩
    generalize hv : (E.take k).foldl wS1 wI = v at hw h9 hsy w9 wsy ihk
    by_cases hlt : (E.getD k d5).2.2.1 < v (E.getD k d5).1 (E.getD k d5).2.1
    · rw [if_pos ((o6_lt (by omega) (by omega)).mpr hlt), bd_some, sL_o (by omega) (by omega), bd_some, m_stairOf (by omega) (by omega), pL_1, r3, bd_some, o6_of3 (by omega), sL_o (by omega) (by omega), bd_some]
      refine ihk _ (eL_pL.tr eL_pL) (rH_cg (rH_set' s1 (rH_set' s2 hw)) (fun x y _ _ => ?_))
      unfold wS1
      by_cases c1 : x = (E.getD k d5).2.1 ∧ y = (E.getD k d5).1
      · rw [if_pos c1, if_pos (Or.inr c1), c1.1, c1.2]; omega
      · rw [if_neg c1]
        show _ = (if x = (E.getD k d5).1 ∧ y = (E.getD k d5).2.1 then _ else _)
        by_cases c2 : x = (E.getD k d5).1 ∧ y = (E.getD k d5).2.1
        · rw [if_pos c2, if_pos (Or.inl c2), c2.1, c2.2]; omega
        · rw [if_neg c2, if_neg (fun q => q.elim c2 c1)]
    · rw [if_neg (fun q => hlt ((o6_lt (by omega) (by omega)).mp q))]
      refine ihk _ eL.rf (rH_cg hw (fun x y _ _ => ?_))
      unfold wS1
      by_cases c1 : (x = (E.getD k d5).1 ∧ y = (E.getD k d5).2.1) ∨ (x = (E.getD k d5).2.1 ∧ y = (E.getD k d5).1)
      · rw [if_pos c1]
        rcases c1 with c1 | c1
        · rw [c1.1, c1.2]; omega
        · rw [c1.1, c1.2]; omega
      · rw [if_neg c1]
end
section
theorem sp_162 {K : fS → Option fS} {w : Mx} {p a : Nat} (hz : z0 w) (h9 : le9 w) (hp : p < 10) (ha : a < 10) : ∀ d b m (S : fS), b + d = 10 → d < m → rH S (mid w p a b) → ∃ S', lp_X11_spreads_162 (o3 p) (o3 a) K m (o3 b) S = K S' ∧ rH S' (mid w p a 10) ∧ eL S S' := by
  intro d
  induction d with
  | zero =>
    intro b m S hb hm hw
    obtain ⟨m, rfl⟩ : ∃ m', m = m' + 1 := ⟨m - 1, by omega⟩
    rw [lp_X11_spreads_162.eq_2, if_pos (show (10 : Int32) ≤ o3 _ from (o3_le (a := 10) (by omega) (by omega)).mpr (by omega))]
    rw [show b = 10 by omega] at hw
    exact ⟨S, rfl, hw, eL.rf⟩
  | succ d ih =>
    intro b m S hb hm hw
    obtain ⟨m, rfl⟩ : ∃ m', m = m' + 1 := ⟨m - 1, by omega⟩
    have w9 := h9 a b
    have z1 := h9 a p
    have z2 := h9 p b
    have hmid : mid w p a b a b = w a b := by unfold mid; rw [if_neg (by omega)]
    rw [lp_X11_spreads_162.eq_2, if_neg (show ¬ (10 : Int32) ≤ o3 _ from fun q => by have := (o3_le (a := 10) (by omega) (by omega)).mp q; omega)]
    rw [ix10, ix10, ix10, gL_o (by omega) (by omega), bd_some, gL_o (by omega) (by omega), bd_some, gL_o (by omega) (by omega), bd_some, hw a p ha hp, hw p b hp (by omega), hw a b ha (by omega), mid_row hz, mid_col hz, hmid, o6_add, o3_s]
    by_cases hle : w a b ≤ w a p + w p b
    · rw [if_pos ((o6_le (by omega) (by omega)).mpr hle)]
      refine ih (b + 1) m S (by omega) (by omega) (rH_cg hw (fun x y _ _ => ?_))
      rw [mid_s]
      show (if x = a ∧ y = b then ph p w a b else mid w p a b x y) = _
      by_cases hc : x = a ∧ y = b
      · rw [if_pos hc, hc.1, hc.2, hmid]
        unfold ph
        omega
      · rw [if_neg hc]
    · rw [if_neg (fun q => hle ((o6_le (by omega) (by omega)).mp q)), bd_some, bd_some, o6_add, sL_o (by omega) (by omega), bd_some]
      obtain ⟨S', e1, e2, e3⟩ := ih (b + 1) m (pL S 161 (10 * a + b) (o6 (w a p + w p b))) (by omega) (by omega) (rH_cg (rH_set' (by omega) hw) (fun x y _ _ => by
        rw [mid_s]
        show (if x = a ∧ y = b then ph p w a b else mid w p a b x y) = (if x = a ∧ y = b then w a p + w p b else mid w p a b x y)
        by_cases hc : x = a ∧ y = b
        · rw [if_pos hc, if_pos hc]
          unfold ph
          omega
        · rw [if_neg hc, if_neg hc]))
      exact ⟨S', e1, e2, eL_pL.tr e3⟩
theorem sp_154 {K : fS → Option fS} {w : Mx} {p : Nat} (hz : z0 w) (h9 : le9 w) (hp : p < 10) : ∀ d a m (S : fS), a + d = 10 → d < m → rH S (mid w p a 0) → ∃ S', lp_X11_spreads_154 (o3 p) K m (o3 a) S = K S' ∧ rH S' (ph p w) ∧ eL S S' := by
  intro d
  induction d with
  | zero =>
    intro a m S ha hm hw
    obtain ⟨m, rfl⟩ : ∃ m', m = m' + 1 := ⟨m - 1, by omega⟩
    rw [lp_X11_spreads_154.eq_2, if_pos (show (10 : Int32) ≤ o3 _ from (o3_le (a := 10) (by omega) (by omega)).mpr (by omega))]
    refine ⟨S, rfl, rH_cg hw (fun x y hx _ => ?_), eL.rf⟩
    unfold mid
    rw [if_pos (by omega)]
  | succ d ih =>
    intro a m S ha hm hw
    obtain ⟨m, rfl⟩ : ∃ m', m = m' + 1 := ⟨m - 1, by omega⟩
    rw [lp_X11_spreads_154.eq_2, if_neg (show ¬ (10 : Int32) ≤ o3 _ from fun q => by have := (o3_le (a := 10) (by omega) (by omega)).mp q; omega)]
    obtain ⟨S1, g1, g2, g3⟩ := sp_162 (K := fun S67 => lp_X11_spreads_154 (o3 p) K m (o3 a + (1 : Int32)) S67) hz h9 hp (a := a) (by omega) 10 0 FU S (by omega) (FU_lt (by omega)) hw
    rw [show (0 : Int32) = o3 0 from rfl, g1, o3_s]
    obtain ⟨S2, k1, k2, k3⟩ := ih (a + 1) m S1 (by omega) (by omega) (rH_cg g2 (fun x y hx hy => by
      unfold mid
      by_cases hc : x < a ∨ (x = a ∧ y < 10)
      · rw [if_pos hc, if_pos (by omega)]
      · rw [if_neg hc, if_neg (by omega)]))
    exact ⟨S2, k1, k2, g3.tr k3⟩
theorem sp_146 {K : fS → Option fS} {w0 : Mx} (hz : z0 w0) (h9 : le9 w0) : ∀ d p m (S : fS), p + d = 10 → d < m → rH S (phs w0 p) → ∃ S', lp_X11_spreads_146 K m (o3 p) S = K S' ∧ rH S' (phs w0 10) ∧ eL S S' := by
  intro d
  induction d with
  | zero =>
    intro p m S hp hm hw
    obtain ⟨m, rfl⟩ : ∃ m', m = m' + 1 := ⟨m - 1, by omega⟩
    rw [lp_X11_spreads_146.eq_2, if_pos (show (10 : Int32) ≤ o3 _ from (o3_le (a := 10) (by omega) (by omega)).mpr (by omega))]
    rw [show p = 10 by omega] at hw
    exact ⟨S, rfl, hw, eL.rf⟩
  | succ d ih =>
    intro p m S hp hm hw
    obtain ⟨m, rfl⟩ : ∃ m', m = m' + 1 := ⟨m - 1, by omega⟩
    rw [lp_X11_spreads_146.eq_2, if_neg (show ¬ (10 : Int32) ≤ o3 _ from fun q => by have := (o3_le (a := 10) (by omega) (by omega)).mp q; omega)]
    obtain ⟨S1, g1, g2, g3⟩ := sp_154 (K := fun S69 => lp_X11_spreads_146 K m (o3 p + (1 : Int32)) S69) (phs_z hz p) (phs_9 h9 p) (p := p) (by omega) 10 0 FU S (by omega) (FU_lt (by omega)) (rH_cg hw (fun x y _ _ => by
      unfold mid
      rw [if_neg (by omega)]))
    rw [show (0 : Int32) = o3 0 from rfl, g1, o3_s]
    obtain ⟨S2, k1, k2, k3⟩ := ih (p + 1) m S1 (by omega) (by omega) g2
    exact ⟨S2, k1, k2, g3.tr k3⟩
theorem m_spreads {S : fS} {F : List (Nat × Nat)} {E : List (Nat × Nat × Nat × Nat × Nat)} (ht : twM (S.1 157) F E) (hF : F.length ≤ 10) (hE : E.length ≤ 12) (hq : ∀ q ∈ E, okS F.length q) : ∃ Y, f_X11_spreads S = some Y ∧ rH Y (dst E) ∧ eL S Y := by
  unfold f_X11_spreads
  obtain ⟨S1, a1, a2, a3⟩ := sp_2 (K := fun S12 => lp_X11_spreads_53 (fun S43 => lp_X11_spreads_146 (fun S71 => some S71) FU (0 : Int32) S43) FU (0 : Int32) S12) 10 0 FU S (by omega) (FU_lt (by omega)) (fun c e _ hc => absurd hc (Nat.not_lt_zero _))
  obtain ⟨S2, b1, b2, b3⟩ := sp_53 (F := F) (K := fun S43 => lp_X11_spreads_146 (fun S71 => some S71) FU (0 : Int32) S43) (fun q h => okS_mo hF (hq q h)) hE E.length 0 FU S1 (by omega) (FU_lt (by omega)) (by rw [a3.1]; exact ht) (by rw [List.take_zero]; exact a2)
  obtain ⟨S3, c1, c2, c3⟩ := sp_146 (K := fun S71 => some S71) (fold_z E wI wI_z) (fold_9 E wI wI_9) 10 0 FU S2 (by omega) (FU_lt (by omega)) b2
  refine ⟨S3, ?_, c2, a3.tr (b3.tr c3)⟩
  rw [show (0 : Int32) = o3 0 from rfl] at a1 b1 ⊢
  rw [a1, b1, c1]
end
section
/-! the reference takes the tower that it read -/
theorem TBm_r {S T : fS} {B : TB} (h : ∀ a k, a ≠ 157 → T.1 a k = S.1 a k) (hB : TBm S B) : TBm T B := TBm_cg (fun k _ => h 145 k (by omega)) (fun a k _ => h a k (by omega)) hB
/-- row 157 alone, from place lo on below hi -/
def e157 (lo hi : Nat) (S T : fS) : Prop := (∀ a k, ¬ (a = 157 ∧ lo ≤ k ∧ k < hi) → T.1 a k = S.1 a k) ∧ T.2 = S.2
theorem e157.rf {lo hi : Nat} {S : fS} : e157 lo hi S S := ⟨fun _ _ _ => rfl, rfl⟩
theorem e157.tr {lo hi : Nat} {S T U : fS} (h : e157 lo hi S T) (g : e157 lo hi T U) : e157 lo hi S U := ⟨fun a k n => (g.1 a k n).trans (h.1 a k n), g.2.trans h.2⟩
theorem e157_pI {lo hi k : Nat} {S : fS} {x : Int32} (h1 : lo ≤ k) (h2 : k < hi) : e157 lo hi S (pI S 157 k x) := ⟨fun a j n => pI_ne (by omega), rfl⟩
theorem mt_82 {K : fS → Option (Int32 × fS)} {nf : Nat} (hnf : nf ≤ 10) : ∀ d k m (S : fS), k + d = 2 * nf → d < m → S.1 145 7 = o3 nf → (∀ j, j < k → S.1 157 (10 + j) = S.1 151 j) → ∃ S', lp_X11_tower_82 K m (o3 k) S = K S' ∧ (∀ j, j < 2 * nf → S'.1 157 (10 + j) = S.1 151 j) ∧ e157 10 30 S S' := by
  intro d
  induction d with
  | zero =>
    intro k m S hk hm h7 h
    obtain ⟨m, rfl⟩ : ∃ m', m = m' + 1 := ⟨m - 1, by omega⟩
    rw [lp_X11_tower_82.eq_2, h7, show (2 : Int32) = o3 2 from rfl, o3_mul, if_pos ((o3_le (by omega) (by omega)).mpr (by omega))]
    exact ⟨S, rfl, fun j hj => h j (by omega), e157.rf⟩
  | succ d ih =>
    intro k m S hk hm h7 h
    obtain ⟨m, rfl⟩ : ∃ m', m = m' + 1 := ⟨m - 1, by omega⟩
    rw [lp_X11_tower_82.eq_2, h7, show (2 : Int32) = o3 2 from rfl, o3_mul, if_neg (fun q => by have := (o3_le (by omega) (by omega)).mp q; omega), gI_o (by omega) (by omega), bd_some, show (10 : Int32) = o3 10 from rfl, o3_add, sI_o (by omega) (by omega), bd_some, o3_s]
    have hE : e157 10 30 S (pI S 157 (10 + k) (S.1 151 k)) := e157_pI (by omega) (by omega)
    obtain ⟨S', e1, e2, e3⟩ := ih (k + 1) m (pI S 157 (10 + k) (S.1 151 k)) (by omega) (by omega) (by rw [pI_ne (by omega)]; exact h7) (fun j hj => by
      rw [pI_ne (a := 157) (b := 151) (by omega)]
      by_cases hc : j = k
      · rw [hc, pI_eq]
      · rw [pI_ne (by omega)]; exact h j (by omega))
    exact ⟨S', e1, fun j hj => by rw [e2 j hj, pI_ne (by omega)], hE.tr e3⟩
theorem mt_115 {K : fS → Option (Int32 × fS)} {ns : Nat} (hns : ns ≤ 12) : ∀ d k m (S : fS), k + d = 5 * ns → d < m → S.1 145 8 = o3 ns → (∀ j, j < k → S.1 157 (30 + j) = S.1 152 j) → ∃ S', lp_X11_tower_115 K m (o3 k) S = K S' ∧ (∀ j, j < 5 * ns → S'.1 157 (30 + j) = S.1 152 j) ∧ e157 30 90 S S' := by
  intro d
  induction d with
  | zero =>
    intro k m S hk hm h7 h
    obtain ⟨m, rfl⟩ : ∃ m', m = m' + 1 := ⟨m - 1, by omega⟩
    rw [lp_X11_tower_115.eq_2, h7, show (5 : Int32) = o3 5 from rfl, o3_mul, if_pos ((o3_le (by omega) (by omega)).mpr (by omega))]
    exact ⟨S, rfl, fun j hj => h j (by omega), e157.rf⟩
  | succ d ih =>
    intro k m S hk hm h7 h
    obtain ⟨m, rfl⟩ : ∃ m', m = m' + 1 := ⟨m - 1, by omega⟩
    rw [lp_X11_tower_115.eq_2, h7, show (5 : Int32) = o3 5 from rfl, o3_mul, if_neg (fun q => by have := (o3_le (by omega) (by omega)).mp q; omega), gI_o (by omega) (by omega), bd_some, show (30 : Int32) = o3 30 from rfl, o3_add, sI_o (by omega) (by omega), bd_some, o3_s]
    have hE : e157 30 90 S (pI S 157 (30 + k) (S.1 152 k)) := e157_pI (by omega) (by omega)
    obtain ⟨S', e1, e2, e3⟩ := ih (k + 1) m (pI S 157 (30 + k) (S.1 152 k)) (by omega) (by omega) (by rw [pI_ne (by omega)]; exact h7) (fun j hj => by
      rw [pI_ne (a := 157) (b := 152) (by omega)]
      by_cases hc : j = k
      · rw [hc, pI_eq]
      · rw [pI_ne (by omega)]; exact h j (by omega))
    exact ⟨S', e1, fun j hj => by rw [e2 j hj, pI_ne (by omega)], hE.tr e3⟩
/-- a thing that stands -/
def st4 (S : fS) (t : Nat) (f : Int32) : fS := pI (pI (pI (pI S 157 (90 + 4 * t) f) 157 (90 + 4 * t + 1) (-1)) 157 (90 + 4 * t + 2) 0) 157 (90 + 4 * t + 3) (-1)
theorem m_stands {S : fS} {t : Nat} {f : Int32} (ht : t < 8) : f_X11_stands (o3 t) f S = some (st4 S t f) := by
  unfold f_X11_stands st4
  rw [show (90 : Int32) = o3 90 from rfl, show (4 : Int32) = o3 4 from rfl, show (1 : Int32) = o3 1 from rfl, show (2 : Int32) = o3 2 from rfl, show (3 : Int32) = o3 3 from rfl, o3_mul, o3_add, o3_add, o3_add, o3_add, sI_o (by omega) (by omega), bd_some, sI_o (by omega) (by omega), bd_some, sI_o (by omega) (by omega), bd_some, sI_o (by omega) (by omega), bd_some]
theorem st4_ne {S : fS} {t a k : Nat} {f : Int32} (h : ¬ (a = 157 ∧ 90 + 4 * t ≤ k ∧ k < 90 + 4 * t + 4)) : (st4 S t f).1 a k = S.1 a k := by
  unfold st4
  rw [pI_ne (by omega), pI_ne (by omega), pI_ne (by omega), pI_ne (by omega)]
theorem st4_eq {S : fS} {t : Nat} {f : Int32} : (st4 S t f).1 157 (90 + 4 * t) = f ∧ (st4 S t f).1 157 (90 + 4 * t + 1) = -1 ∧ (st4 S t f).1 157 (90 + 4 * t + 2) = 0 ∧ (st4 S t f).1 157 (90 + 4 * t + 3) = -1 := by
  unfold st4
  refine ⟨?_, ?_, ?_, ?_⟩
  · rw [pI_ne (by omega), pI_ne (by omega), pI_ne (by omega), pI_eq]
  · rw [pI_ne (by omega), pI_ne (by omega), pI_eq]
  · rw [pI_ne (by omega), pI_eq]
  · rw [pI_eq]
theorem st4_2 {S : fS} {t : Nat} {f : Int32} : (st4 S t f).2 = S.2 := rfl
theorem mt_148 {K : fS → Option (Int32 × fS)} {nt : Nat} (hnt : nt ≤ 8) : ∀ d k m (S : fS), k + d = nt → d < m → S.1 145 9 = o3 nt → (∀ j, j < k → S.1 157 (90 + 4 * j) = S.1 153 j ∧ S.1 157 (90 + 4 * j + 1) = -1 ∧ S.1 157 (90 + 4 * j + 2) = 0 ∧ S.1 157 (90 + 4 * j + 3) = -1 ∧ S.2 158 j = 0) → ∃ S', lp_X11_tower_148 K m (o3 k) S = K S' ∧ (∀ j, j < nt → S'.1 157 (90 + 4 * j) = S.1 153 j ∧ S'.1 157 (90 + 4 * j + 1) = -1 ∧ S'.1 157 (90 + 4 * j + 2) = 0 ∧ S'.1 157 (90 + 4 * j + 3) = -1 ∧ S'.2 158 j = 0) ∧ (∀ a k, ¬ (a = 157 ∧ 90 ≤ k ∧ k < 122) → S'.1 a k = S.1 a k) ∧ (∀ a k, ¬ a = 158 → S'.2 a k = S.2 a k) := by
  intro d
  induction d with
  | zero =>
    intro k m S hk hm h7 h
    obtain ⟨m, rfl⟩ : ∃ m', m = m' + 1 := ⟨m - 1, by omega⟩
    rw [lp_X11_tower_148.eq_2, h7, if_pos ((o3_le (by omega) (by omega)).mpr (by omega))]
    exact ⟨S, rfl, fun j hj => h j (by omega), fun _ _ _ => rfl, fun _ _ _ => rfl⟩
  | succ d ih =>
    intro k m S hk hm h7 h
    obtain ⟨m, rfl⟩ : ∃ m', m = m' + 1 := ⟨m - 1, by omega⟩
    rw [lp_X11_tower_148.eq_2, h7, if_neg (fun q => by have := (o3_le (by omega) (by omega)).mp q; omega), gI_o (by omega) (by omega), bd_some, m_stands (by omega), bd_some, sL_o (by omega) (by omega), bd_some, o3_s]
    obtain ⟨S', e1, e2, e3, e4⟩ := ih (k + 1) m (pL (st4 S k (S.1 153 k)) 158 k 0) (by omega) (by omega) (by rw [pL_1, st4_ne (by omega)]; exact h7) (fun j hj => by
      rw [pL_1, st4_ne (a := 153) (by omega)]
      by_cases hc : j = k
      · subst hc
        have q := st4_eq (S := S) (t := j) (f := S.1 153 j)
        exact ⟨q.1, q.2.1, q.2.2.1, q.2.2.2, pL_eq⟩
      · rw [st4_ne (by omega), st4_ne (by omega), st4_ne (by omega), st4_ne (by omega), pL_ne (by omega), st4_2]
        exact h j (by omega))
    refine ⟨S', e1, fun j hj => ?_, fun a j hn => ?_, fun a j hn => ?_⟩
    · have q := e2 j hj
      rw [pL_1, st4_ne (a := 153) (by omega)] at q
      exact q
    · rw [e3 a j hn, pL_1, st4_ne (by omega)]
    · rw [e4 a j hn, pL_ne (by omega), st4_2]
/-- the crowd at its beginning, as the reference holds it -/
def cwM0 (I : Nat → Int32) (A : Nat → Int64) (H : List Nat) : Prop := I 2 = o3 H.length ∧ I 3 = 0 ∧ ∀ k, k < H.length → I (90 + 4 * k) = o3 (H.getD k 0) ∧ I (90 + 4 * k + 1) = -1 ∧ I (90 + 4 * k + 2) = 0 ∧ I (90 + 4 * k + 3) = -1 ∧ A k = 0
/-- places of the reference that tower() may write -/
def wT (a k : Nat) : Prop := wR a k ∨ (a = 145 ∧ k = 16) ∨ (a = 157 ∧ (k < 5 ∨ (10 ≤ k ∧ k < 122)))
theorem tall_ok {t : Nat → Int32} {n : Nat} : ∀ f c i B, okB B → (tall t n f c i B).1 = 0 → okB (tall t n f c i B).2 := by
  intro f
  induction f with
  | zero => intro c i B _ h; exact absurd h (by show ¬ (1 = 0); omega)
  | succ f ih =>
    intro c i B hok h
    rw [tall_tl] at h ⊢
    by_cases hz : (tcl t n c B i).1 = 0
    · rw [if_pos hz] at h ⊢
      unfold tl at h ⊢
      by_cases h1 : sk t n (tcl t n c B i).2.1 < n
      · rw [if_pos h1] at h ⊢
        by_cases h2 : t (sk t n (tcl t n c B i).2.1) = 59
        · rw [if_pos h2] at h ⊢
          exact ih _ _ _ (tcl_ok hok hz).1 h
        · rw [if_neg h2] at h
          exact absurd h (by show ¬ (1 + 8 * _ = 0); omega)
      · rw [if_neg h1]
        exact (tcl_ok hok hz).1
    · rw [if_neg hz] at h; exact absurd h hz
theorem tw0_ok {t : Nat → Int32} {n : Nat} (h : (tw0 t n).1 = 0) : okB (tw0 t n).2 := tall_ok 25 0 0 _ ⟨by decide, by decide, by decide, fun q hq => absurd hq List.not_mem_nil, fun q hq => absurd hq List.not_mem_nil, fun q hq => absurd hq List.not_mem_nil⟩ h
/-- the counts -/
def ct5 (S : fS) (a b c : Int32) : fS := pI (pI (pI (pI (pI S 157 0 a) 157 1 b) 157 2 c) 157 3 0) 157 4 0
theorem ct5_ne {S : fS} {a b c : Int32} {x k : Nat} (h : ¬ (x = 157 ∧ k < 5)) : (ct5 S a b c).1 x k = S.1 x k := by
  unfold ct5
  rw [pI_ne (by omega), pI_ne (by omega), pI_ne (by omega), pI_ne (by omega), pI_ne (by omega)]
theorem ct5_eq {S : fS} {a b c : Int32} : (ct5 S a b c).1 157 0 = a ∧ (ct5 S a b c).1 157 1 = b ∧ (ct5 S a b c).1 157 2 = c ∧ (ct5 S a b c).1 157 3 = 0 ∧ (ct5 S a b c).1 157 4 = 0 := by
  unfold ct5
  refine ⟨?_, ?_, ?_, ?_, ?_⟩
  · rw [pI_ne (by omega), pI_ne (by omega), pI_ne (by omega), pI_ne (by omega), pI_eq]
  · rw [pI_ne (by omega), pI_ne (by omega), pI_ne (by omega), pI_eq]
  · rw [pI_ne (by omega), pI_ne (by omega), pI_eq]
  · rw [pI_ne (by omega), pI_eq]
  · rw [pI_eq]
theorem m_tower {S : fS} {n : Nat} (hn : S.1 145 1 = o3 n) (hl : n ≤ 400) (hb : ∀ k, byt (S.1 146 k)) : ∃ Y, f_X11_tower S = some (if (tw0 (S.1 146) n).1 = 0 then o3 (tw0 (S.1 146) n).2.1.length else -2 - o3 (tw0 (S.1 146) n).1, Y) ∧ Y.1 145 1 = 0 ∧ (∀ a k, ¬ wT a k → Y.1 a k = S.1 a k) ∧ (∀ a k, a ≠ 158 → a ≠ 161 → Y.2 a k = S.2 a k) ∧ (¬ (tw0 (S.1 146) n).1 = 0 → (∀ k, Y.1 157 k = S.1 157 k) ∧ Y.2 = S.2) ∧ ((tw0 (S.1 146) n).1 = 0 → twM (Y.1 157) (tw0 (S.1 146) n).2.1 (tw0 (S.1 146) n).2.2.1 ∧ cwM0 (Y.1 157) (Y.2 158) (tw0 (S.1 146) n).2.2.2 ∧ Y.1 157 4 = 0 ∧ rH Y (dst (tw0 (S.1 146) n).2.2.1)) := by
  unfold f_X11_tower
  rw [bd_some, bd_some, bd_some, bd_some]
  generalize hX : pI (pI (pI (pI S 145 16 6) 145 7 0) 145 8 0) 145 9 0 = X
  have xe : ∀ a k, ¬ (a = 145 ∧ (k = 16 ∨ k = 7 ∨ k = 8 ∨ k = 9)) → X.1 a k = S.1 a k := fun a k h => by rw [← hX, pI_ne (by omega), pI_ne (by omega), pI_ne (by omega), pI_ne (by omega)]
  have x2 : X.2 = S.2 := by rw [← hX]; rfl
  have xt : X.1 146 = S.1 146 := funext fun k => xe 146 k (by omega)
  obtain ⟨Y1, e1, y1, y2, y3, y4⟩ := m_reads (S := X) (n := n) (by rw [xe 145 1 (by omega)]; exact hn) hl (by rw [xt]; exact hb) (by rw [← hX, pI_ne (by omega), pI_ne (by omega), pI_ne (by omega), pI_eq]) (by rw [← hX, pI_ne (by omega), pI_ne (by omega), pI_eq]) (by rw [← hX, pI_ne (by omega), pI_eq]) (by rw [← hX, pI_eq])
  rw [xt] at e1 y2 y3
  rw [e1, bd_some]
  dsimp only
  have fr1 : ∀ a k, ¬ wT a k → Y1.1 a k = S.1 a k := fun a k h => by
    rw [y4.1 a k (fun q => h (Or.inl q)), xe a k (fun q => h (by unfold wT wR; omega))]
  have y157 : ∀ k, Y1.1 157 k = S.1 157 k := fun k => by rw [y4.1 157 k (by unfold wR; omega), xe 157 k (by omega)]
  have yL : Y1.2 = S.2 := y4.2.trans x2
  by_cases hz : (tw0 (S.1 146) n).1 = 0
  · have hok := tw0_ok hz
    have hB := y2 hz
    rw [if_pos hz, if_pos hz, if_neg (show ¬ (1 : Int32) = 0 by decide)]
    generalize hR : tw0 (S.1 146) n = R at hz hok hB
    obtain ⟨o1, o2, o3', -, o5, -⟩ := hok
    rw [show (0 : Int32) = o3 0 from rfl, show (1 : Int32) = o3 1 from rfl, show (2 : Int32) = o3 2 from rfl, show (3 : Int32) = o3 3 from rfl, show (4 : Int32) = o3 4 from rfl]
    rw [sI_o (by omega) (by omega), bd_some, sI_o (by omega) (by omega), bd_some, sI_o (by omega) (by omega), bd_some, sI_o (by omega) (by omega), bd_some, sI_o (by omega) (by omega), bd_some]
    rw [pI_ne (a := 157) (b := 145) (by omega), pI_ne (a := 157) (b := 145) (by omega), pI_ne (a := 157) (b := 145) (by omega), hB.1, hB.2.1, hB.2.2.1]
    have hC : pI (pI (pI (pI (pI Y1 157 0 (o3 R.2.1.length)) 157 1 (o3 R.2.2.1.length)) 157 2 (o3 R.2.2.2.length)) 157 3 (o3 0)) 157 4 (o3 0) = ct5 Y1 (o3 R.2.1.length) (o3 R.2.2.1.length) (o3 R.2.2.2.length) := rfl
    rw [hC]
    have c5 := ct5_eq (S := Y1) (a := o3 R.2.1.length) (b := o3 R.2.2.1.length) (c := o3 R.2.2.2.length)
    have c5n := fun (x k : Nat) (h : ¬ (x = 157 ∧ k < 5)) => ct5_ne (S := Y1) (a := o3 R.2.1.length) (b := o3 R.2.2.1.length) (c := o3 R.2.2.2.length) h
    have c52 : (ct5 Y1 (o3 R.2.1.length) (o3 R.2.2.1.length) (o3 R.2.2.2.length)).2 = Y1.2 := rfl
    generalize ct5 Y1 (o3 R.2.1.length) (o3 R.2.2.1.length) (o3 R.2.2.2.length) = C at c5 c5n c52
    obtain ⟨S1, a1, a2, a3⟩ := mt_82 (K := fun S39 => lp_X11_tower_115 (fun S48 => lp_X11_tower_148 (fun S60 => (f_X11_spreads S60).bind fun q62 => some ((q62.1 145 7), q62)) FU (o3 0) S48) FU (o3 0) S39) o1 (2 * R.2.1.length) 0 FU C (by omega) (FU_lt (by omega)) (by rw [c5n 145 7 (by omega)]; exact hB.1) (fun j hj => absurd hj (Nat.not_lt_zero _))
    rw [a1]
    have s1n := fun (x k : Nat) (h : ¬ (x = 157 ∧ k < 30)) => (a3.1 x k (by omega)).trans (c5n x k (by omega))
    obtain ⟨S2, b1, b2, b3⟩ := mt_115 (K := fun S48 => lp_X11_tower_148 (fun S60 => (f_X11_spreads S60).bind fun q62 => some ((q62.1 145 7), q62)) FU (o3 0) S48) o2 (5 * R.2.2.1.length) 0 FU S1 (by omega) (FU_lt (by omega)) (by rw [s1n 145 8 (by omega)]; exact hB.2.1) (fun j hj => absurd hj (Nat.not_lt_zero _))
    rw [b1]
    have s2n := fun (x k : Nat) (h : ¬ (x = 157 ∧ k < 90)) => (b3.1 x k (by omega)).trans (s1n x k (by omega))
    obtain ⟨S3, d1, d2, d3, d4⟩ := mt_148 (K := fun S60 => (f_X11_spreads S60).bind fun q62 => some ((q62.1 145 7), q62)) o3' R.2.2.2.length 0 FU S2 (by omega) (FU_lt (by omega)) (by rw [s2n 145 9 (by omega)]; exact hB.2.2.1) (fun j hj => absurd hj (Nat.not_lt_zero _))
    rw [d1]
    have htw : twM (S3.1 157) R.2.1 R.2.2.1 := by
      refine ⟨?_, ?_, fun k hk => ⟨?_, ?_⟩, fun k hk => ⟨?_, ?_, ?_, ?_, ?_⟩⟩
      · rw [d3 157 0 (by omega), b3.1 157 0 (by omega), a3.1 157 0 (by omega)]; exact c5.1
      · rw [d3 157 1 (by omega), b3.1 157 1 (by omega), a3.1 157 1 (by omega)]; exact c5.2.1
      · rw [d3 157 _ (by omega), b3.1 157 _ (by omega), a2 (2 * k) (by omega), c5n 151 _ (by omega)]; exact (hB.2.2.2.1 k hk).1
      · rw [d3 157 _ (by omega), b3.1 157 _ (by omega), show 10 + 2 * k + 1 = 10 + (2 * k + 1) by omega, a2 (2 * k + 1) (by omega), c5n 151 _ (by omega)]; exact (hB.2.2.2.1 k hk).2
      · rw [d3 157 _ (by omega), b2 (5 * k) (by omega), s1n 152 _ (by omega)]; exact (hB.2.2.2.2.1 k hk).1
      · rw [d3 157 _ (by omega), show 30 + 5 * k + 1 = 30 + (5 * k + 1) by omega, b2 _ (by omega), s1n 152 _ (by omega)]; exact (hB.2.2.2.2.1 k hk).2.1
      · rw [d3 157 _ (by omega), show 30 + 5 * k + 2 = 30 + (5 * k + 2) by omega, b2 _ (by omega), s1n 152 _ (by omega)]; exact (hB.2.2.2.2.1 k hk).2.2.1
      · rw [d3 157 _ (by omega), show 30 + 5 * k + 3 = 30 + (5 * k + 3) by omega, b2 _ (by omega), s1n 152 _ (by omega)]; exact (hB.2.2.2.2.1 k hk).2.2.2.1
      · rw [d3 157 _ (by omega), show 30 + 5 * k + 4 = 30 + (5 * k + 4) by omega, b2 _ (by omega), s1n 152 _ (by omega)]; exact (hB.2.2.2.2.1 k hk).2.2.2.2
    obtain ⟨Z, z1, z2, z3⟩ := m_spreads htw o1 o2 o5
    rw [z1, bd_some]
    have zn := fun (x k : Nat) (h : ¬ (x = 157 ∧ k < 122)) => (congrFun (congrFun z3.1 x) k).trans ((d3 x k (by omega)).trans (s2n x k (by omega)))
    refine ⟨Z, ?_, ?_, fun a k h => ?_, fun a k h1 h2 => ?_, fun q => absurd hz q, fun _ => ⟨by rw [z3.1]; exact htw, ⟨?_, ?_, fun k hk => ?_⟩, ?_, z2⟩⟩
    · rw [zn 145 7 (by omega), hB.1]
    · rw [zn 145 1 (by omega)]; exact y1
    · by_cases ha : a = 157 ∧ k < 122
      · have hk : 5 ≤ k ∧ k < 10 := by
          unfold wT at h
          omega
        rw [z3.1, d3 a k (by omega), b3.1 a k (by omega), a3.1 a k (by omega), c5n a k (by omega)]
        exact fr1 a k h
      · rw [zn a k ha]; exact fr1 a k h
    · rw [z3.2 a k h2, d4 a k h1, b3.2, a3.2, c52, yL]
    · rw [z3.1, d3 157 2 (by omega), b3.1 157 2 (by omega), a3.1 157 2 (by omega)]; exact c5.2.2.1
    · rw [z3.1, d3 157 3 (by omega), b3.1 157 3 (by omega), a3.1 157 3 (by omega)]; exact c5.2.2.2.1
    · have q := d2 k hk
      rw [s2n 153 k (by omega), hB.2.2.2.2.2 k hk] at q
      rw [z3.1, z3.2 158 k (by omega)]
      exact q
    · rw [z3.1, d3 157 4 (by omega), b3.1 157 4 (by omega), a3.1 157 4 (by omega)]; exact c5.2.2.2.2
  · rw [if_neg hz, if_neg hz, if_pos (show (0 : Int32) = 0 from rfl), y3 hz]
    exact ⟨Y1, rfl, y1, fr1, fun a k _ _ => by rw [yL], fun _ => ⟨y157, yL⟩, fun q => absurd q hz⟩
end
section
/-! copies; what a scene is, and how each side holds it -/
theorem cI_get {S : fS} {a b n x k : Nat} : (cI S a b n).1 x k = if x = b ∧ k < n then S.1 a k else S.1 x k := by
  unfold cI mm_row va_cpy
  by_cases h : x = b
  · subst h
    dsimp only
    rw [if_pos rfl]
    by_cases hk : k < n
    · rw [if_pos (by omega), if_pos ⟨rfl, hk⟩, show 0 + (k - 0) = k by omega]
    · rw [if_neg (by omega), if_neg (fun q => hk q.2)]
  · dsimp only
    rw [if_neg h, if_neg (fun q => h q.1)]
theorem cL_get {S : fS} {a b n x k : Nat} : (cL S a b n).2 x k = if x = b ∧ k < n then S.2 a k else S.2 x k := by
  unfold cL mm_row va_cpy
  by_cases h : x = b
  · subst h
    dsimp only
    rw [if_pos rfl]
    by_cases hk : k < n
    · rw [if_pos (by omega), if_pos ⟨rfl, hk⟩, show 0 + (k - 0) = k by omega]
    · rw [if_neg (by omega), if_neg (fun q => hk q.2)]
  · dsimp only
    rw [if_neg h, if_neg (fun q => h q.1)]
theorem cI_ne {S : fS} {a b n x k : Nat} (h : x ≠ b) : (cI S a b n).1 x k = S.1 x k := by rw [cI_get, if_neg (fun q => h q.1)]
theorem cL_ne {S : fS} {a b n x k : Nat} (h : x ≠ b) : (cL S a b n).2 x k = S.2 x k := by rw [cL_get, if_neg (fun q => h q.1)]
theorem cI_eq {S : fS} {a b n k : Nat} (h : k < n) : (cI S a b n).1 b k = S.1 a k := by rw [cI_get, if_pos ⟨rfl, h⟩]
theorem cL_eq {S : fS} {a b n k : Nat} (h : k < n) : (cL S a b n).2 b k = S.2 a k := by rw [cL_get, if_pos ⟨rfl, h⟩]
theorem cI_2 {S : fS} {a b n : Nat} : (cI S a b n).2 = S.2 := rfl
theorem cL_1 {S : fS} {a b n : Nat} : (cL S a b n).1 = S.1 := rfl
theorem c_copyT {S : fS} {b c : Nat} (hd : b + 6 < c ∨ c + 6 < b) : ∃ Y, f_X8_copyFrom b c S = some Y ∧ Y.1 b 6 = S.1 c 6 ∧ Y.1 b 7 = S.1 c 7 ∧ (∀ k, k < 10 → Y.2 (b + 1) k = S.2 (c + 1) k) ∧ (∀ k, k < 12 → Y.1 (b + 2) k = S.1 (c + 2) k ∧ Y.1 (b + 3) k = S.1 (c + 3) k ∧ Y.1 (b + 4) k = S.1 (c + 4) k ∧ Y.2 (b + 5) k = S.2 (c + 5) k) ∧ (∀ k, k < 100 → Y.1 (b + 6) k = S.1 (c + 6) k) ∧ (∀ a k, ¬ (b ≤ a ∧ a ≤ b + 6) → Y.1 a k = S.1 a k ∧ Y.2 a k = S.2 a k) := by
  unfold f_X8_copyFrom
  simp only [bd_some]
  refine ⟨_, rfl, ?_, ?_, fun k hk => ?_, fun k hk => ⟨?_, ?_, ?_, ?_⟩, fun k hk => ?_, fun a k h => ⟨?_, ?_⟩⟩
  · rw [pI_ne (by omega), pI_eq, cI_ne (by omega), cL_1, cI_ne (by omega), cI_ne (by omega), cI_ne (by omega), cL_1]
  · rw [pI_eq, pI_ne (by omega), cI_ne (by omega), cL_1, cI_ne (by omega), cI_ne (by omega), cI_ne (by omega), cL_1]
  · rw [pI_2, pI_2, cI_2, cL_ne (by omega), cI_2, cI_2, cI_2, cL_eq hk]
  · rw [pI_ne (by omega), pI_ne (by omega), cI_ne (by omega), cL_1, cI_ne (by omega), cI_ne (by omega), cI_eq hk, cL_1]
  · rw [pI_ne (by omega), pI_ne (by omega), cI_ne (by omega), cL_1, cI_ne (by omega), cI_eq hk, cI_ne (by omega), cL_1]
  · rw [pI_ne (by omega), pI_ne (by omega), cI_ne (by omega), cL_1, cI_eq hk, cI_ne (by omega), cI_ne (by omega), cL_1]
  · rw [pI_2, pI_2, cI_2, cL_eq hk, cI_2, cI_2, cI_2, cL_ne (by omega)]
  · rw [pI_ne (by omega), pI_ne (by omega), cI_eq hk, cL_1, cI_ne (by omega), cI_ne (by omega), cI_ne (by omega), cL_1]
  · rw [pI_ne (by omega), pI_ne (by omega), cI_ne (by omega), cL_1, cI_ne (by omega), cI_ne (by omega), cI_ne (by omega), cL_1]
  · rw [pI_2, pI_2, cI_2, cL_ne (by omega), cI_2, cI_2, cI_2, cL_ne (by omega)]
theorem c_copyC {S : fS} {b c : Nat} (hd : b + 5 < c ∨ c + 5 < b) : ∃ Y, f_X0_copyFrom b c S = some Y ∧ Y.1 b 5 = S.1 c 5 ∧ Y.1 b 6 = S.1 c 6 ∧ (∀ k, k < 8 → Y.1 (b + 1) k = S.1 (c + 1) k ∧ Y.1 (b + 2) k = S.1 (c + 2) k ∧ Y.1 (b + 3) k = S.1 (c + 3) k ∧ Y.1 (b + 4) k = S.1 (c + 4) k ∧ Y.2 (b + 5) k = S.2 (c + 5) k) ∧ (∀ a k, ¬ (b ≤ a ∧ a ≤ b + 5) → Y.1 a k = S.1 a k ∧ Y.2 a k = S.2 a k) := by
  unfold f_X0_copyFrom
  simp only [bd_some]
  refine ⟨_, rfl, ?_, ?_, fun k hk => ⟨?_, ?_, ?_, ?_, ?_⟩, fun a k h => ⟨?_, ?_⟩⟩
  · rw [pI_ne (by omega), pI_eq, cL_1, cI_ne (by omega), cI_ne (by omega), cI_ne (by omega), cI_ne (by omega)]
  · rw [pI_eq, pI_ne (by omega), cL_1, cI_ne (by omega), cI_ne (by omega), cI_ne (by omega), cI_ne (by omega)]
  · rw [pI_ne (by omega), pI_ne (by omega), cL_1, cI_ne (by omega), cI_ne (by omega), cI_ne (by omega), cI_eq hk]
  · rw [pI_ne (by omega), pI_ne (by omega), cL_1, cI_ne (by omega), cI_ne (by omega), cI_eq hk, cI_ne (by omega)]
  · rw [pI_ne (by omega), pI_ne (by omega), cL_1, cI_ne (by omega), cI_eq hk, cI_ne (by omega), cI_ne (by omega)]
  · rw [pI_ne (by omega), pI_ne (by omega), cL_1, cI_eq hk, cI_ne (by omega), cI_ne (by omega), cI_ne (by omega)]
  · rw [pI_2, pI_2, cL_eq hk, cI_2, cI_2, cI_2, cI_2]
  · rw [pI_ne (by omega), pI_ne (by omega), cL_1, cI_ne (by omega), cI_ne (by omega), cI_ne (by omega), cI_ne (by omega)]
  · rw [pI_2, pI_2, cL_ne (by omega), cI_2, cI_2, cI_2, cI_2]
theorem c_copyP {S : fS} {b c : Nat} (hd : b + 4 < c ∨ c + 4 < b) : ∃ Y, f_X2_copyFrom b c S = some Y ∧ Y.1 b 4 = S.1 c 4 ∧ (∀ k, k < 12 → Y.1 (b + 1) k = S.1 (c + 1) k ∧ Y.1 (b + 2) k = S.1 (c + 2) k ∧ Y.1 (b + 3) k = S.1 (c + 3) k ∧ Y.1 (b + 4) k = S.1 (c + 4) k) ∧ (∀ a k, ¬ (b ≤ a ∧ a ≤ b + 4) → Y.1 a k = S.1 a k) ∧ Y.2 = S.2 := by
  unfold f_X2_copyFrom
  simp only [bd_some]
  refine ⟨_, rfl, ?_, fun k hk => ⟨?_, ?_, ?_, ?_⟩, fun a k h => ?_, rfl⟩
  · rw [pI_eq, cI_ne (by omega), cI_ne (by omega), cI_ne (by omega), cI_ne (by omega)]
  · rw [pI_ne (by omega), cI_ne (by omega), cI_ne (by omega), cI_ne (by omega), cI_eq hk]
  · rw [pI_ne (by omega), cI_ne (by omega), cI_ne (by omega), cI_eq hk, cI_ne (by omega)]
  · rw [pI_ne (by omega), cI_ne (by omega), cI_eq hk, cI_ne (by omega), cI_ne (by omega)]
  · rw [pI_ne (by omega), cI_eq hk, cI_ne (by omega), cI_ne (by omega), cI_ne (by omega)]
  · rw [pI_ne (by omega), cI_ne (by omega), cI_ne (by omega), cI_ne (by omega), cI_ne (by omega)]
/-! a crowd: how many, now, place, way, gone, goal, ages -/
abbrev Cw : Type := Nat × Nat × (Nat → Int32) × (Nat → Int32) × (Nat → Int32) × (Nat → Int32) × (Nat → Int64)
def cwC (S : fS) (c : Nat) (C : Cw) : Prop := S.1 c 5 = o3 C.1 ∧ S.1 c 6 = o3 C.2.1 ∧ ∀ k, k < C.1 → S.1 (c + 1) k = C.2.2.1 k ∧ S.1 (c + 2) k = C.2.2.2.1 k ∧ S.1 (c + 3) k = C.2.2.2.2.1 k ∧ S.1 (c + 4) k = C.2.2.2.2.2.1 k ∧ S.2 (c + 5) k = C.2.2.2.2.2.2 k
def cwM (I : Nat → Int32) (A : Nat → Int64) (C : Cw) : Prop := I 2 = o3 C.1 ∧ I 3 = o3 C.2.1 ∧ ∀ k, k < C.1 → I (90 + 4 * k) = C.2.2.1 k ∧ I (90 + 4 * k + 1) = C.2.2.2.1 k ∧ I (90 + 4 * k + 2) = C.2.2.2.2.1 k ∧ I (90 + 4 * k + 3) = C.2.2.2.2.2.1 k ∧ A k = C.2.2.2.2.2.2 k
def cw0 (H : List Nat) : Cw := (H.length, 0, fun k => o3 (H.getD k 0), fun _ => -1, fun _ => 0, fun _ => -1, fun _ => 0)
theorem cwC_0 {S : fS} {c : Nat} {H : List Nat} (h : cwC0 S c H) : cwC S c (cw0 H) := h
theorem cwM_0 {I : Nat → Int32} {A : Nat → Int64} {H : List Nat} (h : cwM0 I A H) : cwM I A (cw0 H) := h
/-- a thing stands on a floor, or is on a stair and goes to one of its ends -/
def okT (m : Nat) (E : List (Nat × Nat × Nat × Nat × Nat)) (p w g e : Int32) : Prop := (∃ f, f < m ∧ p = o3 f ∧ w = -1 ∧ g = 0 ∧ e = -1) ∨ (∃ s j f, s < E.length ∧ p = -1 ∧ w = o3 s ∧ g = o3 j ∧ j < (E.getD s d5).2.2.1 ∧ e = o3 f ∧ (f = (E.getD s d5).1 ∨ f = (E.getD s d5).2.1))
def okC (m : Nat) (E : List (Nat × Nat × Nat × Nat × Nat)) (C : Cw) : Prop := C.1 ≤ 8 ∧ C.2.1 ≤ 9999 ∧ ∀ k, k < C.1 → okT m E (C.2.2.1 k) (C.2.2.2.1 k) (C.2.2.2.2.1 k) (C.2.2.2.2.2.1 k) ∧ 0 ≤ (C.2.2.2.2.2.2 k).toInt ∧ (C.2.2.2.2.2.2 k).toInt ≤ 4655851200 * C.2.1
def okD (m : Nat) (E : List (Nat × Nat × Nat × Nat × Nat)) (C : Cw) : Prop := C.1 ≤ 8 ∧ C.2.1 ≤ 10199 ∧ ∀ k, k < C.1 → okT m E (C.2.2.1 k) (C.2.2.2.1 k) (C.2.2.2.2.1 k) (C.2.2.2.2.2.1 k) ∧ 0 ≤ (C.2.2.2.2.2.2 k).toInt ∧ (C.2.2.2.2.2.2 k).toInt ≤ 4655851200 * C.2.1
theorem okD_of {m : Nat} {E : List (Nat × Nat × Nat × Nat × Nat)} {C : Cw} (h : okC m E C) : okD m E C := ⟨h.1, by have := h.2.1; omega, h.2.2⟩
theorem okC_of {m : Nat} {E : List (Nat × Nat × Nat × Nat × Nat)} {C : Cw} (h : okD m E C) (h9 : C.2.1 ≤ 9999) : okC m E C := ⟨h.1, h9, h.2.2⟩
/-! letters: how many, from, to, sent -/
abbrev Po : Type := Nat × (Nat → Nat) × (Nat → Nat) × (Nat → Nat)
def poC (S : fS) (b : Nat) (D : Mx) (P : Po) : Prop := S.1 b 4 = o3 P.1 ∧ ∀ k, k < P.1 → S.1 (b + 1) k = o3 (P.2.1 k) ∧ S.1 (b + 2) k = o3 (P.2.2.1 k) ∧ S.1 (b + 3) k = o3 (P.2.2.2 k) ∧ S.1 (b + 4) k = o3 (P.2.2.2 k + D (P.2.1 k) (P.2.2.1 k))
def poM (I : Nat → Int32) (P : Po) : Prop := I 4 = o3 P.1 ∧ ∀ k, k < P.1 → I (122 + 3 * k) = o3 (P.2.1 k) ∧ I (122 + 3 * k + 1) = o3 (P.2.2.1 k) ∧ I (122 + 3 * k + 2) = o3 (P.2.2.2 k)
def okP (m : Nat) (D : Mx) (P : Po) : Prop := P.1 ≤ 12 ∧ ∀ k, k < P.1 → P.2.1 k < m ∧ P.2.2.1 k < m ∧ P.2.2.2 k ≤ 9999 ∧ D (P.2.1 k) (P.2.2.1 k) < 99999
/-! a scene -/
abbrev Sn : Type := List (Nat × Nat) × List (Nat × Nat × Nat × Nat × Nat) × Cw × Po
def rWm (S : fS) (r m : Nat) (w : Mx) : Prop := ∀ a b, a < m → b < m → S.1 r (10 * a + b) = cwv (w a b)
def rHm (S : fS) (m : Nat) (w : Mx) : Prop := ∀ a b, a < m → b < m → S.2 161 (10 * a + b) = o6 (w a b)
def scC (S : fS) (b : Nat) (s : Sn) : Prop := twC S (b + 1) s.1 s.2.1 ∧ rWm S (b + 7) s.1.length (dst s.2.1) ∧ cwC S (b + 8) s.2.2.1 ∧ poC S (b + 14) (dst s.2.1) s.2.2.2 ∧ 0 ≤ (S.1 b 3).toInt
def scM (I : Nat → Int32) (A : Nat → Int64) (s : Sn) : Prop := twM I s.1 s.2.1 ∧ cwM I A s.2.2.1 ∧ poM I s.2.2.2 ∧ 0 ≤ (I 5).toInt
def okN (s : Sn) : Prop := s.1.length ≤ 10 ∧ s.2.1.length ≤ 12 ∧ (∀ q ∈ s.1, okF q) ∧ (∀ q ∈ s.2.1, okS s.1.length q) ∧ okC s.1.length s.2.1 s.2.2.1 ∧ okP s.1.length (dst s.2.1) s.2.2.2
def sn0 (B : TB) : Sn := (B.1, B.2.1, cw0 B.2.2, (0, fun _ => 0, fun _ => 0, fun _ => 0))
theorem okN_0 {B : TB} (h : okB B) : okN (sn0 B) := by
  obtain ⟨b1, b2, b3, b4, b5, b6⟩ := h
  refine ⟨b1, b2, b4, b5, ⟨b3, Nat.zero_le _, fun k hk => ⟨Or.inl ⟨B.2.2.getD k 0, b6 _ (gd_mem hk), rfl, rfl, rfl, rfl⟩, ?_, ?_⟩⟩, ⟨Nat.zero_le _, fun k hk => absurd hk (Nat.not_lt_zero _)⟩⟩
  · show 0 ≤ (0 : Int64).toInt
    decide
  · show (0 : Int64).toInt ≤ 4655851200 * ((0 : Nat) : Int)
    decide
end
section
/-! the class takes the tower that it read -/
/-- rows that a fault of tower() may change: the tape's reader, the spare tower and crowd -/
def wF1 (a k : Nat) : Prop := (a = 1 ∧ 1 ≤ k ∧ k ≤ 4) ∨ (24 ≤ a ∧ a ≤ 36)
def wF2 (a k : Nat) : Prop := 24 ≤ a ∧ a ≤ 36
/-- and what a tower puts in place of the one there was -/
def wG1 (a k : Nat) : Prop := wF1 a k ∨ (4 ≤ a ∧ a ≤ 16) ∨ (a = 17 ∧ k = 4)
def wG2 (a k : Nat) : Prop := wF2 a k ∨ (4 ≤ a ∧ a ≤ 16)
theorem c_tower {S : fS} {n : Nat} (hn : S.1 1 1 = o3 n) (hl : n ≤ 400) : ∃ Y, f_X10_tower S = some (if (tw0 (S.1 2) n).1 = 0 then o3 (tw0 (S.1 2) n).2.1.length else -2 - o3 (tw0 (S.1 2) n).1, Y) ∧ Y.1 1 1 = 0 ∧ (∀ a k, ¬ wG1 a k → Y.1 a k = S.1 a k) ∧ (∀ a k, ¬ wG2 a k → Y.2 a k = S.2 a k) ∧ (¬ (tw0 (S.1 2) n).1 = 0 → (∀ a k, ¬ wF1 a k → Y.1 a k = S.1 a k) ∧ (∀ a k, ¬ wF2 a k → Y.2 a k = S.2 a k)) ∧ ((tw0 (S.1 2) n).1 = 0 → twC Y 4 (tw0 (S.1 2) n).2.1 (tw0 (S.1 2) n).2.2.1 ∧ rW Y 10 (dst (tw0 (S.1 2) n).2.2.1) ∧ cwC0 Y 11 (tw0 (S.1 2) n).2.2.2 ∧ Y.1 17 4 = 0) := by
  obtain ⟨Y1, e1, y1, y2⟩ := c_read hn hl
  have hF := fr_f_X9_read e1
  unfold f_X10_tower
  rw [e1, bd_some, bd_some]
  dsimp only
  have hF1 : ∀ a k, ¬ wF1 a k → (pI Y1 1 1 0).1 a k = S.1 a k := fun a k h => by
    have hk : ¬ (a = 1 ∧ k = 1) := fun q => h (Or.inl (by omega))
    rw [pI_ne hk]
    refine hF.1 a k (fun q => h ?_)
    unfold w1_f_X9_read at q
    unfold wF1
    rcases q with q | q | q | q | q | q | q | q | q | q | q | q | q | q | q <;> omega
  have hF2 : ∀ a k, ¬ wF2 a k → (pI Y1 1 1 0).2 a k = S.2 a k := fun a k h => by
    refine hF.2 a k (fun q => h ?_)
    unfold w2_f_X9_read at q
    unfold wF2
    omega
  by_cases hz : (tw0 (S.1 2) n).1 = 0
  · obtain ⟨hB, hok, hW⟩ := y1 hz
    rw [if_pos hz, if_pos hz, if_neg (show ¬ (1 : Int32) = 0 by decide)]
    generalize hR : tw0 (S.1 2) n = R at hz hB hok hW
    obtain ⟨o1, o2, o3', -, o5, -⟩ := hok
    generalize hX : pI Y1 1 1 0 = X at hF1 hF2
    have hX1 : X.1 1 1 = 0 := by rw [← hX, pI_eq]
    have xe : ∀ a k, a ≠ 1 → X.1 a k = Y1.1 a k := fun a k h => by rw [← hX, pI_ne (by omega)]
    have x2 : X.2 = Y1.2 := by rw [← hX]; rfl
    obtain ⟨T, t1, t2, t3, t4, t5, t6, t7⟩ := c_copyT (S := X) (b := 4) (c := 24) (by omega)
    obtain ⟨U, u1, u2, u3, u4, u5⟩ := c_copyC (S := T) (b := 11) (c := 31) (by omega)
    rw [t1, bd_some, u1, bd_some, bd_some]
    obtain ⟨⟨b1, b2, b3, b4⟩, b5, b6, b7⟩ := hB
    have tw : twC U 4 R.2.1 R.2.2.1 := by
      refine ⟨?_, ?_, fun k hk => ?_, fun k hk => ⟨?_, ?_, ?_, ?_⟩⟩
      · rw [(u5 4 6 (by omega)).1, t2, xe 24 6 (by omega)]; exact b1
      · rw [(u5 4 7 (by omega)).1, t3, xe 24 7 (by omega)]; exact b2
      · rw [(u5 (4 + 1) k (by omega)).2, t4 k (by omega), x2]; exact b3 k hk
      · rw [(u5 (4 + 2) k (by omega)).1, (t5 k (by omega)).1, xe (24 + 2) k (by omega)]; exact (b4 k hk).1
      · rw [(u5 (4 + 3) k (by omega)).1, (t5 k (by omega)).2.1, xe (24 + 3) k (by omega)]; exact (b4 k hk).2.1
      · rw [(u5 (4 + 4) k (by omega)).1, (t5 k (by omega)).2.2.1, xe (24 + 4) k (by omega)]; exact (b4 k hk).2.2.1
      · rw [(u5 (4 + 5) k (by omega)).2, (t5 k (by omega)).2.2.2, x2]; exact (b4 k hk).2.2.2
    refine ⟨pI U 17 4 0, ?_, ?_, fun a k h => ?_, fun a k h => ?_, fun q => absurd hz q, fun _ => ⟨?_, fun a b ha hb => ?_, ⟨?_, ?_, fun k hk => ?_⟩, pI_eq⟩⟩
    · rw [pI_ne (by omega), tw.1]
    · rw [pI_ne (by omega), (u5 1 1 (by omega)).1, (t7 1 1 (by omega)).1, hX1]
    · have h' : ¬ wF1 a k := fun q => h (Or.inl q)
      have h2 : ¬ (4 ≤ a ∧ a ≤ 16) := fun q => h (Or.inr (Or.inl q))
      have h3 : ¬ (a = 17 ∧ k = 4) := fun q => h (Or.inr (Or.inr q))
      rw [pI_ne h3, (u5 a k (by omega)).1, (t7 a k (by omega)).1]
      exact hF1 a k h'
    · have h' : ¬ wF2 a k := fun q => h (Or.inl q)
      have h2 : ¬ (4 ≤ a ∧ a ≤ 16) := fun q => h (Or.inr q)
      rw [pI_2, (u5 a k (by omega)).2, (t7 a k (by omega)).2]
      exact hF2 a k h'
    · obtain ⟨w1, w2, w3, w4⟩ := tw
      refine ⟨?_, ?_, fun k hk => w3 k hk, fun k hk => ⟨?_, ?_, ?_, (w4 k hk).2.2.2⟩⟩
      · rw [pI_ne (by omega)]; exact w1
      · rw [pI_ne (by omega)]; exact w2
      · rw [pI_ne (by omega)]; exact (w4 k hk).1
      · rw [pI_ne (by omega)]; exact (w4 k hk).2.1
      · rw [pI_ne (by omega)]; exact (w4 k hk).2.2.1
    · rw [pI_ne (by omega), (u5 10 _ (by omega)).1]
      have h6 : T.1 10 (10 * a + b) = X.1 30 (10 * a + b) := t6 (10 * a + b) (by omega)
      rw [h6, xe 30 _ (by omega)]
      exact hW a b ha hb
    · rw [pI_ne (by omega), u2, (t7 31 5 (by omega)).1, xe 31 5 (by omega)]; exact b5
    · rw [pI_ne (by omega), u3, (t7 31 6 (by omega)).1, xe 31 6 (by omega)]; exact b6
    · rw [pI_ne (by omega), pI_ne (by omega), pI_ne (by omega), pI_ne (by omega), pI_2, (u4 k (by omega)).1, (u4 k (by omega)).2.1, (u4 k (by omega)).2.2.1, (u4 k (by omega)).2.2.2.1, (u4 k (by omega)).2.2.2.2, (t7 (31 + 1) k (by omega)).1, (t7 (31 + 2) k (by omega)).1, (t7 (31 + 3) k (by omega)).1, (t7 (31 + 4) k (by omega)).1, (t7 (31 + 5) k (by omega)).2, xe (31 + 1) k (by omega), xe (31 + 2) k (by omega), xe (31 + 3) k (by omega), xe (31 + 4) k (by omega), x2]
      exact b7 k hk
  · rw [if_neg hz, if_neg hz, if_pos (show (0 : Int32) = 0 from rfl), pI_ne (by omega), y2 hz]
    exact ⟨pI Y1 1 1 0, rfl, pI_eq, fun a k h => hF1 a k (fun q => h (Or.inl q)), fun a k h => hF2 a k (fun q => h (Or.inl q)), fun _ => ⟨hF1, hF2⟩, fun q => absurd q hz⟩
end
section
/-! a rule's text: what is held, and what is written; steps by the class's numbers:
2 number, 3 word, 4 not, 5 and, 6 or, 7 +, 8 -, 9 *, 10 /, 11 <, 12 <=, 13 =, 14 >=, 15 >, 16 [ -/
def bnd : Nat → Nat
  | 4 => 3
  | 5 => 2
  | 6 => 1
  | 7 => 5
  | 8 => 5
  | 9 => 6
  | 10 => 6
  | 11 => 4
  | 12 => 4
  | 13 => 4
  | 14 => 4
  | 15 => 4
  | _ => 0
theorem bnd_bd : ∀ s, s < 17 → mm_bd.getD s 0 = o3 (bnd s) := by decide
theorem gB_o {s : Nat} (h : s < 17) : gB (o3 s) = some (o3 (bnd s)) := by
  unfold gB
  rw [if_neg (ix_ok h (by omega)), o3_nat (by omega), bnd_bd s h]
def brk : List Nat → Nat
  | [] => 0
  | s :: H => brk H + (if s = 16 then 1 else 0)
def dep : List Nat → Nat
  | [] => 0
  | s :: H => dep H + (if s = 16 ∨ s = 4 then 1 else 0)
/-- what is written when all that binds at least so tight is settled; what stays held -/
def stO (b : Nat) : List Nat → List (Nat × Nat)
  | [] => []
  | s :: H => if b ≤ bnd s then (s, 0) :: stO b H else []
def stR (b : Nat) : List Nat → List Nat
  | [] => []
  | s :: H => if b ≤ bnd s then stR b H else s :: H
theorem stR_len {b : Nat} : ∀ H, (stO b H).length + (stR b H).length = H.length := by
  intro H
  induction H with
  | nil => rfl
  | cons s H ih =>
    unfold stO stR
    by_cases h : b ≤ bnd s
    · rw [if_pos h, if_pos h]
      show (stO b H).length + 1 + _ = H.length + 1
      omega
    · rw [if_neg h, if_neg h]
      show 0 + _ = _
      omega
theorem stR_mem {b : Nat} {x : Nat} : ∀ H, x ∈ stR b H → x ∈ H := by
  intro H
  induction H with
  | nil => intro h; exact h
  | cons s H ih =>
    intro h
    unfold stR at h
    by_cases hb : b ≤ bnd s
    · rw [if_pos hb] at h; exact List.mem_cons_of_mem _ (ih h)
    · rw [if_neg hb] at h; exact h
theorem stR_brk {b : Nat} (hb1 : 1 ≤ b) : ∀ H, brk (stR b H) = brk H := by
  intro H
  induction H with
  | nil => rfl
  | cons s H ih =>
    unfold stR
    by_cases h : b ≤ bnd s
    · rw [if_pos h, ih]
      have : s ≠ 16 := fun q => by rw [q] at h; have : bnd 16 = 0 := rfl; omega
      show _ = brk H + (if s = 16 then 1 else 0)
      rw [if_neg this]
      rfl
    · rw [if_neg h]
theorem stR_dep {b : Nat} : ∀ H, dep (stR b H) ≤ dep H := by
  intro H
  induction H with
  | nil => exact Nat.le_refl _
  | cons s H ih =>
    unfold stR
    by_cases h : b ≤ bnd s
    · rw [if_pos h]
      show _ ≤ dep H + _
      omega
    · rw [if_neg h]; exact Nat.le_refl _
theorem brk_dep : ∀ H, brk H ≤ dep H := by
  intro H
  induction H with
  | nil => exact Nat.le_refl _
  | cons s H ih =>
    show brk H + _ ≤ dep H + _
    by_cases h : s = 16
    · rw [if_pos h, if_pos (Or.inl h)]; omega
    · rw [if_neg h]
      split <;> omega
/-- a step and its number, as the class writes them -/
def enc (q : Nat × Nat) : Int32 := o3 (q.2 * 32 + q.1)
theorem enc_eq {v s : Nat} (hs : s < 32) (hv : v < 100000) : ((o3 v <<< ((5 : Int32) &&& 31)) ||| o3 s) = enc (s, v) := by
  have h5 : (5 : Int32) &&& 31 = 5 := by decide
  rw [h5]
  apply Int32.toBitVec_inj.mp
  rw [Int32.toBitVec_or, Int32.toBitVec_shiftLeft]
  apply BitVec.eq_of_toNat_eq
  have e1 : (o3 v).toBitVec = BitVec.ofNat 32 v := rfl
  have e2 : (o3 s).toBitVec = BitVec.ofNat 32 s := rfl
  have e3 : (enc (s, v)).toBitVec = BitVec.ofNat 32 (v * 32 + s) := rfl
  have e4 : (Int32.toBitVec 5).smod 32 = BitVec.ofNat 32 5 := by decide
  rw [e1, e2, e3, e4, BitVec.toNat_or, BitVec.shiftLeft_eq', BitVec.toNat_shiftLeft, BitVec.toNat_ofNat, BitVec.toNat_ofNat, BitVec.toNat_ofNat, BitVec.toNat_ofNat]
  rw [Nat.mod_eq_of_lt (show v < 2 ^ 32 by omega), Nat.mod_eq_of_lt (show s < 2 ^ 32 by omega), Nat.mod_eq_of_lt (show (5 : Nat) < 2 ^ 32 by decide), Nat.mod_eq_of_lt (show v * 32 + s < 2 ^ 32 by omega)]
  rw [Nat.mod_eq_of_lt (show v <<< 5 < 2 ^ 32 by rw [Nat.shiftLeft_eq]; omega), ← Nat.shiftLeft_add_eq_or_of_lt (by omega), Nat.shiftLeft_eq]
/-! the class's rule reader: made, written, held -/
def RC (S : fS) (m : Nat) (c : List (Nat × Nat)) (H : List Nat) : Prop := S.1 38 3 = o3 m ∧ S.1 38 4 = o3 H.length ∧ S.1 38 5 = o3 (brk H) ∧ S.1 38 6 = o3 (dep H) ∧ (∀ k, k < H.length → S.1 39 k = o3 (H.reverse.getD k 0)) ∧ S.1 40 2 = o3 c.length ∧ (∀ k, k < c.length → S.1 41 k = enc (c.getD k (0, 0)))
def wQ (a k : Nat) : Prop := (a = 38 ∧ 3 ≤ k ∧ k ≤ 6) ∨ a = 39 ∨ (a = 40 ∧ k = 2) ∨ a = 41
def eQ (S T : fS) : Prop := (∀ a k, ¬ wQ a k → T.1 a k = S.1 a k) ∧ T.2 = S.2
theorem eQ.rf {S : fS} : eQ S S := ⟨fun _ _ _ => rfl, rfl⟩
theorem eQ.tr {S T U : fS} (h : eQ S T) (g : eQ T U) : eQ S U := ⟨fun a k n => (g.1 a k n).trans (h.1 a k n), g.2.trans h.2⟩
theorem eQ_pI {S : fS} {a k : Nat} {x : Int32} (h : wQ a k) : eQ S (pI S a k x) := ⟨fun b j n => by
  rw [pI_get]
  by_cases q : b = a ∧ j = k
  · exact absurd (q.1 ▸ q.2 ▸ h) n
  · rw [if_neg q], rfl⟩
section CQ
variable {S : fS} {m : Nat} {c : List (Nat × Nat)} {H : List Nat} {i s f : Int32}
theorem cq_write {a v : Nat} (hR : RC S m c H) (hc : c.length < 400) (ha : a < 32) (hv : v < 100000) : ∃ S', f_X4_write 40 (o3 a) (o3 v) (tS S i s f) = some (tS S' i s f) ∧ RC S' m (c ++ [(a, v)]) H ∧ eQ S S' := by
  obtain ⟨r1, r2, r3, r4, r5, r6, r7⟩ := hR
  unfold f_X4_write
  rw [tS_ne (by omega), r6, if_neg (show ¬ (400 : Int32) ≤ o3 _ from fun q => by have := (o3_le (a := 400) (by omega) (by omega)).mp q; omega), enc_eq ha hv, sI_o (by omega) (by omega), bd_some, tS_pI (by omega), bd_some, tS_ne (by omega), pI_ne (by omega), r6, tS_pI (by omega), o3_s]
  refine ⟨_, rfl, ⟨?_, ?_, ?_, ?_, fun k hk => ?_, ?_, fun k hk => ?_⟩, (eQ_pI (by unfold wQ; omega)).tr (eQ_pI (by unfold wQ; omega))⟩
  · rw [pI_ne (by omega), pI_ne (by omega)]; exact r1
  · rw [pI_ne (by omega), pI_ne (by omega)]; exact r2
  · rw [pI_ne (by omega), pI_ne (by omega)]; exact r3
  · rw [pI_ne (by omega), pI_ne (by omega)]; exact r4
  · rw [pI_ne (by omega), pI_ne (by omega)]; exact r5 k hk
  · rw [pI_eq, ln_app]
  · rw [ln_app] at hk
    rw [pI_ne (by omega), gd_app]
    by_cases hq : k = c.length
    · rw [if_pos hq, hq]; exact pI_eq
    · rw [if_neg hq, pI_ne (by omega)]; exact r7 k (by omega)
end CQ
end
section
section CQ
variable {S : fS} {m : Nat} {c : List (Nat × Nat)} {H : List Nat} {i s f : Int32}
theorem cq_hold {a : Nat} (h1 : S.1 38 3 = o3 m) (h2 : S.1 38 4 = o3 H.length) (h3 : S.1 38 5 = o3 (brk (a :: H))) (h4 : S.1 38 6 = o3 (dep (a :: H))) (h5 : ∀ k, k < H.length → S.1 39 k = o3 (H.reverse.getD k 0)) (h6 : S.1 40 2 = o3 c.length) (h7 : ∀ k, k < c.length → S.1 41 k = enc (c.getD k (0, 0))) (hl : H.length < 64) : ∃ S', f_X5_hold (o3 a) (tS S i s f) = some (tS S' i s f) ∧ RC S' m c (a :: H) ∧ eQ S S' := by
  unfold f_X5_hold
  rw [tS_ne (by omega), h2, if_neg (o3_nn (by omega)), if_neg (show ¬ (64 : Int32) ≤ o3 _ from fun q => by have := (o3_le (a := 64) (by omega) (by omega)).mp q; omega), sI_o (by omega) (by omega), bd_some, tS_pI (by omega), bd_some, tS_ne (by omega), pI_ne (by omega), h2, tS_pI (by omega), o3_s]
  refine ⟨_, rfl, ⟨?_, ?_, ?_, ?_, fun k hk => ?_, ?_, fun k hk => ?_⟩, (eQ_pI (by unfold wQ; omega)).tr (eQ_pI (by unfold wQ; omega))⟩
  · rw [pI_ne (by omega), pI_ne (by omega)]; exact h1
  · rw [pI_eq]; rfl
  · rw [pI_ne (by omega), pI_ne (by omega)]; exact h3
  · rw [pI_ne (by omega), pI_ne (by omega)]; exact h4
  · have hk : k < H.length + 1 := hk
    rw [pI_ne (by omega), List.reverse_cons, gd_app, List.length_reverse]
    by_cases hq : k = H.length
    · rw [if_pos hq, hq]; exact pI_eq
    · rw [if_neg hq, pI_ne (by omega)]; exact h5 k (by omega)
  · rw [pI_ne (by omega), pI_ne (by omega)]; exact h6
  · rw [pI_ne (by omega), pI_ne (by omega)]; exact h7 k hk
/-- a sign that joins -/
theorem cq_join {a : Nat} (hR : RC S m c H) (ha : a ≠ 4 ∧ a ≠ 16) (hl : H.length < 64) : ∃ S', f_X5_hold (o3 a) (tS S i s f) = some (tS S' i s f) ∧ RC S' m c (a :: H) ∧ eQ S S' := by
  obtain ⟨r1, r2, r3, r4, r5, r6, r7⟩ := hR
  refine cq_hold r1 r2 ?_ ?_ r5 r6 r7 hl
  · rw [r3]
    show _ = o3 (brk H + (if a = 16 then 1 else 0))
    rw [if_neg ha.2]
    rfl
  · rw [r4]
    show _ = o3 (dep H + (if a = 16 ∨ a = 4 then 1 else 0))
    rw [if_neg (by omega)]
    rfl
theorem rv_last {a : Nat} : (a :: H).reverse.getD H.length 0 = a := by
  rw [List.reverse_cons, gd_app, List.length_reverse, if_pos rfl]
theorem rv_init {a k : Nat} (h : k < H.length) : (a :: H).reverse.getD k 0 = H.reverse.getD k 0 := by
  rw [List.reverse_cons, gd_app, List.length_reverse, if_neg (by omega)]
theorem cq_settlelp {K : fS → Option fS} {b : Nat} (hb : 1 ≤ b) (hb7 : b < 10) : ∀ (H : List Nat) (c : List (Nat × Nat)) (n : Nat) (S : fS), RC S m c H → (∀ x ∈ H, x < 17) → H.length ≤ 64 → dep H ≤ 400 → c.length + H.length ≤ 400 → H.length < n → ∃ S', lp_X5_settle_0 (o3 b) K n (tS S i s f) = K (tS S' i s f) ∧ RC S' m (c ++ stO b H) (stR b H) ∧ eQ S S' := by
  intro H
  induction H with
  | nil =>
    intro c n S hR _ _ _ _ hn
    obtain ⟨n, rfl⟩ : ∃ n', n = n' + 1 := ⟨n - 1, by have : 0 < n := hn; omega⟩
    rw [lp_X5_settle_0.eq_2, tS_ne (by omega), hR.2.1, if_pos (by decide)]
    refine ⟨S, rfl, ?_, eQ.rf⟩
    show RC S m (c ++ []) []
    rw [List.append_nil]; exact hR
  | cons x H ih =>
    intro c n S hR hx hl hd hcl hn
    have hl : H.length + 1 ≤ 64 := hl
    have hcl : c.length + (H.length + 1) ≤ 400 := hcl
    have hn : H.length + 1 < n := hn
    obtain ⟨n, rfl⟩ : ∃ n', n = n' + 1 := ⟨n - 1, by omega⟩
    have hx0 := hx x List.mem_cons_self
    have hR0 := hR
    obtain ⟨r1, r2, r3, r4, r5, r6, r7⟩ := hR
    have r2 : S.1 38 4 = o3 (H.length + 1) := r2
    have hlast : S.1 39 H.length = o3 x := by rw [r5 H.length (Nat.lt_succ_self _), rv_last]
    rw [lp_X5_settle_0.eq_2, tS_ne (by omega), r2, if_neg (show ¬ o3 _ ≤ (0 : Int32) from fun q => by have := (o3_le (b := 0) (by omega) (by omega)).mp q; omega), show (1 : Int32) = o3 1 from rfl, o3_sub (by omega), show H.length + 1 - 1 = H.length by omega, gI_o (by omega) (by omega), bd_some, tS_ne (by omega), hlast, gB_o hx0, bd_some]
    have hb6 : bnd x < 10 := (show ∀ x, x < 17 → bnd x < 10 by decide) x hx0
    by_cases hle : b ≤ bnd x
    · rw [if_neg (fun q => by have := (o3_lt (by omega) (by omega)).mp q; omega), bd_some, tS_pI (by omega), tS_ne (by omega), pI_eq, gI_o (by omega) (by omega), bd_some, tS_ne (by omega), pI_ne (by omega), hlast]
      have hR1 : RC (pI S 38 4 (o3 H.length)) m c (x :: H) ∨ True := Or.inr trivial
      -- write the step
      have hw : ∃ S1, f_X4_write 40 (o3 x) (0 : Int32) (tS (pI S 38 4 (o3 H.length)) i s f) = some (tS S1 i s f) ∧ (∀ k, k < (c ++ [(x, 0)]).length → S1.1 41 k = enc ((c ++ [(x, 0)]).getD k (0, 0))) ∧ S1.1 40 2 = o3 (c ++ [(x, 0)]).length ∧ (∀ k, S1.1 38 k = (pI S 38 4 (o3 H.length)).1 38 k) ∧ (∀ k, S1.1 39 k = S.1 39 k) ∧ eQ S S1 := by
        unfold f_X4_write
        rw [tS_ne (by omega), pI_ne (by omega), r6, if_neg (show ¬ (400 : Int32) ≤ o3 _ from fun q => by have := (o3_le (a := 400) (by omega) (by omega)).mp q; omega), show (0 : Int32) = o3 0 from rfl, enc_eq (by omega) (by omega), sI_o (by omega) (by omega), bd_some, tS_pI (by omega), bd_some, tS_ne (by omega), pI_ne (by omega), pI_ne (by omega), r6, tS_pI (by omega), o3_s]
        refine ⟨_, rfl, fun k hk => ?_, ?_, fun k => ?_, fun k => ?_, ((eQ_pI (by unfold wQ; omega)).tr (eQ_pI (by unfold wQ; omega))).tr (eQ_pI (by unfold wQ; omega))⟩
        · rw [ln_app] at hk
          rw [pI_ne (by omega), gd_app]
          by_cases hq : k = c.length
          · rw [if_pos hq, hq]; exact pI_eq
          · rw [if_neg hq, pI_ne (by omega), pI_ne (by omega)]; exact r7 k (by omega)
        · rw [pI_eq, ln_app]
        · rw [pI_ne (by omega), pI_ne (by omega)]
        · rw [pI_ne (by omega), pI_ne (by omega), pI_ne (by omega)]
      obtain ⟨S1, w1, w2, w3, w4, w5, w6⟩ := hw
      rw [w1, bd_some, tS_ne (by omega), w4 4, pI_eq, gI_o (by omega) (by omega), bd_some, tS_ne (by omega), w5, hlast]
      have hx16 : x ≠ 16 := fun q => by rw [q] at hle; have : bnd 16 = 0 := rfl; omega
      have hbrk : brk (x :: H) = brk H := by show brk H + (if x = 16 then 1 else 0) = _; rw [if_neg hx16]; rfl
      have go : ∀ S2 : fS, (∀ a k, ¬ (a = 38 ∧ k = 6) → S2.1 a k = S1.1 a k) → S2.2 = S1.2 → S2.1 38 6 = o3 (dep H) → ∃ S', lp_X5_settle_0 (o3 b) K n (tS S2 i s f) = K (tS S' i s f) ∧ RC S' m (c ++ stO b (x :: H)) (stR b (x :: H)) ∧ eQ S S' := by
        intro S2 g1 g2 g3
        have hRn : RC S2 m (c ++ [(x, 0)]) H := by
          refine ⟨?_, ?_, ?_, g3, fun k hk => ?_, ?_, fun k hk => ?_⟩
          · rw [g1 38 3 (by omega), w4, pI_ne (by omega)]; exact r1
          · rw [g1 38 4 (by omega), w4, pI_eq]
          · rw [g1 38 5 (by omega), w4, pI_ne (by omega), r3, hbrk]
          · rw [g1 39 k (by omega), w5, r5 k (Nat.lt_succ_of_lt hk), rv_init hk]
          · rw [g1 40 2 (by omega)]; exact w3
          · rw [g1 41 k (by omega)]; exact w2 k hk
        have hdep : dep H ≤ dep (x :: H) := Nat.le_add_right _ _
        obtain ⟨S3, k1, k2, k3⟩ := ih (c ++ [(x, 0)]) n S2 hRn (fun y hy => hx y (List.mem_cons_of_mem _ hy)) (by omega) (by omega) (by rw [ln_app]; omega) (by omega)
        refine ⟨S3, k1, ?_, (w6.tr ⟨fun a k hn => g1 a k (fun q => hn (by unfold wQ; omega)), g2⟩).tr k3⟩
        have e1 : stO b (x :: H) = (x, 0) :: stO b H := if_pos hle
        have e2 : stR b (x :: H) = stR b H := if_pos hle
        rw [e1, e2]
        rw [List.append_assoc] at k2
        exact k2
      by_cases h4 : x = 4
      · rw [if_pos (show o3 x = (4 : Int32) from (o3_inj (b := 4) (by omega) (by omega)).mpr h4), bd_some, tS_ne (by omega), w4 6, pI_ne (by omega), r4, tS_pI (by omega)]
        have hd4 : dep (x :: H) = dep H + 1 := by show dep H + (if x = 16 ∨ x = 4 then 1 else 0) = _; rw [if_pos (Or.inr h4)]
        rw [hd4, o3_sub (by omega), show dep H + 1 - 1 = dep H by omega]
        exact go _ (fun a k h => pI_ne (by omega)) rfl pI_eq
      · rw [if_neg (show ¬ o3 x = (4 : Int32) from fun q => h4 ((o3_inj (b := 4) (by omega) (by omega)).mp q)), bd_some, tS_ne (by omega), w4 6, pI_ne (by omega), r4, tS_pI (by omega)]
        have hd4 : dep (x :: H) = dep H := by show dep H + (if x = 16 ∨ x = 4 then 1 else 0) = _; rw [if_neg (by omega)]; rfl
        rw [hd4, Int32.sub_zero]
        exact go _ (fun a k h => pI_ne (by omega)) rfl pI_eq
    · rw [if_pos ((o3_lt (by omega) (by omega)).mpr (by omega))]
      refine ⟨S, rfl, ?_, eQ.rf⟩
      have e1 : stO b (x :: H) = [] := if_neg hle
      have e2 : stR b (x :: H) = x :: H := if_neg hle
      rw [e1, e2, List.append_nil]
      exact hR0
theorem cq_settle {b : Nat} (hb : 1 ≤ b) (hb7 : b < 10) (hR : RC S m c H) (hx : ∀ x ∈ H, x < 17) (hl : H.length ≤ 64) (hd : dep H ≤ 400) (hcl : c.length + H.length ≤ 400) : ∃ S', f_X5_settle (o3 b) (tS S i s f) = some (tS S' i s f) ∧ RC S' m (c ++ stO b H) (stR b H) ∧ eQ S S' := by
  unfold f_X5_settle
  obtain ⟨S', h1, h2⟩ := cq_settlelp (K := fun S28 => some S28) (i := i) (s := s) (f := f) hb hb7 H c FU S hR hx hl hd hcl (FU_lt (by omega))
  exact ⟨S', h1, h2⟩
end CQ
end
