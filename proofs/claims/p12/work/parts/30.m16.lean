section
/-! the reference reads a tower to its end -/
theorem b255 : ∀ k : Fin 256, (Int32.ofInt ((k : Int) - 128) &&& 255) = if k.val < 128 then Int32.ofInt ((k : Int) + 128) else Int32.ofInt ((k : Int) - 128) := by decide +kernel
def byt (x : Int32) : Prop := -128 ≤ x.toInt ∧ x.toInt ≤ 127
theorem b_and {x : Int32} (h : byt x) : (x &&& 255).toInt = if x.toInt < 0 then x.toInt + 256 else x.toInt := by
  obtain ⟨h1, h2⟩ := h
  have hk : (x.toInt + 128).toNat < 256 := by omega
  have e := b255 ⟨(x.toInt + 128).toNat, hk⟩
  have hv : ((⟨(x.toInt + 128).toNat, hk⟩ : Fin 256).val : Int) = x.toInt + 128 := by show ((x.toInt + 128).toNat : Int) = _; omega
  have ex : Int32.ofInt (((⟨(x.toInt + 128).toNat, hk⟩ : Fin 256).val : Int) - 128) = x := by
    rw [hv, ni_eq, Int32.toInt_ofInt_of_le (by omega) (by omega)]; omega
  have e : (Int32.ofInt (((⟨(x.toInt + 128).toNat, hk⟩ : Fin 256).val : Int) - 128) &&& 255) = if (x.toInt + 128).toNat < 128 then Int32.ofInt (((⟨(x.toInt + 128).toNat, hk⟩ : Fin 256).val : Int) + 128) else Int32.ofInt (((⟨(x.toInt + 128).toNat, hk⟩ : Fin 256).val : Int) - 128) := e
  rw [ex] at e
  rw [e]
  by_cases hx : x.toInt < 0
  · rw [if_pos (by omega), if_pos hx, hv, Int32.toInt_ofInt_of_le (by omega) (by omega)]; omega
  · rw [if_neg (by omega), if_neg hx]
theorem seen_eq {t : Nat → Int32} {n j : Nat} (hb : ∀ k, byt (t k)) {c : Int32} (h0 : 0 ≤ c.toInt) (h1 : c.toInt ≤ 127) : seen t n j = c ↔ j < n ∧ t j = c := by
  unfold seen
  by_cases h : j < n
  · rw [if_pos h]
    have e := b_and (hb j)
    have hbj := hb j
    unfold byt at hbj
    constructor
    · intro q
      rw [q] at e
      refine ⟨h, ni_eq.mpr ?_⟩
      split at e <;> omega
    · rintro ⟨-, q⟩
      rw [ni_eq, e, q, if_neg (by omega)]
  · rw [if_neg h]
    constructor
    · intro q
      rw [← q] at h0
      exact absurd h0 (by decide)
    · intro q; exact absurd q.1 h
theorem seen_no {t : Nat → Int32} {n j : Nat} (hb : ∀ k, byt (t k)) : seen t n j = -1 ↔ ¬ j < n := by
  unfold seen
  by_cases h : j < n
  · rw [if_pos h]
    have e := b_and (hb j)
    have hbj := hb j
    unfold byt at hbj
    constructor
    · intro q
      rw [q] at e
      have e : (-1 : Int) = _ := e
      split at e <;> omega
    · intro q; exact absurd h q
  · rw [if_neg h]
    exact ⟨fun _ => h, fun _ => rfl⟩
theorem tFl_ne {t : Nat → Int32} {n i : Nat} {B : TB} (h : (tFl t n B i).1 = 0) : 0 < (tFl t n B i).2.2.1.length := by
  unfold tFl at h ⊢
  by_cases c1 : nmf t n i 1 20 = 0
  · rw [if_pos c1] at h ⊢
    by_cases c2 : nmf t n (nmp t n i) 1 20 = 0
    · rw [if_pos c2]
      show 0 < (B.1 ++ [_]).length
      rw [ln_app]; omega
    · rw [if_neg c2] at h; exact absurd h c2
  · rw [if_neg c1] at h; exact absurd h c1
theorem tPc_ne {t : Nat → Int32} {n i a b c : Nat} {B : TB} : (tPc t n B a b c i).2.2.1 = B.1 := by
  unfold tPc
  by_cases c1 : nmf t n i 1 20 = 0
  · rw [if_pos c1]
    by_cases c2 : nmf t n (nmp t n i) 1 20 = 0
    · rw [if_pos c2]
    · rw [if_neg c2]
  · rw [if_neg c1]
theorem tSt_ne {t : Nat → Int32} {n i : Nat} {B : TB} (h : (tSt t n B i).1 = 0) : 0 < (tSt t n B i).2.2.1.length := by
  unfold tSt at h ⊢
  by_cases c1 : nmf t n i 0 (B.1.length - 1) = 0
  · have g := (nmf_0 c1).2.2
    rw [if_pos c1] at h ⊢
    by_cases c2 : nmf t n (nmp t n i) 0 (B.1.length - 1) = 0
    · rw [if_pos c2] at h ⊢
      by_cases c3 : nmv t n i = nmv t n (nmp t n i)
      · rw [if_pos c3]
        show 0 < B.1.length
        omega
      · rw [if_neg c3] at h ⊢
        by_cases c4 : nmf t n (nmp t n (nmp t n i)) 1 9 = 0
        · rw [if_pos c4, tPc_ne]
          omega
        · rw [if_neg c4]
          show 0 < B.1.length
          omega
    · rw [if_neg c2]
      show 0 < B.1.length
      omega
  · rw [if_neg c1] at h; exact absurd h c1
theorem tTh_ne {t : Nat → Int32} {n i : Nat} {B : TB} (h : (tTh t n B i).1 = 0) : 0 < (tTh t n B i).2.2.1.length := by
  unfold tTh at h ⊢
  by_cases c1 : nmf t n i 0 (B.1.length - 1) = 0
  · have g := (nmf_0 c1).2.2
    rw [if_pos c1]
    show 0 < B.1.length
    omega
  · rw [if_neg c1] at h; exact absurd h c1
theorem tcl_ne {t : Nat → Int32} {n c i : Nat} {B : TB} (h : (tcl t n c B i).1 = 0) : 0 < (tcl t n c B i).2.2.1.length := by
  unfold tcl at h ⊢
  by_cases h1 : wat t n (mm_sb.getD 0 []) (sk t n i) = true
  · rw [if_pos h1] at h ⊢
    by_cases h2 : 10 ≤ B.1.length ∨ 24 ≤ c
    · rw [if_pos h2] at h; exact absurd h (by show ¬ (1 + 8 * _ + 4 = 0); omega)
    · rw [if_neg h2] at h ⊢
      exact tFl_ne h
  · rw [if_neg h1] at h ⊢
    by_cases h3 : wat t n (mm_sb.getD 1 []) (sk t n i) = true
    · rw [if_pos h3] at h ⊢
      by_cases h2 : 12 ≤ B.2.1.length ∨ 24 ≤ c
      · rw [if_pos h2] at h; exact absurd h (by show ¬ (1 + 8 * _ + 4 = 0); omega)
      · rw [if_neg h2] at h ⊢
        exact tSt_ne h
    · rw [if_neg h3] at h ⊢
      by_cases h4 : wat t n (mm_sb.getD 2 []) (sk t n i) = true
      · rw [if_pos h4] at h ⊢
        by_cases h2 : 8 ≤ B.2.2.length ∨ 24 ≤ c
        · rw [if_pos h2] at h; exact absurd h (by show ¬ (1 + 8 * _ + 4 = 0); omega)
        · rw [if_neg h2] at h ⊢
          exact tTh_ne h
      · rw [if_neg h4] at h; exact absurd h (by show ¬ (1 + 8 * _ = 0); omega)
/-- behind a clause -/
def tl (t : Nat → Int32) (n d c i : Nat) (B : TB) : Nat × TB := if sk t n i < n then (if t (sk t n i) = 59 then tall t n d c (sk t n i + 1) B else (1 + 8 * sk t n i, B)) else (0, B)
theorem tall_tl {t : Nat → Int32} {n d c i : Nat} {B : TB} : tall t n (d + 1) c i B = if (tcl t n c B i).1 = 0 then tl t n d (c + 1) (tcl t n c B i).2.1 (tcl t n c B i).2.2 else ((tcl t n c B i).1, B) := rfl
section ML
variable {n : Nat} {t : Nat → Int32}
/-- how the loop over clauses leaves the reader: good, and at the end; or with a fault that is told, or that is to be told at the place where it stands -/
def mEnd (n : Nat) (t : Nat → Int32) (r : Nat × TB) (g : Int32) (S' : fS) (i' w' : Int32) : Prop :=
  (r.1 = 0 ∧ g = 1 ∧ w' = 0 ∧ (∃ j, i' = o3 j ∧ ¬ j < n ∧ j ≤ n) ∧ TBm S' r.2 ∧ 0 < r.2.1.length ∧ okB r.2) ∨ (r.1 ≠ 0 ∧ g = 0 ∧ w' = o3 r.1) ∨ (∃ j, r.1 = 1 + 8 * j ∧ g = 1 ∧ w' = 0 ∧ i' = o3 j ∧ j < n ∧ sk t n j = j)
theorem ml_loop (hl : n ≤ 400) (hb : ∀ k, byt (t k)) {K : Int32 → fS → Option (Int32 × fS)} : ∀ d c m B (S : fS) (i : Nat) (u : Int32), S.1 145 1 = o3 n → S.1 146 = t → TBm S B → okB B → 0 < B.1.length → S.1 145 19 = o3 c → S.1 145 16 = 6 → i ≤ n → c + d = 24 → d + 1 < m → ∃ S' u' i' w' g, lp_X11_readsAll_35 K m 1 (mS S (o3 i) 0 u) = K g (mS S' i' w' u') ∧ eC S S' ∧ mEnd n t (tl t n (d + 1) c i B) g S' i' w' := by
  intro d
  induction d with
  | zero =>
    intro c m B S i u hn ht hB hok hne h19 h16 hi hcd hm
    subst ht
    obtain ⟨m, rfl⟩ : ∃ m', m = m' + 1 := ⟨m - 1, by omega⟩
    have hj := sk_le (t := S.1 146) hi
    rw [lp_X11_readsAll_35.eq_2, if_neg (show ¬ (1 : Int32) = 0 by decide), mt_see hn hl hi, bd_some]
    dsimp only
    unfold tl
    by_cases h59 : sk (S.1 146) n i < n ∧ S.1 146 (sk (S.1 146) n i) = 59
    · rw [if_pos ((seen_eq hb (by decide) (by decide)).mpr h59), bd_some, mS_nx, mS_13, o3_s, if_pos h59.1, if_pos h59.2, tall_tl]
      obtain ⟨S1, u1, i1, e1, f1, g1⟩ := mc_clause (u := u) hn hl hB hok (c := c) (by omega) h19 h16 (i := sk (S.1 146) n i + 1) (by omega)
      have hz : ¬ (tcl (S.1 146) n c B (sk (S.1 146) n i + 1)).1 = 0 := fun q => by have := (tcl_ok hok q).2; omega
      obtain ⟨m, rfl⟩ : ∃ m', m = m' + 1 := ⟨m - 1, by omega⟩
      rw [e1, bd_some, if_neg hz, if_neg hz]
      dsimp only
      rw [lp_X11_readsAll_35.eq_2, if_pos (show (0 : Int32) = 0 from rfl)]
      exact ⟨S1, u1, i1, _, 0, rfl, f1, Or.inr (Or.inl ⟨hz, rfl, rfl⟩)⟩
    · rw [if_neg (fun q => h59 ((seen_eq hb (by decide) (by decide)).mp q))]
      refine ⟨S, u, _, 0, 1, rfl, eC.rf, ?_⟩
      by_cases h1 : sk (S.1 146) n i < n
      · rw [if_pos h1, if_neg (fun q => h59 ⟨h1, q⟩)]
        exact Or.inr (Or.inr ⟨sk (S.1 146) n i, rfl, rfl, rfl, rfl, h1, sk_id⟩)
      · rw [if_neg h1]
        exact Or.inl ⟨rfl, rfl, rfl, ⟨_, rfl, h1, hj⟩, hB, hne, hok⟩
  | succ d ih =>
    intro c m B S i u hn ht hB hok hne h19 h16 hi hcd hm
    subst ht
    obtain ⟨m, rfl⟩ : ∃ m', m = m' + 1 := ⟨m - 1, by omega⟩
    have hj := sk_le (t := S.1 146) hi
    rw [lp_X11_readsAll_35.eq_2, if_neg (show ¬ (1 : Int32) = 0 by decide), mt_see hn hl hi, bd_some]
    dsimp only
    rw [show tl (S.1 146) n (d + 1 + 1) c i B = if sk (S.1 146) n i < n then (if S.1 146 (sk (S.1 146) n i) = 59 then tall (S.1 146) n (d + 1 + 1) c (sk (S.1 146) n i + 1) B else (1 + 8 * sk (S.1 146) n i, B)) else (0, B) from rfl]
    by_cases h59 : sk (S.1 146) n i < n ∧ S.1 146 (sk (S.1 146) n i) = 59
    · rw [if_pos ((seen_eq hb (by decide) (by decide)).mpr h59), bd_some, mS_nx, mS_13, o3_s, if_pos h59.1, if_pos h59.2, tall_tl]
      obtain ⟨S1, u1, i1, e1, f1, g1⟩ := mc_clause (u := u) hn hl hB hok (c := c) (by omega) h19 h16 (i := sk (S.1 146) n i + 1) (by omega)
      rw [e1, bd_some]
      by_cases hz : (tcl (S.1 146) n c B (sk (S.1 146) n i + 1)).1 = 0
      · rw [if_pos hz, if_pos hz]
        dsimp only
        have hle := tcl_le (t := S.1 146) (B := B) (c := c) (i := sk (S.1 146) n i + 1) (by omega) hz
        obtain ⟨S2, u2, i2, w2, g2, e2, f2, m2⟩ := ih (c + 1) m _ S1 _ u1 (by rw [f1.1 145 1 (by unfold wM; omega)]; exact hn) (funext fun k => f1.1 146 k (by unfold wM; omega)) (g1 hz).1 (tcl_ok hok hz).1 (tcl_ne hz) (g1 hz).2 (by rw [f1.1 145 16 (by unfold wM; omega)]; exact h16) hle.1 (by omega) (by omega)
        exact ⟨S2, u2, i2, w2, g2, e2, f1.tr f2, m2⟩
      · rw [if_neg hz, if_neg hz]
        dsimp only
        obtain ⟨m, rfl⟩ : ∃ m', m = m' + 1 := ⟨m - 1, by omega⟩
        rw [lp_X11_readsAll_35.eq_2, if_pos (show (0 : Int32) = 0 from rfl)]
        exact ⟨S1, u1, i1, _, 0, rfl, f1, Or.inr (Or.inl ⟨hz, rfl, rfl⟩)⟩
    · rw [if_neg (fun q => h59 ((seen_eq hb (by decide) (by decide)).mp q))]
      refine ⟨S, u, _, 0, 1, rfl, eC.rf, ?_⟩
      by_cases h1 : sk (S.1 146) n i < n
      · rw [if_pos h1, if_neg (fun q => h59 ⟨h1, q⟩)]
        exact Or.inr (Or.inr ⟨sk (S.1 146) n i, rfl, rfl, rfl, rfl, h1, sk_id⟩)
      · rw [if_neg h1]
        exact Or.inl ⟨rfl, rfl, rfl, ⟨_, rfl, h1, hj⟩, hB, hne, hok⟩
end ML
end
