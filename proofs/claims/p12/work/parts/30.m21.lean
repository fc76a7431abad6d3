section
/-! the reference takes the tower that it read -/
theorem TBm_r {S T : fS} {B : TB} (h : ∀ a k, a ≠ 157 → T.1 a k = S.1 a k) (hB : TBm S B) : TBm T B := TBm_cg (fun k _ => h 145 k (by omega)) (fun a k _ => h a k (by omega)) hB
/-- row 157 alone, from place lo on below hi -/
def e157 (lo hi : Nat) (S T : fS) : Prop := (∀ a k, ¬ (a = 157 ∧ lo ≤ k ∧ k < hi) → T.1 a k = S.1 a k) ∧ T.2 = S.2
theorem e157.rf {lo hi : Nat} {S : fS} : e157 lo hi S S := ⟨fun _ _ _ => rfl, rfl⟩
theorem e157.tr {lo hi : Nat} {S T U : fS} (h : e157 lo hi S T) (g : e157 lo hi T U) : e157 lo hi S U := ⟨fun a k n => (g.1 a k n).trans (h.1 a k n), g.2.trans h.2⟩
theorem e157_pI {lo hi k : Nat} {S : fS} {x : Int32} (h1 : lo ≤ k) (h2 : k < hi) : e157 lo hi S (pI S 157 k x) := ⟨fun a j n => pI_ne (by omega), rfl⟩
theorem mt_82 {K : fS → Option (Int32 × fS)} {nf : Nat} (hnf : nf ≤ 10) : ∀ d k m (S : fS), k + d = 2 * nf → d < m → S.1 145 7 = o3 nf → (∀ j, j < k → S.1 157 (10 + j) = S.1 151 j) → ∃ S', lp_X11_tower_82 K m (o3 k) S = K S' ∧ (∀ j, j < 2 * nf → S'.1 157 (10 + j) = S.1 151 j) ∧ e157 10 30 S S' := by
  intro d
  induction d with
  | zero =>
    intro k m S hk hm h7 h
    obtain ⟨m, rfl⟩ : ∃ m', m = m' + 1 := ⟨m - 1, by omega⟩
    rw [lp_X11_tower_82.eq_2, h7, show (2 : Int32) = o3 2 from rfl, o3_mul, if_pos ((o3_le (by omega) (by omega)).mpr (by omega))]
    exact ⟨S, rfl, fun j hj => h j (by omega), e157.rf⟩
  | succ d ih =>
    intro k m S hk hm h7 h
    obtain ⟨m, rfl⟩ : ∃ m', m = m' + 1 := ⟨m - 1, by omega⟩
    rw [lp_X11_tower_82.eq_2, h7, show (2 : Int32) = o3 2 from rfl, o3_mul, if_neg (fun q => by have := (o3_le (by omega) (by omega)).mp q; omega), gI_o (by omega) (by omega), bd_some, show (10 : Int32) = o3 10 from rfl, o3_add, sI_o (by omega) (by omega), bd_some, o3_s]
    have hE : e157 10 30 S (pI S 157 (10 + k) (S.1 151 k)) := e157_pI (by omega) (by omega)
    obtain ⟨S', e1, e2, e3⟩ := ih (k + 1) m (pI S 157 (10 + k) (S.1 151 k)) (by omega) (by omega) (by rw [pI_ne (by omega)]; exact h7) (fun j hj => by
      rw [pI_ne (a := 157) (b := 151) (by omega)]
      by_cases hc : j = k
      · rw [hc, pI_eq]
      · rw [pI_ne (by omega)]; exact h j (by omega))
    exact ⟨S', e1, fun j hj => by rw [e2 j hj, pI_ne (by omega)], hE.tr e3⟩
theorem mt_115 {K : fS → Option (Int32 × fS)} {ns : Nat} (hns : ns ≤ 12) : ∀ d k m (S : fS), k + d = 5 * ns → d < m → S.1 145 8 = o3 ns → (∀ j, j < k → S.1 157 (30 + j) = S.1 152 j) → ∃ S', lp_X11_tower_115 K m (o3 k) S = K S' ∧ (∀ j, j < 5 * ns → S'.1 157 (30 + j) = S.1 152 j) ∧ e157 30 90 S S' := by
  intro d
  induction d with
  | zero =>
    intro k m S hk hm h7 h
    obtain ⟨m, rfl⟩ : ∃ m', m = m' + 1 := ⟨m - 1, by omega⟩
    rw [lp_X11_tower_115.eq_2, h7, show (5 : Int32) = o3 5 from rfl, o3_mul, if_pos ((o3_le (by omega) (by omega)).mpr (by omega))]
    exact ⟨S, rfl, fun j hj => h j (by omega), e157.rf⟩
  | succ d ih =>
    intro k m S hk hm h7 h
    obtain ⟨m, rfl⟩ : ∃ m', m = m' + 1 := ⟨m - 1, by omega⟩
    rw [lp_X11_tower_115.eq_2, h7, show (5 : Int32) = o3 5 from rfl, o3_mul, if_neg (fun q => by have := (o3_le (by omega) (by omega)).mp q; omega), gI_o (by omega) (by omega), bd_some, show (30 : Int32) = o3 30 from rfl, o3_add, sI_o (by omega) (by omega), bd_some, o3_s]
    have hE : e157 30 90 S (pI S 157 (30 + k) (S.1 152 k)) := e157_pI (by omega) (by omega)
    obtain ⟨S', e1, e2, e3⟩ := ih (k + 1) m (pI S 157 (30 + k) (S.1 152 k)) (by omega) (by omega) (by rw [pI_ne (by omega)]; exact h7) (fun j hj => by
      rw [pI_ne (a := 157) (b := 152) (by omega)]
      by_cases hc : j = k
      · rw [hc, pI_eq]
      · rw [pI_ne (by omega)]; exact h j (by omega))
    exact ⟨S', e1, fun j hj => by rw [e2 j hj, pI_ne (by omega)], hE.tr e3⟩
/-- a thing that stands -/
def st4 (S : fS) (t : Nat) (f : Int32) : fS := pI (pI (pI (pI S 157 (90 + 4 * t) f) 157 (90 + 4 * t + 1) (-1)) 157 (90 + 4 * t + 2) 0) 157 (90 + 4 * t + 3) (-1)
theorem m_stands {S : fS} {t : Nat} {f : Int32} (ht : t < 8) : f_X11_stands (o3 t) f S = some (st4 S t f) := by
  unfold f_X11_stands st4
  rw [show (90 : Int32) = o3 90 from rfl, show (4 : Int32) = o3 4 from rfl, show (1 : Int32) = o3 1 from rfl, show (2 : Int32) = o3 2 from rfl, show (3 : Int32) = o3 3 from rfl, o3_mul, o3_add, o3_add, o3_add, o3_add, sI_o (by omega) (by omega), bd_some, sI_o (by omega) (by omega), bd_some, sI_o (by omega) (by omega), bd_some, sI_o (by omega) (by omega), bd_some]
theorem st4_ne {S : fS} {t a k : Nat} {f : Int32} (h : ¬ (a = 157 ∧ 90 + 4 * t ≤ k ∧ k < 90 + 4 * t + 4)) : (st4 S t f).1 a k = S.1 a k := by
  unfold st4
  rw [pI_ne (by omega), pI_ne (by omega), pI_ne (by omega), pI_ne (by omega)]
theorem st4_eq {S : fS} {t : Nat} {f : Int32} : (st4 S t f).1 157 (90 + 4 * t) = f ∧ (st4 S t f).1 157 (90 + 4 * t + 1) = -1 ∧ (st4 S t f).1 157 (90 + 4 * t + 2) = 0 ∧ (st4 S t f).1 157 (90 + 4 * t + 3) = -1 := by
  unfold st4
  refine ⟨?_, ?_, ?_, ?_⟩
  · rw [pI_ne (by omega), pI_ne (by omega), pI_ne (by omega), pI_eq]
  · rw [pI_ne (by omega), pI_ne (by omega), pI_eq]
  · rw [pI_ne (by omega), pI_eq]
  · rw [pI_eq]
theorem st4_2 {S : fS} {t : Nat} {f : Int32} : (st4 S t f).2 = S.2 := rfl
theorem mt_148 {K : fS → Option (Int32 × fS)} {nt : Nat} (hnt : nt ≤ 8) : ∀ d k m (S : fS), k + d = nt → d < m → S.1 145 9 = o3 nt → (∀ j, j < k → S.1 157 (90 + 4 * j) = S.1 153 j ∧ S.1 157 (90 + 4 * j + 1) = -1 ∧ S.1 157 (90 + 4 * j + 2) = 0 ∧ S.1 157 (90 + 4 * j + 3) = -1 ∧ S.2 158 j = 0) → ∃ S', lp_X11_tower_148 K m (o3 k) S = K S' ∧ (∀ j, j < nt → S'.1 157 (90 + 4 * j) = S.1 153 j ∧ S'.1 157 (90 + 4 * j + 1) = -1 ∧ S'.1 157 (90 + 4 * j + 2) = 0 ∧ S'.1 157 (90 + 4 * j + 3) = -1 ∧ S'.2 158 j = 0) ∧ (∀ a k, ¬ (a = 157 ∧ 90 ≤ k ∧ k < 122) → S'.1 a k = S.1 a k) ∧ (∀ a k, ¬ a = 158 → S'.2 a k = S.2 a k) := by
  intro d
  induction d with
  | zero =>
    intro k m S hk hm h7 h
    obtain ⟨m, rfl⟩ : ∃ m', m = m' + 1 := ⟨m - 1, by omega⟩
    rw [lp_X11_tower_148.eq_2, h7, if_pos ((o3_le (by omega) (by omega)).mpr (by omega))]
    exact ⟨S, rfl, fun j hj => h j (by omega), fun _ _ _ => rfl, fun _ _ _ => rfl⟩
  | succ d ih =>
    intro k m S hk hm h7 h
    obtain ⟨m, rfl⟩ : ∃ m', m = m' + 1 := ⟨m - 1, by omega⟩
    rw [lp_X11_tower_148.eq_2, h7, if_neg (fun q => by have := (o3_le (by omega) (by omega)).mp q; omega), gI_o (by omega) (by omega), bd_some, m_stands (by omega), bd_some, sL_o (by omega) (by omega), bd_some, o3_s]
    obtain ⟨S', e1, e2, e3, e4⟩ := ih (k + 1) m (pL (st4 S k (S.1 153 k)) 158 k 0) (by omega) (by omega) (by rw [pL_1, st4_ne (by omega)]; exact h7) (fun j hj => by
      rw [pL_1, st4_ne (a := 153) (by omega)]
      by_cases hc : j = k
      · subst hc
        have q := st4_eq (S := S) (t := j) (f := S.1 153 j)
        exact ⟨q.1, q.2.1, q.2.2.1, q.2.2.2, pL_eq⟩
      · rw [st4_ne (by omega), st4_ne (by omega), st4_ne (by omega), st4_ne (by omega), pL_ne (by omega), st4_2]
        exact h j (by omega))
    refine ⟨S', e1, fun j hj => ?_, fun a j hn => ?_, fun a j hn => ?_⟩
    · have q := e2 j hj
      rw [pL_1, st4_ne (a := 153) (by omega)] at q
      exact q
    · rw [e3 a j hn, pL_1, st4_ne (by omega)]
    · rw [e4 a j hn, pL_ne (by omega), st4_2]
/-- the crowd at its beginning, as the reference holds it -/
def cwM0 (I : Nat → Int32) (A : Nat → Int64) (H : List Nat) : Prop := I 2 = o3 H.length ∧ I 3 = 0 ∧ ∀ k, k < H.length → I (90 + 4 * k) = o3 (H.getD k 0) ∧ I (90 + 4 * k + 1) = -1 ∧ I (90 + 4 * k + 2) = 0 ∧ I (90 + 4 * k + 3) = -1 ∧ A k = 0
/-- places of the reference that tower() may write -/
def wT (a k : Nat) : Prop := wR a k ∨ (a = 145 ∧ k = 16) ∨ (a = 157 ∧ (k < 5 ∨ (10 ≤ k ∧ k < 122)))
theorem tall_ok {t : Nat → Int32} {n : Nat} : ∀ f c i B, okB B → (tall t n f c i B).1 = 0 → okB (tall t n f c i B).2 := by
  intro f
  induction f with
  | zero => intro c i B _ h; exact absurd h (by show ¬ (1 = 0); omega)
  | succ f ih =>
    intro c i B hok h
    rw [tall_tl] at h ⊢
    by_cases hz : (tcl t n c B i).1 = 0
    · rw [if_pos hz] at h ⊢
      unfold tl at h ⊢
      by_cases h1 : sk t n (tcl t n c B i).2.1 < n
      · rw [if_pos h1] at h ⊢
        by_cases h2 : t (sk t n (tcl t n c B i).2.1) = 59
        · rw [if_pos h2] at h ⊢
          exact ih _ _ _ (tcl_ok hok hz).1 h
        · rw [if_neg h2] at h
          exact absurd h (by show ¬ (1 + 8 * _ = 0); omega)
      · rw [if_neg h1]
        exact (tcl_ok hok hz).1
    · rw [if_neg hz] at h; exact absurd h hz
theorem tw0_ok {t : Nat → Int32} {n : Nat} (h : (tw0 t n).1 = 0) : okB (tw0 t n).2 := tall_ok 25 0 0 _ ⟨by decide, by decide, by decide, fun q hq => absurd hq List.not_mem_nil, fun q hq => absurd hq List.not_mem_nil, fun q hq => absurd hq List.not_mem_nil⟩ h
/-- the counts -/
def ct5 (S : fS) (a b c : Int32) : fS := pI (pI (pI (pI (pI S 157 0 a) 157 1 b) 157 2 c) 157 3 0) 157 4 0
theorem ct5_ne {S : fS} {a b c : Int32} {x k : Nat} (h : ¬ (x = 157 ∧ k < 5)) : (ct5 S a b c).1 x k = S.1 x k := by
  unfold ct5
  rw [pI_ne (by omega), pI_ne (by omega), pI_ne (by omega), pI_ne (by omega), pI_ne (by omega)]
theorem ct5_eq {S : fS} {a b c : Int32} : (ct5 S a b c).1 157 0 = a ∧ (ct5 S a b c).1 157 1 = b ∧ (ct5 S a b c).1 157 2 = c ∧ (ct5 S a b c).1 157 3 = 0 ∧ (ct5 S a b c).1 157 4 = 0 := by
  unfold ct5
  refine ⟨?_, ?_, ?_, ?_, ?_⟩
  · rw [pI_ne (by omega), pI_ne (by omega), pI_ne (by omega), pI_ne (by omega), pI_eq]
  · rw [pI_ne (by omega), pI_ne (by omega), pI_ne (by omega), pI_eq]
  · rw [pI_ne (by omega), pI_ne (by omega), pI_eq]
  · rw [pI_ne (by omega), pI_eq]
  · rw [pI_eq]
theorem m_tower {S : fS} {n : Nat} (hn : S.1 145 1 = o3 n) (hl : n ≤ 400) (hb : ∀ k, byt (S.1 146 k)) : ∃ Y, f_X11_tower S = some (if (tw0 (S.1 146) n).1 = 0 then o3 (tw0 (S.1 146) n).2.1.length else -2 - o3 (tw0 (S.1 146) n).1, Y) ∧ Y.1 145 1 = 0 ∧ (∀ a k, ¬ wT a k → Y.1 a k = S.1 a k) ∧ (∀ a k, a ≠ 158 → a ≠ 161 → Y.2 a k = S.2 a k) ∧ (¬ (tw0 (S.1 146) n).1 = 0 → (∀ k, Y.1 157 k = S.1 157 k) ∧ Y.2 = S.2) ∧ ((tw0 (S.1 146) n).1 = 0 → twM (Y.1 157) (tw0 (S.1 146) n).2.1 (tw0 (S.1 146) n).2.2.1 ∧ cwM0 (Y.1 157) (Y.2 158) (tw0 (S.1 146) n).2.2.2 ∧ Y.1 157 4 = 0 ∧ rH Y (dst (tw0 (S.1 146) n).2.2.1)) := by
  unfold f_X11_tower
  rw [bd_some, bd_some, bd_some, bd_some]
  generalize hX : pI (pI (pI (pI S 145 16 6) 145 7 0) 145 8 0) 145 9 0 = X
  have xe : ∀ a k, ¬ (a = 145 ∧ (k = 16 ∨ k = 7 ∨ k = 8 ∨ k = 9)) → X.1 a k = S.1 a k := fun a k h => by rw [← hX, pI_ne (by omega), pI_ne (by omega), pI_ne (by omega), pI_ne (by omega)]
  have x2 : X.2 = S.2 := by rw [← hX]; rfl
  have xt : X.1 146 = S.1 146 := funext fun k => xe 146 k (by omega)
  obtain ⟨Y1, e1, y1, y2, y3, y4⟩ := m_reads (S := X) (n := n) (by rw [xe 145 1 (by omega)]; exact hn) hl (by rw [xt]; exact hb) (by rw [← hX, pI_ne (by omega), pI_ne (by omega), pI_ne (by omega), pI_eq]) (by rw [← hX, pI_ne (by omega), pI_ne (by omega), pI_eq]) (by rw [← hX, pI_ne (by omega), pI_eq]) (by rw [← hX, pI_eq])
  rw [xt] at e1 y2 y3
  rw [e1, bd_some]
  dsimp only
  have fr1 : ∀ a k, ¬ wT a k → Y1.1 a k = S.1 a k := fun a k h => by
    rw [y4.1 a k (fun q => h (Or.inl q)), xe a k (fun q => h (by unfold wT wR; omega))]
  have y157 : ∀ k, Y1.1 157 k = S.1 157 k := fun k => by rw [y4.1 157 k (by unfold wR; omega), xe 157 k (by omega)]
  have yL : Y1.2 = S.2 := y4.2.trans x2
  by_cases hz : (tw0 (S.1 146) n).1 = 0
  · have hok := tw0_ok hz
    have hB := y2 hz
    rw [if_pos hz, if_pos hz, if_neg (show ¬ (1 : Int32) = 0 by decide)]
    generalize hR : tw0 (S.1 146) n = R at hz hok hB
    obtain ⟨o1, o2, o3', -, o5, -⟩ := hok
    rw [show (0 : Int32) = o3 0 from rfl, show (1 : Int32) = o3 1 from rfl, show (2 : Int32) = o3 2 from rfl, show (3 : Int32) = o3 3 from rfl, show (4 : Int32) = o3 4 from rfl]
    rw [sI_o (by omega) (by omega), bd_some, sI_o (by omega) (by omega), bd_some, sI_o (by omega) (by omega), bd_some, sI_o (by omega) (by omega), bd_some, sI_o (by omega) (by omega), bd_some]
    rw [pI_ne (a := 157) (b := 145) (by omega), pI_ne (a := 157) (b := 145) (by omega), pI_ne (a := 157) (b := 145) (by omega), hB.1, hB.2.1, hB.2.2.1]
    have hC : pI (pI (pI (pI (pI Y1 157 0 (o3 R.2.1.length)) 157 1 (o3 R.2.2.1.length)) 157 2 (o3 R.2.2.2.length)) 157 3 (o3 0)) 157 4 (o3 0) = ct5 Y1 (o3 R.2.1.length) (o3 R.2.2.1.length) (o3 R.2.2.2.length) := rfl
    rw [hC]
    have c5 := ct5_eq (S := Y1) (a := o3 R.2.1.length) (b := o3 R.2.2.1.length) (c := o3 R.2.2.2.length)
    have c5n := fun (x k : Nat) (h : ¬ (x = 157 ∧ k < 5)) => ct5_ne (S := Y1) (a := o3 R.2.1.length) (b := o3 R.2.2.1.length) (c := o3 R.2.2.2.length) h
    have c52 : (ct5 Y1 (o3 R.2.1.length) (o3 R.2.2.1.length) (o3 R.2.2.2.length)).2 = Y1.2 := rfl
    generalize ct5 Y1 (o3 R.2.1.length) (o3 R.2.2.1.length) (o3 R.2.2.2.length) = C at c5 c5n c52
    obtain ⟨S1, a1, a2, a3⟩ := mt_82 (K := fun S39 => lp_X11_tower_115 (fun S48 => lp_X11_tower_148 (fun S60 => (f_X11_spreads S60).bind fun q62 => some ((q62.1 145 7), q62)) FU (o3 0) S48) FU (o3 0) S39) o1 (2 * R.2.1.length) 0 FU C (by omega) (FU_lt (by omega)) (by rw [c5n 145 7 (by omega)]; exact hB.1) (fun j hj => absurd hj (Nat.not_lt_zero _))
    rw [a1]
    have s1n := fun (x k : Nat) (h : ¬ (x = 157 ∧ k < 30)) => (a3.1 x k (by omega)).trans (c5n x k (by omega))
    obtain ⟨S2, b1, b2, b3⟩ := mt_115 (K := fun S48 => lp_X11_tower_148 (fun S60 => (f_X11_spreads S60).bind fun q62 => some ((q62.1 145 7), q62)) FU (o3 0) S48) o2 (5 * R.2.2.1.length) 0 FU S1 (by omega) (FU_lt (by omega)) (by rw [s1n 145 8 (by omega)]; exact hB.2.1) (fun j hj => absurd hj (Nat.not_lt_zero _))
    rw [b1]
    have s2n := fun (x k : Nat) (h : ¬ (x = 157 ∧ k < 90)) => (b3.1 x k (by omega)).trans (s1n x k (by omega))
    obtain ⟨S3, d1, d2, d3, d4⟩ := mt_148 (K := fun S60 => (f_X11_spreads S60).bind fun q62 => some ((q62.1 145 7), q62)) o3' R.2.2.2.length 0 FU S2 (by omega) (FU_lt (by omega)) (by rw [s2n 145 9 (by omega)]; exact hB.2.2.1) (fun j hj => absurd hj (Nat.not_lt_zero _))
    rw [d1]
    have htw : twM (S3.1 157) R.2.1 R.2.2.1 := by
      refine ⟨?_, ?_, fun k hk => ⟨?_, ?_⟩, fun k hk => ⟨?_, ?_, ?_, ?_, ?_⟩⟩
      · rw [d3 157 0 (by omega), b3.1 157 0 (by omega), a3.1 157 0 (by omega)]; exact c5.1
      · rw [d3 157 1 (by omega), b3.1 157 1 (by omega), a3.1 157 1 (by omega)]; exact c5.2.1
      · rw [d3 157 _ (by omega), b3.1 157 _ (by omega), a2 (2 * k) (by omega), c5n 151 _ (by omega)]; exact (hB.2.2.2.1 k hk).1
      · rw [d3 157 _ (by omega), b3.1 157 _ (by omega), show 10 + 2 * k + 1 = 10 + (2 * k + 1) by omega, a2 (2 * k + 1) (by omega), c5n 151 _ (by omega)]; exact (hB.2.2.2.1 k hk).2
      · rw [d3 157 _ (by omega), b2 (5 * k) (by omega), s1n 152 _ (by omega)]; exact (hB.2.2.2.2.1 k hk).1
      · rw [d3 157 _ (by omega), show 30 + 5 * k + 1 = 30 + (5 * k + 1) by omega, b2 _ (by omega), s1n 152 _ (by omega)]; exact (hB.2.2.2.2.1 k hk).2.1
      · rw [d3 157 _ (by omega), show 30 + 5 * k + 2 = 30 + (5 * k + 2) by omega, b2 _ (by omega), s1n 152 _ (by omega)]; exact (hB.2.2.2.2.1 k hk).2.2.1
      · rw [d3 157 _ (by omega), show 30 + 5 * k + 3 = 30 + (5 * k + 3) by omega, b2 _ (by omega), s1n 152 _ (by omega)]; exact (hB.2.2.2.2.1 k hk).2.2.2.1
      · rw [d3 157 _ (by omega), show 30 + 5 * k + 4 = 30 + (5 * k + 4) by omega, b2 _ (by omega), s1n 152 _ (by omega)]; exact (hB.2.2.2.2.1 k hk).2.2.2.2
    obtain ⟨Z, z1, z2, z3⟩ := m_spreads htw o1 o2 o5
    rw [z1, bd_some]
    have zn := fun (x k : Nat) (h : ¬ (x = 157 ∧ k < 122)) => (congrFun (congrFun z3.1 x) k).trans ((d3 x k (by omega)).trans (s2n x k (by omega)))
    refine ⟨Z, ?_, ?_, fun a k h => ?_, fun a k h1 h2 => ?_, fun q => absurd hz q, fun _ => ⟨by rw [z3.1]; exact htw, ⟨?_, ?_, fun k hk => ?_⟩, ?_, z2⟩⟩
    · rw [zn 145 7 (by omega), hB.1]
    · rw [zn 145 1 (by omega)]; exact y1
    · by_cases ha : a = 157 ∧ k < 122
      · have hk : 5 ≤ k ∧ k < 10 := by
          unfold wT at h
          omega
        rw [z3.1, d3 a k (by omega), b3.1 a k (by omega), a3.1 a k (by omega), c5n a k (by omega)]
        exact fr1 a k h
      · rw [zn a k ha]; exact fr1 a k h
    · rw [z3.2 a k h2, d4 a k h1, b3.2, a3.2, c52, yL]
    · rw [z3.1, d3 157 2 (by omega), b3.1 157 2 (by omega), a3.1 157 2 (by omega)]; exact c5.2.2.1
    · rw [z3.1, d3 157 3 (by omega), b3.1 157 3 (by omega), a3.1 157 3 (by omega)]; exact c5.2.2.2.1
    · have q := d2 k hk
      rw [s2n 153 k (by omega), hB.2.2.2.2.2 k hk] at q
      rw [z3.1, z3.2 158 k (by omega)]
      exact q
    · rw [z3.1, d3 157 4 (by omega), b3.1 157 4 (by omega), a3.1 157 4 (by omega)]; exact c5.2.2.2.2
  · rw [if_neg hz, if_neg hz, if_pos (show (0 : Int32) = 0 from rfl), y3 hz]
    exact ⟨Y1, rfl, y1, fr1, fun a k _ _ => by rw [yL], fun _ => ⟨y157, yL⟩, fun q => absurd q hz⟩
end
