section
/-! the class measures the ways -/
theorem o3_div {a b : Nat} (ha : a < 2147483648) (hb : b < 2147483648) : o3 a / o3 b = o3 (a / b) := by
  have h1 : a / b ≤ a := Nat.div_le_self a b
  rw [ni_eq, Int32.toInt_div, o3_int ha, o3_int hb, o3_int (by omega)]
  have e : (a : Int).tdiv (b : Int) = ((a / b : Nat) : Int) := by
    rw [Int.tdiv_eq_ediv_of_nonneg (by omega)]
    exact (Int.natCast_ediv a b).symm
  rw [e]
  clear e
  generalize a / b = q at h1
  exact ni_bm (by omega) (by omega)
theorem o3_ne0 {a : Nat} (ha : a < 2147483648) (h : a ≠ 0) : o3 a ≠ 0 := fun q => h ((o3_inj (b := 0) ha (by omega)).mp q)
theorem o3_dI {a b : Nat} (ha : a < 2147483648) (hb : b < 2147483648) (h : b ≠ 0) : dI (o3 a) (o3 b) = some (o3 (a / b)) := by
  unfold dI
  rw [if_neg (o3_ne0 hb h), o3_div ha hb]
theorem o3_rI {a b : Nat} (ha : a < 2147483648) (hb : b < 2147483648) (h : b ≠ 0) : rI (o3 a) (o3 b) = some (o3 (a % b)) := by
  unfold rI
  have hd : a / b * b ≤ a := Nat.div_mul_le_self a b
  have hm : a % b = a - a / b * b := by
    have := Nat.div_add_mod a b
    rw [Nat.mul_comm] at this
    omega
  rw [if_neg (o3_ne0 hb h), o3_div ha hb, o3_mul, o3_sub hd, hm]
def cwv (m : Nat) : Int32 := if m = 99999 then -1 else o3 m
def rW (S : fS) (r : Nat) (w : Mx) : Prop := ∀ a b, a < 10 → b < 10 → S.1 r (10 * a + b) = cwv (w a b)
/-- all but one row of ints is as it was -/
def eR (r : Nat) (S T : fS) : Prop := (∀ a k, a ≠ r → T.1 a k = S.1 a k) ∧ T.2 = S.2
theorem eR.rf {r : Nat} {S : fS} : eR r S S := ⟨fun _ _ _ => rfl, rfl⟩
theorem eR.tr {r : Nat} {S T U : fS} (h : eR r S T) (g : eR r T U) : eR r S U := ⟨fun a k n => (g.1 a k n).trans (h.1 a k n), g.2.trans h.2⟩
theorem eR_pI {r k : Nat} {S : fS} {x : Int32} : eR r S (pI S r k x) := ⟨fun a j h => by rw [pI_get, if_neg (fun q => h q.1)], rfl⟩
theorem eR_tw {S T : fS} {F : List (Nat × Nat)} {E : List (Nat × Nat × Nat × Nat × Nat)} (h : eR 30 S T) (hw : twC S 24 F E) : twC T 24 F E := by
  obtain ⟨h1, h2, h3, h4⟩ := hw
  refine ⟨by rw [h.1 24 6 (by decide)]; exact h1, by rw [h.1 24 7 (by decide)]; exact h2, fun k hk => by rw [h.2]; exact h3 k hk, fun k hk => ?_⟩
  rw [h.1 (24 + 2) k (by decide), h.1 (24 + 3) k (by decide), h.1 (24 + 4) k (by decide), h.2]
  exact h4 k hk
def wm (w : Mx) (a b h : Nat) : Mx := fun x y => if x = a ∧ y = b then min (w x y) h else w x y
theorem cw_hb {S : fS} {v a b : Nat} (ha : a < 10) (hb : b < 10) : f_X8_hoursBetween v (o3 a) (o3 b) S = some (S.1 (v + 6) (10 * a + b)) := by
  unfold f_X8_hoursBetween
  rw [show (10 : Int32) = o3 10 from rfl, o3_mul, o3_add, gI_o (by omega) (by omega), bd_some, Nat.mul_comm]
theorem cw_short {S : fS} {w : Mx} {a b h : Nat} (hw : rW S 30 w) (h9 : le9 w) (ha : a < 10) (hb : b < 10) (hh : h < 99999) : ∃ S', f_X8_shorten 24 (o3 a) (o3 b) (o3 h) S = some S' ∧ rW S' 30 (wm w a b h) ∧ eR 30 S S' := by
  have h9 := h9 a b
  have hset : rW (pI S 30 (10 * a + b) (o3 h)) 30 (fun x y => if x = a ∧ y = b then h else w x y) := by
    intro x y hx hy
    rw [pI_get]
    by_cases hc : x = a ∧ y = b
    · rw [if_pos ⟨rfl, by omega⟩]
      show _ = cwv (if x = a ∧ y = b then h else w x y)
      rw [if_pos hc]
      unfold cwv
      rw [if_neg (by omega)]
    · rw [if_neg (fun q => hc ⟨by omega, by omega⟩)]
      show _ = cwv (if x = a ∧ y = b then h else w x y)
      rw [if_neg hc]
      exact hw x y hx hy
  unfold f_X8_shorten
  rw [cw_hb ha hb, bd_some, show S.1 (24 + 6) (10 * a + b) = cwv (w a b) from hw a b ha hb]
  have hidx : (o3 a * 10 + o3 b : Int32) = o3 (10 * a + b) := by
    rw [show (10 : Int32) = o3 10 from rfl, o3_mul, o3_add, Nat.mul_comm]
  rw [hidx, sI_o (by omega) (by omega)]
  by_cases hi : w a b = 99999
  · refine ⟨pI S 30 (10 * a + b) (o3 h), ?_, ?_, eR_pI⟩
    · unfold cwv
      rw [if_pos hi, if_pos (by decide)]
      rfl
    · have e : (fun x y => if x = a ∧ y = b then h else w x y) = wm w a b h := by
        funext x y
        unfold wm
        by_cases hc : x = a ∧ y = b
        · rw [if_pos hc, if_pos hc, hc.1, hc.2]; omega
        · rw [if_neg hc, if_neg hc]
      rw [← e]; exact hset
  · have hcw : cwv (w a b) = o3 (w a b) := if_neg hi
    rw [hcw, if_neg (o3_nn (by omega))]
    by_cases hle : w a b ≤ h
    · refine ⟨S, ?_, ?_, eR.rf⟩
      · rw [if_pos ((o3_le (by omega) (by omega)).mpr hle)]
      · have e : wm w a b h = w := by
          funext x y
          unfold wm
          by_cases hc : x = a ∧ y = b
          · rw [if_pos hc, hc.1, hc.2]; omega
          · rw [if_neg hc]
        rw [e]; exact hw
    · refine ⟨pI S 30 (10 * a + b) (o3 h), ?_, ?_, eR_pI⟩
      · rw [if_neg (fun q => hle ((o3_le (by omega) (by omega)).mp q))]
        rfl
      · have e : (fun x y => if x = a ∧ y = b then h else w x y) = wm w a b h := by
          funext x y
          unfold wm
          by_cases hc : x = a ∧ y = b
          · rw [if_pos hc, if_pos hc, hc.1, hc.2]; omega
          · rw [if_neg hc, if_neg hc]
        rw [← e]; exact hset
theorem cw_init {K : fS → Option fS} : ∀ d k m (S : fS), k + d = 100 → d < m → (∀ j, j < k → S.1 30 j = cwv (wI (j / 10) (j % 10))) → ∃ S', lp_X8_measureWays_2 24 K m (o3 k) S = K S' ∧ rW S' 30 wI ∧ eR 30 S S' := by
  intro d
  induction d with
  | zero =>
    intro k m S hk hm h
    obtain ⟨m, rfl⟩ : ∃ m', m = m' + 1 := ⟨m - 1, by omega⟩
    rw [lp_X8_measureWays_2.eq_2, if_pos (show (100 : Int32) ≤ o3 _ from (o3_le (a := 100) (by omega) (by omega)).mpr (by omega))]
    refine ⟨S, rfl, fun a b ha hb => ?_, eR.rf⟩
    rw [h (10 * a + b) (by omega), show (10 * a + b) / 10 = a by omega, show (10 * a + b) % 10 = b by omega]
  | succ d ih =>
    intro k m S hk hm h
    obtain ⟨m, rfl⟩ : ∃ m', m = m' + 1 := ⟨m - 1, by omega⟩
    rw [lp_X8_measureWays_2.eq_2, if_neg (show ¬ (100 : Int32) ≤ o3 _ from fun q => by have := (o3_le (a := 100) (by omega) (by omega)).mp q; omega)]
    rw [show (10 : Int32) = o3 10 from rfl, o3_dI (by omega) (by omega) (by omega), bd_some, o3_rI (by omega) (by omega) (by omega), bd_some, o3_s]
    have hx : ∀ x, x = cwv (wI (k / 10) (k % 10)) → ∃ S', lp_X8_measureWays_2 24 K m (o3 (k + 1)) (pI S (24 + 6) k x) = K S' ∧ rW S' 30 wI ∧ eR 30 S S' := by
      intro x hx
      obtain ⟨S', e1, e2, e3⟩ := ih (k + 1) m (pI S (24 + 6) k x) (by omega) (by omega) (fun j hj => by
        rw [pI_get]
        by_cases hc : j = k
        · rw [if_pos ⟨rfl, hc⟩, hc]; exact hx
        · rw [if_neg (fun q => hc q.2)]; exact h j (by omega))
      exact ⟨S', e1, e2, eR_pI.tr e3⟩
    by_cases hc : k / 10 = k % 10
    · rw [if_pos ((o3_inj (by omega) (by omega)).mpr hc), sI_o (by omega) (by omega), bd_some]
      refine hx 0 ?_
      unfold cwv wI
      rw [if_pos hc]
      rfl
    · rw [if_neg (fun q => hc ((o3_inj (by omega) (by omega)).mp q)), sI_o (by omega) (by omega), bd_some]
      refine hx (-1) ?_
      unfold cwv wI
      rw [if_neg hc]
      rfl
theorem gd_mem {α : Type} {l : List α} {d : α} {k : Nat} (h : k < l.length) : l.getD k d ∈ l := by
  rw [List.getD_eq_getElem?_getD, List.getElem?_eq_getElem h]
  exact List.getElem_mem h
theorem fl_take {α β : Type} {f : β → α → β} {l : List α} {w : β} {d : α} {k : Nat} (h : k < l.length) : (l.take (k + 1)).foldl f w = f ((l.take k).foldl f w) (l.getD k d) := by
  rw [List.take_succ_eq_append_getElem h, List.foldl_append]
  rw [List.getD_eq_getElem?_getD, List.getElem?_eq_getElem h]
  rfl
theorem cw_stairs {K : fS → Option fS} {F : List (Nat × Nat)} {E : List (Nat × Nat × Nat × Nat × Nat)} (hE : ∀ q ∈ E, okS 10 q) (hl : E.length ≤ 12) : ∀ d k m (S : fS), k + d = E.length → d < m → twC S 24 F E → rW S 30 ((E.take k).foldl wS1 wI) → ∃ S', lp_X8_measureWays_38 24 K m (o3 k) S = K S' ∧ rW S' 30 (wSt E) ∧ eR 30 S S' := by
  intro d
  induction d with
  | zero =>
    intro k m S hk hm ht hw
    obtain ⟨m, rfl⟩ : ∃ m', m = m' + 1 := ⟨m - 1, by omega⟩
    rw [lp_X8_measureWays_38.eq_2, ht.2.1, if_pos ((o3_le (by omega) (by omega)).mpr (by omega))]
    refine ⟨S, rfl, ?_, eR.rf⟩
    rw [show k = E.length by omega, List.take_length] at hw
    exact hw
  | succ d ih =>
    intro k m S hk hm ht hw
    obtain ⟨m, rfl⟩ : ∃ m', m = m' + 1 := ⟨m - 1, by omega⟩
    have hk2 : k < E.length := by omega
    obtain ⟨s1, s2, s3, s4, s5, -⟩ := hE _ (gd_mem (d := d5) hk2)
    have h9 : le9 ((E.take k).foldl wS1 wI) := fold_9 _ _ wI_9
    obtain ⟨r1, r2, r3, -⟩ := ht.2.2.2 k hk2
    rw [lp_X8_measureWays_38.eq_2, ht.2.1, if_neg (fun q => by have := (o3_le (by omega) (by omega)).mp q; omega)]
    rw [gI_o (by omega) (by omega), bd_some, gI_o (by omega) (by omega), bd_some, gI_o (by omega) (by omega), bd_some, r1, r2, r3]
    obtain ⟨S1, e1, w1, f1⟩ := cw_short hw h9 s1 s2 (h := (E.getD k d5).2.2.1) (by omega)
    have ht1 := eR_tw f1 ht
    obtain ⟨q1, q2, q3, -⟩ := ht1.2.2.2 k hk2
    rw [e1, bd_some, gI_o (by omega) (by omega), bd_some, gI_o (by omega) (by omega), bd_some, gI_o (by omega) (by omega), bd_some, q1, q2, q3]
    have h92 : le9 (wm ((E.take k).foldl wS1 wI) (E.getD k d5).1 (E.getD k d5).2.1 (E.getD k d5).2.2.1) := by
      intro x y
      have := h9 x y
      unfold wm
      split
      · omega
      · exact this
    obtain ⟨S2, e2, w2, f2⟩ := cw_short w1 h92 s2 s1 (h := (E.getD k d5).2.2.1) (by omega)
    rw [e2, bd_some, o3_s]
    obtain ⟨S3, e3, w3, f3⟩ := ih (k + 1) m S2 (by omega) (by omega) (eR_tw f2 ht1) (by
      rw [fl_take (d := d5) hk2]
      have e : wm (wm ((E.take k).foldl wS1 wI) (E.getD k d5).1 (E.getD k d5).2.1 (E.getD k d5).2.2.1) (E.getD k d5).2.1 (E.getD k d5).1 (E.getD k d5).2.2.1 = wS1 ((E.take k).foldl wS1 wI) (E.getD k d5) := by
        funext x y
        unfold wm wS1
        by_cases c1 : x = (E.getD k d5).1 ∧ y = (E.getD k d5).2.1
        · rw [if_pos c1, if_pos (Or.inl c1), if_neg (fun q => s3 (c1.1.symm.trans q.1))]
        · rw [if_neg c1]
          by_cases c2 : x = (E.getD k d5).2.1 ∧ y = (E.getD k d5).1
          · rw [if_pos c2, if_pos (Or.inr c2)]
          · rw [if_neg c2, if_neg (fun q => q.elim c1 c2)]
      rw [← e]
      exact w2)
    exact ⟨S3, e3, w3, f1.tr (f2.tr f3)⟩
/-- in the middle of a phase: the places before (a, b) are done -/
def mid (w : Mx) (p a b : Nat) : Mx := fun x y => if x < a ∨ (x = a ∧ y < b) then ph p w x y else w x y
theorem mid_row {w : Mx} {p a b x : Nat} (hz : z0 w) : mid w p a b x p = w x p := by
  have := hz p
  unfold mid ph
  split
  · omega
  · rfl
theorem mid_col {w : Mx} {p a b y : Nat} (hz : z0 w) : mid w p a b p y = w p y := by
  have := hz p
  unfold mid ph
  split
  · omega
  · rfl
theorem mid_9 {w : Mx} {p a b : Nat} (h : le9 w) : le9 (mid w p a b) := by
  intro x y
  have := h x y
  unfold mid ph
  split
  · omega
  · exact this
theorem mid_s {w : Mx} {p a b : Nat} : mid w p a (b + 1) = fun x y => if x = a ∧ y = b then ph p w a b else mid w p a b x y := by
  funext x y
  unfold mid
  by_cases hc : x = a ∧ y = b
  · rw [if_pos hc, if_pos (by omega), hc.1, hc.2]
  · rw [if_neg hc]
    by_cases h2 : x < a ∨ (x = a ∧ y < b)
    · rw [if_pos h2, if_pos (by omega)]
    · rw [if_neg h2, if_neg (by omega)]
theorem rW_cg {S : fS} {r : Nat} {w v : Mx} (h : rW S r w) (e : ∀ a b, a < 10 → b < 10 → v a b = w a b) : rW S r v := fun a b ha hb => by rw [e a b ha hb]; exact h a b ha hb
theorem cw_118 {K : fS → Option fS} {w : Mx} {nf M p a : Nat} (hz : z0 w) (h9 : le9 w) (hM : bd9 M w) (h2M : 2 * M < 99999) (hnf : nf ≤ 10) (hp : p < nf) (ha : a < nf) : ∀ d b m (S : fS), b + d = nf → d < m → S.1 24 6 = o3 nf → rW S 30 (mid w p a b) → ∃ S', lp_X8_measureWays_118 24 (o3 p) (o3 a) K m (o3 b) S = K S' ∧ rW S' 30 (mid w p a nf) ∧ eR 30 S S' := by
  intro d
  induction d with
  | zero =>
    intro b m S hb hm hn hw
    obtain ⟨m, rfl⟩ : ∃ m', m = m' + 1 := ⟨m - 1, by omega⟩
    rw [lp_X8_measureWays_118.eq_2, hn, if_pos ((o3_le (by omega) (by omega)).mpr (by omega))]
    rw [show b = nf by omega] at hw
    exact ⟨S, rfl, hw, eR.rf⟩
  | succ d ih =>
    intro b m S hb hm hn hw
    obtain ⟨m, rfl⟩ : ∃ m', m = m' + 1 := ⟨m - 1, by omega⟩
    have w9 := h9 a b
    have z1 := h9 a p
    have z2 := h9 p b
    rw [lp_X8_measureWays_118.eq_2, hn, if_neg (fun q => by have := (o3_le (by omega) (by omega)).mp q; omega)]
    rw [cw_hb (by omega) (by omega), bd_some, cw_hb (by omega) (by omega), bd_some, hw a p (by omega) (by omega), hw p b (by omega) (by omega), mid_row hz, mid_col hz, o3_s]
    have same : w a p + w p b ≥ 99999 → ∃ S', lp_X8_measureWays_118 24 (o3 p) (o3 a) K m (o3 (b + 1)) S = K S' ∧ rW S' 30 (mid w p a nf) ∧ eR 30 S S' := by
      intro hge
      refine ih (b + 1) m S (by omega) (by omega) hn (rW_cg hw (fun x y _ _ => ?_))
      rw [mid_s]
      by_cases hc : x = a ∧ y = b
      · show (if x = a ∧ y = b then ph p w a b else mid w p a b x y) = _
        rw [if_pos hc, hc.1, hc.2]
        unfold mid ph
        rw [if_neg (by omega)]
        omega
      · show (if x = a ∧ y = b then ph p w a b else mid w p a b x y) = _
        rw [if_neg hc]
    by_cases c1 : w a p = 99999
    · have e1 : cwv (w a p) = -1 := if_pos c1
      rw [e1, if_pos (by decide)]
      exact same (by omega)
    · have e1 : cwv (w a p) = o3 (w a p) := if_neg c1
      rw [e1, if_neg (o3_nn (by omega))]
      by_cases c2 : w p b = 99999
      · have e2 : cwv (w p b) = -1 := if_pos c2
        rw [e2, if_pos (by decide)]
        exact same (by omega)
      · have e2 : cwv (w p b) = o3 (w p b) := if_neg c2
        have m1 := hM a p (by omega)
        have m2 := hM p b (by omega)
        rw [e2, if_neg (o3_nn (by omega)), o3_add]
        obtain ⟨S1, g1, g2, g3⟩ := cw_short hw (mid_9 h9) (a := a) (b := b) (h := w a p + w p b) (by omega) (by omega) (by omega)
        rw [g1, bd_some]
        obtain ⟨S2, k1, k2, k3⟩ := ih (b + 1) m S1 (by omega) (by omega) (by rw [g3.1 24 6 (by decide)]; exact hn) (rW_cg g2 (fun x y _ _ => by
          rw [mid_s]
          show (if x = a ∧ y = b then ph p w a b else mid w p a b x y) = wm (mid w p a b) a b (w a p + w p b) x y
          unfold wm
          by_cases hc : x = a ∧ y = b
          · rw [if_pos hc, if_pos hc, hc.1, hc.2]
            unfold mid ph
            rw [if_neg (by omega)]
          · rw [if_neg hc, if_neg hc]))
        exact ⟨S2, k1, k2, g3.tr k3⟩
theorem cw_108 {K : fS → Option fS} {w : Mx} {nf M p : Nat} (hz : z0 w) (h9 : le9 w) (hM : bd9 M w) (h2M : 2 * M < 99999) (hi : iso nf w) (hnf : nf ≤ 10) (hp : p < nf) : ∀ d a m (S : fS), a + d = nf → d < m → S.1 24 6 = o3 nf → rW S 30 (mid w p a 0) → ∃ S', lp_X8_measureWays_108 24 (o3 p) K m (o3 a) S = K S' ∧ rW S' 30 (ph p w) ∧ eR 30 S S' := by
  intro d
  induction d with
  | zero =>
    intro a m S ha hm hn hw
    obtain ⟨m, rfl⟩ : ∃ m', m = m' + 1 := ⟨m - 1, by omega⟩
    rw [lp_X8_measureWays_108.eq_2, hn, if_pos ((o3_le (by omega) (by omega)).mpr (by omega))]
    refine ⟨S, rfl, rW_cg hw (fun x y _ _ => ?_), eR.rf⟩
    unfold mid
    by_cases hc : x < a ∨ (x = a ∧ y < 0)
    · rw [if_pos hc]
    · rw [if_neg hc]
      by_cases hxy : x = y
      · subst hxy
        have := hz x
        unfold ph
        omega
      · have i1 := iso_p (p := p) h9 hz hi x y hxy (Or.inl (by omega))
        have i2 := hi x y hxy (Or.inl (by omega))
        rw [i1, i2]
  | succ d ih =>
    intro a m S ha hm hn hw
    obtain ⟨m, rfl⟩ : ∃ m', m = m' + 1 := ⟨m - 1, by omega⟩
    rw [lp_X8_measureWays_108.eq_2, hn, if_neg (fun q => by have := (o3_le (by omega) (by omega)).mp q; omega)]
    obtain ⟨S1, g1, g2, g3⟩ := cw_118 (K := fun S58 => lp_X8_measureWays_108 24 (o3 p) K m (o3 a + (1 : Int32)) S58) hz h9 hM h2M hnf hp (a := a) (by omega) nf 0 FU S (by omega) (FU_lt (by omega)) hn hw
    rw [show (0 : Int32) = o3 0 from rfl, g1, o3_s]
    obtain ⟨S2, k1, k2, k3⟩ := ih (a + 1) m S1 (by omega) (by omega) (by rw [g3.1 24 6 (by decide)]; exact hn) (rW_cg g2 (fun x y hx hy => by
      unfold mid
      by_cases hc : x < a ∨ (x = a ∧ y < nf)
      · rw [if_pos hc, if_pos (by omega)]
      · rw [if_neg hc]
        by_cases h3 : x < a + 1 ∨ (x = a + 1 ∧ y < 0)
        · rw [if_pos h3]
          have hxy : x ≠ y := by omega
          rw [iso_p (p := p) h9 hz hi x y hxy (Or.inr (by omega)), hi x y hxy (Or.inr (by omega))]
        · rw [if_neg h3]))
    exact ⟨S2, k1, k2, g3.tr k3⟩
theorem cw_98 {K : fS → Option fS} {w0 : Mx} {nf : Nat} (hz : z0 w0) (h9 : le9 w0) (hM : bd9 9 w0) (hi : iso nf w0) (hnf : nf ≤ 10) : ∀ d p m (S : fS), p + d = nf → d < m → S.1 24 6 = o3 nf → rW S 30 (phs w0 p) → ∃ S', lp_X8_measureWays_98 24 K m (o3 p) S = K S' ∧ rW S' 30 (phs w0 nf) ∧ eR 30 S S' := by
  intro d
  induction d with
  | zero =>
    intro p m S hp hm hn hw
    obtain ⟨m, rfl⟩ : ∃ m', m = m' + 1 := ⟨m - 1, by omega⟩
    rw [lp_X8_measureWays_98.eq_2, hn, if_pos ((o3_le (by omega) (by omega)).mpr (by omega))]
    rw [show p = nf by omega] at hw
    exact ⟨S, rfl, hw, eR.rf⟩
  | succ d ih =>
    intro p m S hp hm hn hw
    obtain ⟨m, rfl⟩ : ∃ m', m = m' + 1 := ⟨m - 1, by omega⟩
    have hiso : ∀ k, iso nf (phs w0 k) := by
      intro k
      induction k with
      | zero => exact hi
      | succ k ihk => exact iso_p (phs_9 h9 k) (phs_z hz k) ihk
    have hb : 2 ^ p * 9 ≤ 4608 := by
      have : 2 ^ p ≤ 2 ^ 9 := Nat.pow_le_pow_right (by decide) (by omega)
      have e : (2 : Nat) ^ 9 = 512 := by decide
      omega
    rw [lp_X8_measureWays_98.eq_2, hn, if_neg (fun q => by have := (o3_le (by omega) (by omega)).mp q; omega)]
    obtain ⟨S1, g1, g2, g3⟩ := cw_108 (K := fun S60 => lp_X8_measureWays_98 24 K m (o3 p + (1 : Int32)) S60) (phs_z hz p) (phs_9 h9 p) (phs_bd hM p) (by omega) (hiso p) hnf (p := p) (by omega) nf 0 FU S (by omega) (FU_lt (by omega)) hn (rW_cg hw (fun x y _ _ => by
      unfold mid
      rw [if_neg (by omega)]))
    rw [show (0 : Int32) = o3 0 from rfl, g1, o3_s]
    obtain ⟨S2, k1, k2, k3⟩ := ih (p + 1) m S1 (by omega) (by omega) (by rw [g3.1 24 6 (by decide)]; exact hn) g2
    exact ⟨S2, k1, k2, g3.tr k3⟩
theorem phs_more {w0 : Mx} {nf : Nat} (hz : z0 w0) (h9 : le9 w0) (hi : iso nf w0) : ∀ d, phs w0 (nf + d) = phs w0 nf := by
  have hiso : ∀ k, iso nf (phs w0 k) := by
    intro k
    induction k with
    | zero => exact hi
    | succ k ihk => exact iso_p (phs_9 h9 k) (phs_z hz k) ihk
  intro d
  induction d with
  | zero => rfl
  | succ d ih =>
    show ph (nf + d) (phs w0 (nf + d)) = _
    rw [ph_id (phs_9 h9 _) (phs_z hz _) (hiso _) (by omega), ih]
theorem cw_all {X : fS} {F : List (Nat × Nat)} {E : List (Nat × Nat × Nat × Nat × Nat)} (ht : twC X 24 F E) (hF : F.length ≤ 10) (hE : E.length ≤ 12) (hq : ∀ q ∈ E, okS F.length q) : ∃ Y, f_X8_measureWays 24 X = some Y ∧ rW Y 30 (dst E) ∧ eR 30 X Y := by
  unfold f_X8_measureWays
  obtain ⟨S1, a1, a2, a3⟩ := cw_init (K := fun S15 => lp_X8_measureWays_38 24 (fun S42 => lp_X8_measureWays_98 24 (fun S62 => some S62) FU (0 : Int32) S42) FU (0 : Int32) S15) 100 0 FU X (by omega) (FU_lt (by omega)) (fun j hj => absurd hj (Nat.not_lt_zero _))
  obtain ⟨S2, b1, b2, b3⟩ := cw_stairs (F := F) (K := fun S42 => lp_X8_measureWays_98 24 (fun S62 => some S62) FU (0 : Int32) S42) (fun q h => okS_mo hF (hq q h)) hE E.length 0 FU S1 (by omega) (FU_lt (by omega)) (eR_tw a3 ht) (by rw [List.take_zero]; exact a2)
  have hz : z0 (wSt E) := fold_z _ _ wI_z
  have h9 : le9 (wSt E) := fold_9 _ _ wI_9
  have hi : iso F.length (wSt E) := iso_S _ _ (fun q h => ⟨(hq q h).1, (hq q h).2.1⟩) iso_I
  obtain ⟨S3, c1, c2, c3⟩ := cw_98 (K := fun S62 => some S62) hz h9 (fold_bd E wI (fun q h => (hq q h).2.2.2.2.1) wI_bd) hi hF F.length 0 FU S2 (by omega) (FU_lt (by omega)) ((eR_tw b3 (eR_tw a3 ht)).1) b2
  refine ⟨S3, ?_, ?_, a3.tr (b3.tr c3)⟩
  · rw [show (0 : Int32) = o3 0 from rfl] at a1 b1 ⊢
    rw [a1, b1, c1]
  · have e : dst E = phs (wSt E) F.length := by
      have := phs_more hz h9 hi (10 - F.length)
      rw [show F.length + (10 - F.length) = 10 by omega] at this
      exact this
    rw [e]; exact c2
end
