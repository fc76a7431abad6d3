section
/-! the reference measures the ways -/
def rH (S : fS) (w : Mx) : Prop := ∀ a b, a < 10 → b < 10 → S.2 161 (10 * a + b) = o6 (w a b)
def eL (S T : fS) : Prop := T.1 = S.1 ∧ ∀ a k, a ≠ 161 → T.2 a k = S.2 a k
theorem eL.rf {S : fS} : eL S S := ⟨rfl, fun _ _ _ => rfl⟩
theorem eL.tr {S T U : fS} (h : eL S T) (g : eL T U) : eL S U := ⟨g.1.trans h.1, fun a k n => (g.2 a k n).trans (h.2 a k n)⟩
theorem eL_pL {S : fS} {k : Nat} {x : Int64} : eL S (pL S 161 k x) := ⟨rfl, fun a j h => pL_ne (fun q => h q.1)⟩
theorem rH_cg {S : fS} {w v : Mx} (h : rH S w) (e : ∀ a b, a < 10 → b < 10 → v a b = w a b) : rH S v := fun a b ha hb => by rw [e a b ha hb]; exact h a b ha hb
theorem rH_set {S : fS} {w : Mx} {a b x : Nat} (hw : rH S w) : rH (pL S 161 (10 * a + b) (o6 x)) (fun c d => if c = a ∧ d = b then x else w c d) ∨ 10 ≤ b := by
  by_cases hb : b < 10
  · refine Or.inl fun c d hc hd => ?_
    rw [pL_get]
    by_cases h : c = a ∧ d = b
    · rw [if_pos ⟨rfl, by omega⟩]
      show _ = o6 (if c = a ∧ d = b then x else w c d)
      rw [if_pos h]
    · rw [if_neg (fun q => h ⟨by omega, by omega⟩)]
      show _ = o6 (if c = a ∧ d = b then x else w c d)
      rw [if_neg h]
      exact hw c d hc hd
  · exact Or.inr (by omega)
theorem rH_set' {S : fS} {w : Mx} {a b x : Nat} (hb : b < 10) (hw : rH S w) : rH (pL S 161 (10 * a + b) (o6 x)) (fun c d => if c = a ∧ d = b then x else w c d) := (rH_set hw).resolve_right (by omega)
theorem ix10 {a b : Nat} : ((10 : Int32) * o3 a + o3 b) = o3 (10 * a + b) := by
  rw [show (10 : Int32) = o3 10 from rfl, o3_mul, o3_add]
theorem sp_10 {K : fS → Option fS} {a : Nat} (ha : a < 10) : ∀ d b m (S : fS), b + d = 10 → d < m → (∀ c e, e < 10 → (c < a ∨ (c = a ∧ e < b)) → S.2 161 (10 * c + e) = o6 (wI c e)) → ∃ S', lp_X11_spreads_10 (o3 a) K m (o3 b) S = K S' ∧ (∀ c e, e < 10 → c < a + 1 → S'.2 161 (10 * c + e) = o6 (wI c e)) ∧ eL S S' := by
  intro d
  induction d with
  | zero =>
    intro b m S hb hm h
    obtain ⟨m, rfl⟩ : ∃ m', m = m' + 1 := ⟨m - 1, by omega⟩
    rw [lp_X11_spreads_10.eq_2, if_pos (show (10 : Int32) ≤ o3 _ from (o3_le (a := 10) (by omega) (by omega)).mpr (by omega))]
    exact ⟨S, rfl, fun c e he hc => h c e he (by omega), eL.rf⟩
  | succ d ih =>
    intro b m S hb hm h
    obtain ⟨m, rfl⟩ : ∃ m', m = m' + 1 := ⟨m - 1, by omega⟩
    rw [lp_X11_spreads_10.eq_2, if_neg (show ¬ (10 : Int32) ≤ o3 _ from fun q => by have := (o3_le (a := 10) (by omega) (by omega)).mp q; omega), ix10, o3_s]
    have go : ∀ x, x = wI a b → ∃ S', lp_X11_spreads_10 (o3 a) K m (o3 (b + 1)) (pL S 161 (10 * a + b) (o6 x)) = K S' ∧ (∀ c e, e < 10 → c < a + 1 → S'.2 161 (10 * c + e) = o6 (wI c e)) ∧ eL S S' := by
      intro x hx
      obtain ⟨S', e1, e2, e3⟩ := ih (b + 1) m (pL S 161 (10 * a + b) (o6 x)) (by omega) (by omega) (fun c e he hc => by
        by_cases hq : c = a ∧ e = b
        · rw [hq.1, hq.2, pL_eq, hx]
        · rw [pL_ne (by omega)]
          exact h c e he (by omega))
      exact ⟨S', e1, e2, eL_pL.tr e3⟩
    by_cases hab : a = b
    · rw [if_pos (by rw [hab]), show (0 : Int64) = o6 0 from rfl, sL_o (by omega) (by omega), bd_some]
      exact go 0 (by unfold wI; rw [if_pos hab])
    · rw [if_neg (fun q => hab ((o3_inj (by omega) (by omega)).mp q)), show (99999 : Int64) = o6 99999 from rfl, sL_o (by omega) (by omega), bd_some]
      exact go 99999 (by unfold wI; rw [if_neg hab])
theorem sp_2 {K : fS → Option fS} : ∀ d a m (S : fS), a + d = 10 → d < m → (∀ c e, e < 10 → c < a → S.2 161 (10 * c + e) = o6 (wI c e)) → ∃ S', lp_X11_spreads_2 K m (o3 a) S = K S' ∧ rH S' wI ∧ eL S S' := by
  intro d
  induction d with
  | zero =>
    intro a m S ha hm h
    obtain ⟨m, rfl⟩ : ∃ m', m = m' + 1 := ⟨m - 1, by omega⟩
    rw [lp_X11_spreads_2.eq_2, if_pos (show (10 : Int32) ≤ o3 _ from (o3_le (a := 10) (by omega) (by omega)).mpr (by omega))]
    exact ⟨S, rfl, fun c e hc he => h c e he (by omega), eL.rf⟩
  | succ d ih =>
    intro a m S ha hm h
    obtain ⟨m, rfl⟩ : ∃ m', m = m' + 1 := ⟨m - 1, by omega⟩
    rw [lp_X11_spreads_2.eq_2, if_neg (show ¬ (10 : Int32) ≤ o3 _ from fun q => by have := (o3_le (a := 10) (by omega) (by omega)).mp q; omega)]
    obtain ⟨S1, e1, e2, e3⟩ := sp_10 (K := fun S10 => lp_X11_spreads_2 K m (o3 a + (1 : Int32)) S10) (a := a) (by omega) 10 0 FU S (by omega) (FU_lt (by omega)) (fun c e he hc => h c e he (by omega))
    rw [show (0 : Int32) = o3 0 from rfl, e1, o3_s]
    obtain ⟨S2, g1, g2, g3⟩ := ih (a + 1) m S1 (by omega) (by omega) e2
    exact ⟨S2, g1, g2, e3.tr g3⟩
/-- floors and stairs as the reference holds them -/
def twM (I : Nat → Int32) (F : List (Nat × Nat)) (E : List (Nat × Nat × Nat × Nat × Nat)) : Prop := I 0 = o3 F.length ∧ I 1 = o3 E.length ∧ (∀ k, k < F.length → I (10 + 2 * k) = o3 (F.getD k (0, 0)).1 ∧ I (10 + 2 * k + 1) = o3 (F.getD k (0, 0)).2) ∧ (∀ k, k < E.length → I (30 + 5 * k) = o3 (E.getD k d5).1 ∧ I (30 + 5 * k + 1) = o3 (E.getD k d5).2.1 ∧ I (30 + 5 * k + 2) = o3 (E.getD k d5).2.2.1 ∧ I (30 + 5 * k + 3) = o3 (E.getD k d5).2.2.2.1 ∧ I (30 + 5 * k + 4) = o3 (E.getD k d5).2.2.2.2)
theorem m_stairOf {S : fS} {s k : Nat} (hs : s < 12) (hk : k < 5) : f_X11_stairOf (o3 s) (o3 k) S = some (S.1 157 (30 + 5 * s + k)) := by
  unfold f_X11_stairOf
  rw [show (30 : Int32) = o3 30 from rfl, show (5 : Int32) = o3 5 from rfl, o3_mul, o3_add, o3_add, gI_o (by omega) (by omega), bd_some]
def sy (w : Mx) : Prop := ∀ a b, w a b = w b a
theorem sy_I : sy wI := by
  intro a b
  unfold wI
  by_cases h : a = b
  · rw [if_pos h, if_pos h.symm]
  · rw [if_neg h, if_neg (fun q => h q.symm)]
theorem sy_1 {w : Mx} {q : Nat × Nat × Nat × Nat × Nat} (h : sy w) : sy (wS1 w q) := by
  intro a b
  have := h a b
  unfold wS1
  by_cases hc : (a = q.1 ∧ b = q.2.1) ∨ (a = q.2.1 ∧ b = q.1)
  · rw [if_pos hc, if_pos (by omega), this]
  · rw [if_neg hc, if_neg (by omega), this]
theorem sy_f : ∀ (E : List (Nat × Nat × Nat × Nat × Nat)) (w : Mx), sy w → sy (E.foldl wS1 w) := by
  intro E
  induction E with
  | nil => intro w h; exact h
  | cons q E ih => intro w h; exact ih _ (sy_1 h)
theorem sp_53 {K : fS → Option fS} {F : List (Nat × Nat)} {E : List (Nat × Nat × Nat × Nat × Nat)} (hE : ∀ q ∈ E, okS 10 q) (hl : E.length ≤ 12) : ∀ d k m (S : fS), k + d = E.length → d < m → twM (S.1 157) F E → rH S ((E.take k).foldl wS1 wI) → ∃ S', lp_X11_spreads_53 K m (o3 k) S = K S' ∧ rH S' (wSt E) ∧ eL S S' := by
  intro d
  induction d with
  | zero =>
    intro k m S hk hm ht hw
    obtain ⟨m, rfl⟩ : ∃ m', m = m' + 1 := ⟨m - 1, by omega⟩
    rw [lp_X11_spreads_53.eq_2, show (1 : Int32) = o3 1 from rfl, gI_o (by omega) (by omega), bd_some, ht.2.1, if_pos ((o3_le (by omega) (by omega)).mpr (by omega))]
    refine ⟨S, rfl, ?_, eL.rf⟩
    rw [show k = E.length by omega, List.take_length] at hw
    exact hw
  | succ d ih =>
    intro k m S hk hm ht hw
    obtain ⟨m, rfl⟩ : ∃ m', m = m' + 1 := ⟨m - 1, by omega⟩
    have hk2 : k < E.length := by omega
    obtain ⟨s1, s2, s3, s4, s5, -⟩ := hE _ (gd_mem (d := d5) hk2)
    have h9 : le9 ((E.take k).foldl wS1 wI) := fold_9 _ _ wI_9
    have hsy : sy ((E.take k).foldl wS1 wI) := sy_f _ _ sy_I
    obtain ⟨r1, r2, r3, -⟩ := ht.2.2.2 k hk2
    rw [lp_X11_spreads_53.eq_2, show (1 : Int32) = o3 1 from rfl, gI_o (by omega) (by omega), bd_some, ht.2.1, if_neg (fun q => by have := (o3_le (by omega) (by omega)).mp q; omega)]
    rw [show (0 : Int32) = o3 0 from rfl, show (2 : Int32) = o3 2 from rfl, m_stairOf (by omega) (by omega), bd_some, m_stairOf (by omega) (by omega), bd_some, m_stairOf (by omega) (by omega), bd_some, Nat.add_zero, r1, r2, r3, ix10, ix10, gL_o (by omega) (by omega), bd_some, hw _ _ s1 s2, o6_of3 (by omega), o3_add]
    have w9 := h9 (E.getD k d5).1 (E.getD k d5).2.1
    have wsy := hsy (E.getD k d5).1 (E.getD k d5).2.1
    have ihk : ∀ (T : fS), eL S T → rH T (wS1 ((E.take k).foldl wS1 wI) (E.getD k d5)) → ∃ S', lp_X11_spreads_53 K m (o3 (k + 1)) T = K S' ∧ rH S' (wSt E) ∧ eL S S' := by
      intro T hT hr
      obtain ⟨S', e1, e2, e3⟩ := ih (k + 1) m T (by omega) (by omega) (by rw [hT.1]; exact ht) (by rw [fl_take (d := d5) hk2]; exact hr)
      exact ⟨S', e1, e2, hT.tr e3⟩
    generalize hv : (E.take k).foldl wS1 wI = v at hw h9 hsy w9 wsy ihk
    by_cases hlt : (E.getD k d5).2.2.1 < v (E.getD k d5).1 (E.getD k d5).2.1
    · rw [if_pos ((o6_lt (by omega) (by omega)).mpr hlt), bd_some, sL_o (by omega) (by omega), bd_some, m_stairOf (by omega) (by omega), pL_1, r3, bd_some, o6_of3 (by omega), sL_o (by omega) (by omega), bd_some]
      refine ihk _ (eL_pL.tr eL_pL) (rH_cg (rH_set' s1 (rH_set' s2 hw)) (fun x y _ _ => ?_))
      unfold wS1
      by_cases c1 : x = (E.getD k d5).2.1 ∧ y = (E.getD k d5).1
      · rw [if_pos c1, if_pos (Or.inr c1), c1.1, c1.2]; omega
      · rw [if_neg c1]
        show _ = (if x = (E.getD k d5).1 ∧ y = (E.getD k d5).2.1 then _ else _)
        by_cases c2 : x = (E.getD k d5).1 ∧ y = (E.getD k d5).2.1
        · rw [if_pos c2, if_pos (Or.inl c2), c2.1, c2.2]; omega
        · rw [if_neg c2, if_neg (fun q => q.elim c2 c1)]
    · rw [if_neg (fun q => hlt ((o6_lt (by omega) (by omega)).mp q))]
      refine ihk _ eL.rf (rH_cg hw (fun x y _ _ => ?_))
      unfold wS1
      by_cases c1 : (x = (E.getD k d5).1 ∧ y = (E.getD k d5).2.1) ∨ (x = (E.getD k d5).2.1 ∧ y = (E.getD k d5).1)
      · rw [if_pos c1]
        rcases c1 with c1 | c1
        · rw [c1.1, c1.2]; omega
        · rw [c1.1, c1.2]; omega
      · rw [if_neg c1]
end
