section
theorem sp_162 {K : fS → Option fS} {w : Mx} {p a : Nat} (hz : z0 w) (h9 : le9 w) (hp : p < 10) (ha : a < 10) : ∀ d b m (S : fS), b + d = 10 → d < m → rH S (mid w p a b) → ∃ S', lp_X11_spreads_162 (o3 p) (o3 a) K m (o3 b) S = K S' ∧ rH S' (mid w p a 10) ∧ eL S S' := by
  intro d
  induction d with
  | zero =>
    intro b m S hb hm hw
    obtain ⟨m, rfl⟩ : ∃ m', m = m' + 1 := ⟨m - 1, by omega⟩
    rw [lp_X11_spreads_162.eq_2, if_pos (show (10 : Int32) ≤ o3 _ from (o3_le (a := 10) (by omega) (by omega)).mpr (by omega))]
    rw [show b = 10 by omega] at hw
    exact ⟨S, rfl, hw, eL.rf⟩
  | succ d ih =>
    intro b m S hb hm hw
    obtain ⟨m, rfl⟩ : ∃ m', m = m' + 1 := ⟨m - 1, by omega⟩
    have w9 := h9 a b
    have z1 := h9 a p
    have z2 := h9 p b
    have hmid : mid w p a b a b = w a b := by unfold mid; rw [if_neg (by omega)]
    rw [lp_X11_spreads_162.eq_2, if_neg (show ¬ (10 : Int32) ≤ o3 _ from fun q => by have := (o3_le (a := 10) (by omega) (by omega)).mp q; omega)]
    rw [ix10, ix10, ix10, gL_o (by omega) (by omega), bd_some, gL_o (by omega) (by omega), bd_some, gL_o (by omega) (by omega), bd_some, hw a p ha hp, hw p b hp (by omega), hw a b ha (by omega), mid_row hz, mid_col hz, hmid, o6_add, o3_s]
    by_cases hle : w a b ≤ w a p + w p b
    · rw [if_pos ((o6_le (by omega) (by omega)).mpr hle)]
      refine ih (b + 1) m S (by omega) (by omega) (rH_cg hw (fun x y _ _ => ?_))
      rw [mid_s]
      show (if x = a ∧ y = b then ph p w a b else mid w p a b x y) = _
      by_cases hc : x = a ∧ y = b
      · rw [if_pos hc, hc.1, hc.2, hmid]
        unfold ph
        omega
      · rw [if_neg hc]
    · rw [if_neg (fun q => hle ((o6_le (by omega) (by omega)).mp q)), bd_some, bd_some, o6_add, sL_o (by omega) (by omega), bd_some]
      obtain ⟨S', e1, e2, e3⟩ := ih (b + 1) m (pL S 161 (10 * a + b) (o6 (w a p + w p b))) (by omega) (by omega) (rH_cg (rH_set' (by omega) hw) (fun x y _ _ => by
        rw [mid_s]
        show (if x = a ∧ y = b then ph p w a b else mid w p a b x y) = (if x = a ∧ y = b then w a p + w p b else mid w p a b x y)
        by_cases hc : x = a ∧ y = b
        · rw [if_pos hc, if_pos hc]
          unfold ph
          omega
        · rw [if_neg hc, if_neg hc]))
      exact ⟨S', e1, e2, eL_pL.tr e3⟩
theorem sp_154 {K : fS → Option fS} {w : Mx} {p : Nat} (hz : z0 w) (h9 : le9 w) (hp : p < 10) : ∀ d a m (S : fS), a + d = 10 → d < m → rH S (mid w p a 0) → ∃ S', lp_X11_spreads_154 (o3 p) K m (o3 a) S = K S' ∧ rH S' (ph p w) ∧ eL S S' := by
  intro d
  induction d with
  | zero =>
    intro a m S ha hm hw
    obtain ⟨m, rfl⟩ : ∃ m', m = m' + 1 := ⟨m - 1, by omega⟩
    rw [lp_X11_spreads_154.eq_2, if_pos (show (10 : Int32) ≤ o3 _ from (o3_le (a := 10) (by omega) (by omega)).mpr (by omega))]
    refine ⟨S, rfl, rH_cg hw (fun x y hx _ => ?_), eL.rf⟩
    unfold mid
    rw [if_pos (by omega)]
  | succ d ih =>
    intro a m S ha hm hw
    obtain ⟨m, rfl⟩ : ∃ m', m = m' + 1 := ⟨m - 1, by omega⟩
    rw [lp_X11_spreads_154.eq_2, if_neg (show ¬ (10 : Int32) ≤ o3 _ from fun q => by have := (o3_le (a := 10) (by omega) (by omega)).mp q; omega)]
    obtain ⟨S1, g1, g2, g3⟩ := sp_162 (K := fun S67 => lp_X11_spreads_154 (o3 p) K m (o3 a + (1 : Int32)) S67) hz h9 hp (a := a) (by omega) 10 0 FU S (by omega) (FU_lt (by omega)) hw
    rw [show (0 : Int32) = o3 0 from rfl, g1, o3_s]
    obtain ⟨S2, k1, k2, k3⟩ := ih (a + 1) m S1 (by omega) (by omega) (rH_cg g2 (fun x y hx hy => by
      unfold mid
      by_cases hc : x < a ∨ (x = a ∧ y < 10)
      · rw [if_pos hc, if_pos (by omega)]
      · rw [if_neg hc, if_neg (by omega)]))
    exact ⟨S2, k1, k2, g3.tr k3⟩
theorem sp_146 {K : fS → Option fS} {w0 : Mx} (hz : z0 w0) (h9 : le9 w0) : ∀ d p m (S : fS), p + d = 10 → d < m → rH S (phs w0 p) → ∃ S', lp_X11_spreads_146 K m (o3 p) S = K S' ∧ rH S' (phs w0 10) ∧ eL S S' := by
  intro d
  induction d with
  | zero =>
    intro p m S hp hm hw
    obtain ⟨m, rfl⟩ : ∃ m', m = m' + 1 := ⟨m - 1, by omega⟩
    rw [lp_X11_spreads_146.eq_2, if_pos (show (10 : Int32) ≤ o3 _ from (o3_le (a := 10) (by omega) (by omega)).mpr (by omega))]
    rw [show p = 10 by omega] at hw
    exact ⟨S, rfl, hw, eL.rf⟩
  | succ d ih =>
    intro p m S hp hm hw
    obtain ⟨m, rfl⟩ : ∃ m', m = m' + 1 := ⟨m - 1, by omega⟩
    rw [lp_X11_spreads_146.eq_2, if_neg (show ¬ (10 : Int32) ≤ o3 _ from fun q => by have := (o3_le (a := 10) (by omega) (by omega)).mp q; omega)]
    obtain ⟨S1, g1, g2, g3⟩ := sp_154 (K := fun S69 => lp_X11_spreads_146 K m (o3 p + (1 : Int32)) S69) (phs_z hz p) (phs_9 h9 p) (p := p) (by omega) 10 0 FU S (by omega) (FU_lt (by omega)) (rH_cg hw (fun x y _ _ => by
      unfold mid
      rw [if_neg (by omega)]))
    rw [show (0 : Int32) = o3 0 from rfl, g1, o3_s]
    obtain ⟨S2, k1, k2, k3⟩ := ih (p + 1) m S1 (by omega) (by omega) g2
    exact ⟨S2, k1, k2, g3.tr k3⟩
theorem m_spreads {S : fS} {F : List (Nat × Nat)} {E : List (Nat × Nat × Nat × Nat × Nat)} (ht : twM (S.1 157) F E) (hF : F.length ≤ 10) (hE : E.length ≤ 12) (hq : ∀ q ∈ E, okS F.length q) : ∃ Y, f_X11_spreads S = some Y ∧ rH Y (dst E) ∧ eL S Y := by
  unfold f_X11_spreads
  obtain ⟨S1, a1, a2, a3⟩ := sp_2 (K := fun S12 => lp_X11_spreads_53 (fun S43 => lp_X11_spreads_146 (fun S71 => some S71) FU (0 : Int32) S43) FU (0 : Int32) S12) 10 0 FU S (by omega) (FU_lt (by omega)) (fun c e _ hc => absurd hc (Nat.not_lt_zero _))
  obtain ⟨S2, b1, b2, b3⟩ := sp_53 (F := F) (K := fun S43 => lp_X11_spreads_146 (fun S71 => some S71) FU (0 : Int32) S43) (fun q h => okS_mo hF (hq q h)) hE E.length 0 FU S1 (by omega) (FU_lt (by omega)) (by rw [a3.1]; exact ht) (by rw [List.take_zero]; exact a2)
  obtain ⟨S3, c1, c2, c3⟩ := sp_146 (K := fun S71 => some S71) (fold_z E wI wI_z) (fold_9 E wI wI_9) 10 0 FU S2 (by omega) (FU_lt (by omega)) b2
  refine ⟨S3, ?_, c2, a3.tr (b3.tr c3)⟩
  rw [show (0 : Int32) = o3 0 from rfl] at a1 b1 ⊢
  rw [a1, b1, c1]
end
