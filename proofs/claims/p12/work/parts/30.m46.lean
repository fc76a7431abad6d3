section
/-! the reference: term(), sum(), compare() against the automaton -/
/-- what a piece of the reader leaves: fault F or the place, made and written; and that the automaton goes on alike -/
def pce (t : Nat → Int32) (n x m : Nat) (c : List (Nat × Nat)) (i : Nat) (S T : fS) (F i' m' : Nat) (c' : List (Nat × Nat)) : Prop := eMr x S T ∧ (F = 0 → RQ T x m' c' ∧ i ≤ i' ∧ i' ≤ n ∧ sk t n i' = i' ∧ m' ≤ 60 ∧ c'.length + i ≤ c.length + i')
theorem eMr_1 {x : Nat} {S T : fS} (h : eMr x S T) : T.1 145 1 = S.1 145 1 := h.1 145 1 (by unfold wMr; omega)
theorem eMr_t {x : Nat} {S T : fS} (h : eMr x S T) : T.1 146 = S.1 146 := funext fun k => h.1 146 k (by unfold wMr; omega)
section MT2
variable {t : Nat → Int32} {n x : Nat}
theorem mx_termlp (hl : n ≤ 400) (hx : x < 6) (hb : ∀ k, byt (t k)) {K : fS → Option (Int32 × fS)} : ∀ d i m c (S : fS) (u : Int32) nn, n - i ≤ d → d < nn → S.1 145 1 = o3 n → S.1 146 = t → RQ S x m c → m ≤ 60 → c.length ≤ i → i ≤ n → ∃ F T i' m' c' w' u', lp_X11_term_9 K nn (mS S (o3 i) 0 u) = (if F = 0 then K (mS T (o3 i') 0 u') else some (0, mS T w' (o3 F) u')) ∧ pce t n x m c i S T F i' m' c' ∧ (F = 0 → ¬ (rk t n i' = 9 ∨ rk t n i' = 10) ∧ ∃ e, c' = c ++ e ∧ tyL e) ∧ ∀ cp H, elH H → dep H ≤ 10 → tp 6 H → AR t n cp m c H i = if F = 0 then AR t n cp m' c' H i' else (F, 0, 0, []) := by
  intro d
  induction d with
  | zero =>
    intro i m c S u nn hd hnn hn ht hR hm hc hi
    obtain ⟨nn, rfl⟩ : ∃ k, nn = k + 1 := ⟨nn - 1, by omega⟩
    subst ht
    have hj := sk_le (t := S.1 146) hi
    have hg := sk_ge (t := S.1 146) (n := n) (i := i)
    rw [mt_term1 hn hl hb hi]
    have hr : ¬ (rk (S.1 146) n (sk (S.1 146) n i) = 9 ∨ rk (S.1 146) n (sk (S.1 146) n i) = 10) := fun q => by
      obtain ⟨_, q2⟩ := rk_cs (t := S.1 146) (n := n) (j := sk (S.1 146) n i) (by omega)
      omega
    rw [if_neg hr]
    refine ⟨0, S, sk (S.1 146) n i, m, c, 0, u, rfl, ⟨eMr.rf, fun _ => ⟨hR, hg, hj, sk_id, hm, by omega⟩⟩, fun _ => ⟨hr, [], (List.append_nil c).symm, fun τ => rfl⟩, fun cp H _ _ _ => ?_⟩
    rw [if_pos rfl]
    unfold AR aft
    rw [sk_id]
  | succ d ih =>
    intro i m c S u nn hd hnn hn ht hR hm hc hi
    obtain ⟨nn, rfl⟩ : ∃ k, nn = k + 1 := ⟨nn - 1, by omega⟩
    subst ht
    have hj := sk_le (t := S.1 146) hi
    have hg := sk_ge (t := S.1 146) (n := n) (i := i)
    rw [mt_term1 hn hl hb hi]
    by_cases hr : rk (S.1 146) n (sk (S.1 146) n i) = 9 ∨ rk (S.1 146) n (sk (S.1 146) n i) = 10
    · rw [if_pos hr]
      obtain ⟨_, q2⟩ := rk_cs (t := S.1 146) (n := n) (j := sk (S.1 146) n i) (by omega)
      have hj2 := sk_le (t := S.1 146) (n := n) (i := sk (S.1 146) n i + 1) (by omega)
      have hg2 := sk_ge (t := S.1 146) (n := n) (i := sk (S.1 146) n i + 1)
      obtain ⟨T1, w1, u1, a1, a2, a3⟩ := mv_value (u := u) hn hl hR hx hm (i := sk (S.1 146) n i + 1) (by omega) (fun hv => by have := vl_gt hj2 sk_id hv; omega)
      rw [a1, bd_some]
      have key : ∀ cp H, elH H → dep H ≤ 10 → tp 6 H → AR (S.1 146) n cp m c H i = VR (S.1 146) n cp m c (rk (S.1 146) n (sk (S.1 146) n i) :: H) (sk (S.1 146) n i + 1) := fun cp H h1 h2 h3 => AR_rk h1 h2 hi rfl (by omega) (by rcases hr with e | e <;> rw [e] <;> exact h3)
      generalize hrk : rk (S.1 146) n (sk (S.1 146) n i) = r at hr key
      by_cases hv : vlF (S.1 146) n m (sk (S.1 146) n (sk (S.1 146) n i + 1)) = 0
      · obtain ⟨v1, v2, v3⟩ := vl_gt hj2 sk_id hv
        rw [if_pos hv]
        dsimp only
        rw [if_neg (show ¬ (1 : Int32) = 0 by decide)]
        obtain ⟨T2, b1, b2, b3⟩ := mp_puts (i := o3 (vlP (S.1 146) n (sk (S.1 146) n (sk (S.1 146) n i + 1)))) (w := 0) (u := u1) (a3 hv) hx (by rw [ln_app]; omega) (s := r) (v := 0) (a := if r = 9 then 4 else 5) (b := 0) (by rcases hr with e | e <;> subst e <;> rfl) rfl
        rw [b1, bd_some]
        have hE := a2.tr b3
        obtain ⟨F, T, i', m', c', w', u', c1, ⟨c2, c3⟩, c4, c5⟩ := ih (vlP (S.1 146) n (sk (S.1 146) n (sk (S.1 146) n i + 1))) (m + 1) (c ++ [vlC (S.1 146) n (sk (S.1 146) n (sk (S.1 146) n i + 1))] ++ [(r, 0)]) T2 u1 nn (by omega) (by omega) ((eMr_1 hE).trans hn) (eMr_t hE) b2 (by omega) (by rw [ln_app, ln_app]; omega) v2
        refine ⟨F, T, i', m', c', w', u', c1, ⟨hE.tr c2, fun q => ?_⟩, fun q => ⟨(c4 q).1, ?_⟩, fun cp H h1 h2 h3 => ?_⟩
        · obtain ⟨d1, d2, d3, d4, d5, d6⟩ := c3 q
          rw [ln_app, ln_app] at d6
          exact ⟨d1, by omega, d3, d4, d5, by omega⟩
        · obtain ⟨_, e, ee, et⟩ := c4 q
          exact ⟨_, by rw [ee]; simp only [List.append_assoc], tyL_c (vlC_k (t := S.1 146) (n := n) (j := sk (S.1 146) n (sk (S.1 146) n i + 1))) (show 7 ≤ r ∧ r ≤ 10 by omega) et⟩
        · rw [key cp H h1 h2 h3, VR_e, if_pos hv, AR_hold (by omega) (by rcases hr with e | e <;> subst e <;> decide) (Or.inr (by rcases hr with e | e <;> subst e <;> exact bnd_6 _)), c5 cp H h1 h2 h3]
      · rw [if_neg hv]
        dsimp only
        rw [if_pos rfl]
        refine ⟨_, T1, 0, 0, [], w1, u1, (if_neg hv).symm, ⟨a2, fun q => absurd q hv⟩, fun q => absurd q hv, fun cp H h1 h2 h3 => ?_⟩
        rw [key cp H h1 h2 h3, VR_e, if_neg hv, if_neg hv]
    · rw [if_neg hr]
      refine ⟨0, S, sk (S.1 146) n i, m, c, 0, u, rfl, ⟨eMr.rf, fun _ => ⟨hR, hg, hj, sk_id, hm, by omega⟩⟩, fun _ => ⟨hr, [], (List.append_nil c).symm, fun τ => rfl⟩, fun cp H _ _ _ => ?_⟩
      rw [if_pos rfl]
      unfold AR aft
      rw [sk_id]
theorem mx_term (hl : n ≤ 400) (hx : x < 6) (hb : ∀ k, byt (t k)) {S : fS} {m i : Nat} {c : List (Nat × Nat)} {u : Int32} (hn : S.1 145 1 = o3 n) (ht : S.1 146 = t) (hR : RQ S x m c) (hm : m ≤ 60) (hc : c.length ≤ i) (hi : i ≤ n) : ∃ F T i' m' c' w' u', f_X11_term (mS S (o3 i) 0 u) = some (if F = 0 then (1, mS T (o3 i') 0 u') else (0, mS T w' (o3 F) u')) ∧ pce t n x m c i S T F i' m' c' ∧ (F = 0 → i < i' ∧ ¬ (rk t n i' = 9 ∨ rk t n i' = 10) ∧ ∃ e, c' = c ++ e ∧ tyV e) ∧ ∀ cp H, elH H → dep H ≤ 10 → tp 6 H → VR t n cp m c H i = if F = 0 then AR t n cp m' c' H i' else (F, 0, 0, []) := by
  subst ht
  have hj := sk_le (t := S.1 146) hi
  have hg := sk_ge (t := S.1 146) (n := n) (i := i)
  obtain ⟨T1, w1, u1, a1, a2, a3⟩ := mv_value (u := u) hn hl hR hx hm hi (fun hv => by have := vl_gt hj sk_id hv; omega)
  unfold f_X11_term
  rw [a1, bd_some]
  by_cases hv : vlF (S.1 146) n m (sk (S.1 146) n i) = 0
  · obtain ⟨v1, v2, v3⟩ := vl_gt hj sk_id hv
    rw [if_pos hv]
    dsimp only
    rw [if_neg (show ¬ (1 : Int32) = 0 by decide)]
    obtain ⟨F, T, i', m', c', w', u', c1, ⟨c2, c3⟩, c4, c5⟩ := mx_termlp hl hx hb (K := fun S61 => some ((1 : Int32), S61)) n (vlP (S.1 146) n (sk (S.1 146) n i)) (m + 1) (c ++ [vlC (S.1 146) n (sk (S.1 146) n i)]) T1 u1 FU (by omega) (FU_lt (by omega)) ((eMr_1 a2).trans hn) (eMr_t a2) (a3 hv) (by omega) (by rw [ln_app]; omega) v2
    refine ⟨F, T, i', m', c', w', u', ?_, ⟨a2.tr c2, fun q => ?_⟩, fun q => ⟨?_, (c4 q).1, ?_⟩, fun cp H h1 h2 h3 => ?_⟩
    · rw [c1]
      by_cases hF : F = 0
      · rw [if_pos hF, if_pos hF]
      · rw [if_neg hF, if_neg hF]
    · obtain ⟨d1, d2, d3, d4, d5, d6⟩ := c3 q
      rw [ln_app] at d6
      exact ⟨d1, by omega, d3, d4, d5, by omega⟩
    · have := (c3 q).2.1
      omega
    · obtain ⟨_, e, ee, et⟩ := c4 q
      exact ⟨_, by rw [ee]; simp only [List.append_assoc], tyV_c (vlC_k (t := S.1 146) (n := n) (j := sk (S.1 146) n i)) et⟩
    · rw [VR_e, if_pos hv, c5 cp H h1 h2 h3]
  · rw [if_neg hv]
    dsimp only
    rw [if_pos rfl]
    refine ⟨_, T1, 0, 0, [], w1, u1, by rw [if_neg hv], ⟨a2, fun q => absurd q hv⟩, fun q => absurd q hv, fun cp H h1 h2 h3 => ?_⟩
    rw [VR_e, if_neg hv, if_neg hv]
theorem mx_sumlp (hl : n ≤ 400) (hx : x < 6) (hb : ∀ k, byt (t k)) {K : fS → Option (Int32 × fS)} : ∀ d i m c (S : fS) (u : Int32) nn, n - i ≤ d → d < nn → S.1 145 1 = o3 n → S.1 146 = t → RQ S x m c → m ≤ 60 → c.length ≤ i → i ≤ n → sk t n i = i → ¬ (rk t n i = 9 ∨ rk t n i = 10) → ∃ F T i' m' c' w' u', lp_X11_sum_9 K nn (mS S (o3 i) 0 u) = (if F = 0 then K (mS T (o3 i') 0 u') else some (0, mS T w' (o3 F) u')) ∧ pce t n x m c i S T F i' m' c' ∧ (F = 0 → rk t n i' = 0 ∧ ∃ e, c' = c ++ e ∧ tyL e) ∧ ∀ cp H, elH H → dep H ≤ 10 → tp 5 H → AR t n cp m c H i = if F = 0 then AR t n cp m' c' H i' else (F, 0, 0, []) := by
  intro d
  induction d with
  | zero =>
    intro i m c S u nn hd hnn hn ht hR hm hc hi hs hno
    obtain ⟨nn, rfl⟩ : ∃ k, nn = k + 1 := ⟨nn - 1, by omega⟩
    subst ht
    rw [mt_sum1 hn hl hb hi, hs]
    have hr : rk (S.1 146) n i = 0 := Decidable.byContradiction fun q => by
      obtain ⟨_, q2⟩ := rk_cs (t := S.1 146) (n := n) (j := i) q
      omega
    rw [if_neg (by omega)]
    refine ⟨0, S, i, m, c, 0, u, rfl, ⟨eMr.rf, fun _ => ⟨hR, Nat.le_refl _, hi, hs, hm, Nat.le_refl _⟩⟩, fun _ => ⟨hr, [], (List.append_nil c).symm, fun τ => rfl⟩, fun cp H _ _ _ => ?_⟩
    rw [if_pos rfl]
  | succ d ih =>
    intro i m c S u nn hd hnn hn ht hR hm hc hi hs hno
    obtain ⟨nn, rfl⟩ : ∃ k, nn = k + 1 := ⟨nn - 1, by omega⟩
    subst ht
    rw [mt_sum1 hn hl hb hi, hs]
    by_cases hr : rk (S.1 146) n i = 7 ∨ rk (S.1 146) n i = 8
    · rw [if_pos hr]
      obtain ⟨_, q2⟩ := rk_cs (t := S.1 146) (n := n) (j := i) (by omega)
      have hbr : bnd (rk (S.1 146) n i) = 5 := by rcases hr with e | e <;> rw [e] <;> rfl
      have key : ∀ cp H, elH H → dep H ≤ 10 → tp 5 H → AR (S.1 146) n cp m c H i = VR (S.1 146) n cp m c (rk (S.1 146) n i :: H) (i + 1) := fun cp H h1 h2 h3 => by
        have := AR_rk (t := S.1 146) (cp := cp) (m := m) (c := c) h1 h2 hi (by rw [hs]) (show rk (S.1 146) n i ≠ 0 by omega) (by rw [hbr]; exact h3)
        rw [this, hs]
      obtain ⟨F1, T1, i1, m1, c1, w1, u1, a1, ⟨a2, a3⟩, a4, a5⟩ := mx_term hl hx hb (u := u) hn rfl hR hm (show c.length ≤ i + 1 by omega) (by omega)
      rw [a1, bd_some]
      generalize hrk : rk (S.1 146) n i = r at hr key hbr
      have el : ∀ H, elH H → elH (r :: H) := fun H he y hy => by
        rcases List.mem_cons.mp hy with rfl | hy
        · omega
        · exact he y hy
      by_cases hF : F1 = 0
      · obtain ⟨d1, d2, d3, d4, d5, d6⟩ := a3 hF
        obtain ⟨e1, e2, e3, e4, e5⟩ := a4 hF
        rw [if_pos hF]
        dsimp only
        rw [if_neg (show ¬ (1 : Int32) = 0 by decide)]
        obtain ⟨T2, b1, b2, b3⟩ := mp_puts (i := o3 i1) (w := 0) (u := u1) d1 hx (by omega) (s := r) (v := 0) (a := if r = 7 then 2 else 3) (b := 0) (by rcases hr with e | e <;> subst e <;> rfl) rfl
        rw [b1, bd_some]
        have hE := a2.tr b3
        obtain ⟨F, T, i', m', c', w', u', g1, ⟨g2, g3⟩, g4, g5⟩ := ih i1 m1 (c1 ++ [(r, 0)]) T2 u1 nn (by omega) (by omega) ((eMr_1 hE).trans hn) (eMr_t hE) b2 (by omega) (by rw [ln_app]; omega) d3 d4 e2
        refine ⟨F, T, i', m', c', w', u', g1, ⟨hE.tr g2, fun q => ?_⟩, fun q => ⟨(g4 q).1, ?_⟩, fun cp H h1 h2 h3 => ?_⟩
        · obtain ⟨k1, k2, k3, k4, k5, k6⟩ := g3 q
          rw [ln_app] at k6
          exact ⟨k1, by omega, k3, k4, k5, by omega⟩
        · obtain ⟨_, e, ee, et⟩ := g4 q
          exact ⟨_, by rw [ee, e4]; simp only [List.append_assoc], tyL_s (show 7 ≤ r ∧ r ≤ 10 by omega) e5 et⟩
        · rw [key cp H h1 h2 h3, a5 cp (r :: H) (el H h1) (by rw [dep_pu (by omega)]; exact h2) (tp_c (by omega)), if_pos hF, AR_hold (by omega) (by omega) ?_, g5 cp H h1 h2 h3]
          rw [d4]
          by_cases z : rk (S.1 146) n i1 = 0
          · exact Or.inl z
          · obtain ⟨z1, _⟩ := rk_cs (t := S.1 146) (n := n) (j := i1) z
            have : rk (S.1 146) n i1 = 7 ∨ rk (S.1 146) n i1 = 8 := by omega
            exact Or.inr (by rw [hbr]; rcases this with e | e <;> rw [e] <;> decide)
      · rw [if_neg hF]
        dsimp only
        rw [if_pos rfl]
        refine ⟨F1, T1, 0, 0, [], w1, u1, (if_neg hF).symm, ⟨a2, fun q => absurd q hF⟩, fun q => absurd q hF, fun cp H h1 h2 h3 => ?_⟩
        rw [key cp H h1 h2 h3, a5 cp (r :: H) (el H h1) (by rw [dep_pu (by omega)]; exact h2) (tp_c (by omega)), if_neg hF, if_neg hF]
    · rw [if_neg hr]
      have h0 : rk (S.1 146) n i = 0 := Decidable.byContradiction fun q => by
        obtain ⟨q1, q2⟩ := rk_cs (t := S.1 146) (n := n) (j := i) q
        omega
      exact ⟨0, S, i, m, c, 0, u, rfl, ⟨eMr.rf, fun _ => ⟨hR, Nat.le_refl _, hi, hs, hm, Nat.le_refl _⟩⟩, fun _ => ⟨h0, [], (List.append_nil c).symm, fun τ => rfl⟩, fun cp H _ _ _ => by rw [if_pos rfl]⟩
theorem mx_sum (hl : n ≤ 400) (hx : x < 6) (hb : ∀ k, byt (t k)) {S : fS} {m i : Nat} {c : List (Nat × Nat)} {u : Int32} (hn : S.1 145 1 = o3 n) (ht : S.1 146 = t) (hR : RQ S x m c) (hm : m ≤ 60) (hc : c.length ≤ i) (hi : i ≤ n) : ∃ F T i' m' c' w' u', f_X11_sum (mS S (o3 i) 0 u) = some (if F = 0 then (1, mS T (o3 i') 0 u') else (0, mS T w' (o3 F) u')) ∧ pce t n x m c i S T F i' m' c' ∧ (F = 0 → i < i' ∧ rk t n i' = 0 ∧ ∃ e, c' = c ++ e ∧ tyV e) ∧ ∀ cp H, elH H → dep H ≤ 10 → tp 5 H → VR t n cp m c H i = if F = 0 then AR t n cp m' c' H i' else (F, 0, 0, []) := by
  obtain ⟨F1, T1, i1, m1, c1, w1, u1, a1, ⟨a2, a3⟩, a4, a5⟩ := mx_term hl hx hb (u := u) hn ht hR hm hc hi
  unfold f_X11_sum
  rw [a1, bd_some]
  by_cases hF : F1 = 0
  · obtain ⟨d1, d2, d3, d4, d5, d6⟩ := a3 hF
    obtain ⟨e1, e2, e3, e4, e5⟩ := a4 hF
    rw [if_pos hF]
    dsimp only
    rw [if_neg (show ¬ (1 : Int32) = 0 by decide)]
    obtain ⟨F, T, i', m', c', w', u', g1, ⟨g2, g3⟩, g4, g5⟩ := mx_sumlp hl hx hb (K := fun S61 => some ((1 : Int32), S61)) n i1 m1 c1 T1 u1 FU (by omega) (FU_lt (by omega)) ((eMr_1 a2).trans hn) ((eMr_t a2).trans ht) d1 d5 (by omega) d3 d4 e2
    refine ⟨F, T, i', m', c', w', u', ?_, ⟨a2.tr g2, fun q => ?_⟩, fun q => ⟨?_, (g4 q).1, ?_⟩, fun cp H h1 h2 h3 => ?_⟩
    · rw [g1]
      by_cases hG : F = 0
      · rw [if_pos hG, if_pos hG]
      · rw [if_neg hG, if_neg hG]
    · obtain ⟨k1, k2, k3, k4, k5, k6⟩ := g3 q
      exact ⟨k1, by omega, k3, k4, k5, by omega⟩
    · have := (g3 q).2.1
      omega
    · obtain ⟨_, e, ee, et⟩ := g4 q
      exact ⟨_, by rw [ee, e4]; simp only [List.append_assoc], tyV_s e5 et⟩
    · rw [a5 cp H h1 h2 (tp_mo h3 (by omega)), if_pos hF, g5 cp H h1 h2 h3]
  · rw [if_neg hF]
    dsimp only
    rw [if_pos rfl]
    refine ⟨F1, T1, 0, 0, [], w1, u1, by rw [if_neg hF], ⟨a2, fun q => absurd q hF⟩, fun q => absurd q hF, fun cp H h1 h2 h3 => ?_⟩
    rw [a5 cp H h1 h2 (tp_mo h3 (by omega)), if_neg hF, if_neg hF]
end MT2
end
