section
/-! the class: an hour -/
section CH
variable {S : fS} {t c : Nat} {F : List (Nat × Nat)} {E : List St5} {C : Cw}
theorem oe_or {q : St5} {a m : Nat} (hq : okS m q) (hm : m ≤ 10) : (∃ o, o < m ∧ oeI q a = o3 o ∧ ((q.1 = a ∧ o = q.2.1) ∨ (q.1 ≠ a ∧ q.2.1 = a ∧ o = q.1))) ∨ (oeI q a = -1 ∧ q.1 ≠ a ∧ q.2.1 ≠ a) := by
  obtain ⟨s1, s2, _⟩ := hq
  unfold oeI
  by_cases h : q.1 = a
  · rw [if_pos h]; exact Or.inl ⟨q.2.1, s2, rfl, Or.inl ⟨h, rfl⟩⟩
  · rw [if_neg h]
    by_cases g : q.2.1 = a
    · rw [if_pos g]; exact Or.inl ⟨q.1, s1, rfl, Or.inr ⟨h, g, rfl⟩⟩
    · rw [if_neg g]; exact Or.inr ⟨rfl, h, g⟩
theorem ch_other (hT : twC S t F E) (hE : ∀ q ∈ E, okS F.length q) (hm : F.length ≤ 10) (hl : E.length ≤ 12) {k a : Nat} (hk : k < E.length) (ha : a < 2147483648) : f_X8_otherEnd t (o3 k) (o3 a) S = some (oeI (E.getD k d5) a) := by
  obtain ⟨s1, s2, _⟩ := hE _ (gd_mem (d := d5) hk)
  obtain ⟨e1, e2, _⟩ := hT.2.2.2 k hk
  unfold f_X8_otherEnd oeI
  rw [gI_o (by omega) (by omega), bd_some, e1]
  by_cases h : (E.getD k d5).1 = a
  · rw [if_pos ((o3_inj (by omega) ha).mpr h), if_pos h, gI_o (by omega) (by omega), bd_some, e2]
  · rw [if_neg (fun q => h ((o3_inj (by omega) ha).mp q)), if_neg h, gI_o (by omega) (by omega), bd_some, e2]
    by_cases g : (E.getD k d5).2.1 = a
    · rw [if_pos ((o3_inj (by omega) ha).mpr g), if_pos g, bd_some]
    · rw [if_neg (fun q => g ((o3_inj (by omega) ha).mp q)), if_neg g]
theorem ch_btw {m : Nat} (hW : rWm S (t + 6) m (dst E)) (hm : m ≤ 10) {a b : Nat} (ha : a < m) (hb : b < m) : f_X8_hoursBetween t (o3 a) (o3 b) S = some (cwv (dst E a b)) := by
  unfold f_X8_hoursBetween
  rw [show (10 : Int32) = o3 10 from rfl, o3_mul, o3_add, gI_o (by omega) (by omega), bd_some, show a * 10 + b = 10 * a + b by omega, hW a b ha hb]
theorem cwv_cs {E : List St5} {a b : Nat} : (dst E a b = 99999 ∧ cwv (dst E a b) = -1) ∨ (dst E a b < 99999 ∧ cwv (dst E a b) = o3 (dst E a b)) := by
  have h9 := dst_9 (E := E) a b
  unfold cwv
  by_cases h : dst E a b = 99999
  · rw [if_pos h]; exact Or.inl ⟨h, rfl⟩
  · rw [if_neg h]; exact Or.inr ⟨by omega, rfl⟩
def fsI (E : List St5) (a b : Nat) : Int32 := match fS1 E a b with
  | some k => o3 k
  | none => -1
theorem ch_first (hT : twC S t F E) (hW : rWm S (t + 6) F.length (dst E)) (hE : ∀ q ∈ E, okS F.length q) (hm : F.length ≤ 10) (hl : E.length ≤ 12) {a b : Nat} (ha : a < F.length) (hb : b < F.length) : f_X8_firstStair t (o3 a) (o3 b) S = some (fsI E a b) := by
  unfold f_X8_firstStair
  rw [ch_btw hW hm ha hb, bd_some]
  unfold fsI fS1
  have hK : ∀ nn p3 k, 0 < nn → p3 ≤ (0 : Int32) → lp_X8_firstStair_10 t (o3 a) (o3 b) p3 S (fun _ => some (-1)) nn (o3 k) = some (-1) := fun nn p3 k hn hp => by
    obtain ⟨nn, rfl⟩ : ∃ z, nn = z + 1 := ⟨nn - 1, by omega⟩
    rw [lp_X8_firstStair_10.eq_2]
    by_cases hz : S.1 t 7 ≤ o3 k
    · rw [if_pos hz]
    · rw [if_neg hz, if_pos hp]
  rcases cwv_cs (E := E) (a := a) (b := b) with ⟨h, e⟩ | ⟨h, e⟩
  · rw [e, if_pos (Or.inr h)]
    exact hK FU _ 0 (FU_lt (by omega)) (by decide)
  · rw [e]
    by_cases hab : a = b
    · rw [if_pos (Or.inl hab)]
      have : dst E a b = 0 := by rw [hab]; exact dst_z b
      rw [this]
      exact hK FU _ 0 (FU_lt (by omega)) (by decide)
    · have hp := dst_pos hE hm hab h
      rw [if_neg (by omega)]
      have key : ∀ d k nn, k + d = E.length → d < nn → lp_X8_firstStair_10 t (o3 a) (o3 b) (o3 (dst E a b)) S (fun _ => some (-1)) nn (o3 k) = some (match fsf E (dst E) a b d k with
          | some k => o3 k
          | none => -1) := by
        intro d
        induction d with
        | zero =>
          intro k nn hk hnn
          obtain ⟨nn, rfl⟩ : ∃ z, nn = z + 1 := ⟨nn - 1, by omega⟩
          rw [lp_X8_firstStair_10.eq_2, hT.2.1, if_pos ((o3_le (by omega) (by omega)).mpr (by omega))]
          rfl
        | succ d ih =>
          intro k nn hk' hnn
          obtain ⟨nn, rfl⟩ : ∃ z, nn = z + 1 := ⟨nn - 1, by omega⟩
          have hkl : k < E.length := by omega
          have hq := hE _ (gd_mem (d := d5) hkl)
          rw [show fsf E (dst E) a b (d + 1) k = if hk (E.getD k d5) (dst E) a b then some k else fsf E (dst E) a b d (k + 1) from rfl]
          rw [lp_X8_firstStair_10.eq_2, hT.2.1, if_neg (fun q => by have := (o3_le (by omega) (by omega)).mp q; omega), if_neg (show ¬ o3 (dst E a b) ≤ (0 : Int32) from fun q => by have := (o3_le (b := 0) (by omega) (by omega)).mp q; omega), ch_other hT hE hm hl hkl (by omega), bd_some, o3_s]
          have hh := (hT.2.2.2 k hkl).2.2.1
          rcases oe_or (a := a) hq hm with ⟨o, o1, o2, o3'⟩ | ⟨o2, n1, n2⟩
          · rw [o2, if_pos (o3_0le (by omega)), ch_btw hW hm o1 hb, bd_some]
            have h9 := hq.2.2.2.2.1
            rcases cwv_cs (E := E) (a := o) (b := b) with ⟨g, e⟩ | ⟨g, e⟩
            · rw [e, if_pos (show (-1 : Int32) < 0 by decide), if_neg (fun q => by
                rcases q with ⟨q1, q2, _⟩ | ⟨q1, q2, q3, _⟩
                · rcases o3' with ⟨_, w⟩ | ⟨w, _⟩
                  · rw [← w] at q2; omega
                  · exact w q1
                · rcases o3' with ⟨w, _⟩ | ⟨_, _, w⟩
                  · exact q1 w
                  · rw [← w] at q3; omega)]
              exact ih (k + 1) nn (by omega) (by omega)
            · rw [e, if_neg (o3_nn (by omega)), gI_o (by omega) (by omega), bd_some, hh, o3_add]
              have heq : o3 ((E.getD k d5).2.2.1 + dst E o b) = o3 (dst E a b) ↔ hk (E.getD k d5) (dst E) a b := by
                rw [o3_inj (by omega) (by omega)]
                constructor
                · intro z
                  rcases o3' with ⟨w1, w2⟩ | ⟨w1, w2, w3⟩
                  · exact Or.inl ⟨w1, by rw [← w2]; exact g, by rw [← w2]; exact z⟩
                  · exact Or.inr ⟨w1, w2, by rw [← w3]; exact g, by rw [← w3]; exact z⟩
                · intro z
                  rcases z with ⟨q1, _, q2⟩ | ⟨q1, q2, _, q3⟩
                  · rcases o3' with ⟨_, w⟩ | ⟨w, _⟩
                    · rw [w]; exact q2
                    · exact absurd q1 w
                  · rcases o3' with ⟨w, _⟩ | ⟨_, _, w⟩
                    · exact absurd w q1
                    · rw [w]; exact q3
              by_cases hx : hk (E.getD k d5) (dst E) a b
              · rw [if_pos (heq.mpr hx), if_pos hx]
              · rw [if_neg (fun q => hx (heq.mp q)), if_neg hx]
                exact ih (k + 1) nn (by omega) (by omega)
          · rw [o2, if_neg (show ¬ (0 : Int32) ≤ -1 by decide), if_pos (show (-1 : Int32) < 0 by decide), if_neg (fun q => by
              rcases q with ⟨q1, _⟩ | ⟨_, q2, _⟩
              · exact n1 q1
              · exact n2 q2)]
            exact ih (k + 1) nn (by omega) (by omega)
      exact key E.length 0 FU (by omega) (FU_lt (by omega))
/-- what a crowd at c, going by a rule at p, may write -/
def eG (c p : Nat) (S T : fS) : Prop := (∀ a k, ¬ (c + 1 ≤ a ∧ a ≤ c + 4) → ¬ (a = c ∧ k = 6) → ¬ (a = p ∧ k = 3) → T.1 a k = S.1 a k) ∧ (∀ a k, a ≠ c + 5 → a ≠ p + 2 → T.2 a k = S.2 a k)
theorem eG.rf {c p : Nat} {S : fS} : eG c p S S := ⟨fun _ _ _ _ _ => rfl, fun _ _ _ _ => rfl⟩
theorem eG.tr {c p : Nat} {S T U : fS} (h : eG c p S T) (g : eG c p T U) : eG c p S U := ⟨fun a k x y z => (g.1 a k x y z).trans (h.1 a k x y z), fun a k x y => (g.2 a k x y).trans (h.2 a k x y)⟩
theorem eG_K {c p : Nat} {S T : fS} (h : eK p S T) : eG c p S T := ⟨fun a k _ _ z => h.1 a k z, fun a k _ y => h.2 a k y⟩
theorem twC_eq {S T : fS} {t : Nat} {F : List (Nat × Nat)} {E : List St5} (h : twC S t F E) (h1 : ∀ a k, t ≤ a → a ≤ t + 6 → T.1 a k = S.1 a k) (h2 : ∀ a k, t ≤ a → a ≤ t + 6 → T.2 a k = S.2 a k) : twC T t F E := by
  obtain ⟨a, b, c, d⟩ := h
  refine ⟨(h1 _ _ (by omega) (by omega)).trans a, (h1 _ _ (by omega) (by omega)).trans b, fun k hk => (h2 _ _ (by omega) (by omega)).trans (c k hk), fun k hk => ?_⟩
  obtain ⟨e1, e2, e3, e4⟩ := d k hk
  exact ⟨(h1 _ _ (by omega) (by omega)).trans e1, (h1 _ _ (by omega) (by omega)).trans e2, (h1 _ _ (by omega) (by omega)).trans e3, (h2 _ _ (by omega) (by omega)).trans e4⟩
theorem rWm_eq {S T : fS} {r m : Nat} {w : Mx} (h : rWm S r m w) (h1 : ∀ k, T.1 r k = S.1 r k) : rWm T r m w := fun a b ha hb => (h1 _).trans (h a b ha hb)
theorem cdC_eq {S T : fS} {p : Nat} {q : List (Nat × Nat)} (h : cdC S p q) (h1 : T.1 p 2 = S.1 p 2) (h2 : ∀ k, T.1 (p + 1) k = S.1 (p + 1) k) : cdC T p q := ⟨h1.trans h.1, h.2.1, fun k hk => (h2 k).trans (h.2.2 k hk)⟩
theorem cwC_eq {S T : fS} {c : Nat} {C : Cw} (h : cwC S c C) (h1 : ∀ a k, c ≤ a → a ≤ c + 4 → T.1 a k = S.1 a k) (h2 : ∀ k, T.2 (c + 5) k = S.2 (c + 5) k) : cwC T c C := by
  obtain ⟨a, b, d⟩ := h
  refine ⟨(h1 _ _ (by omega) (by omega)).trans a, (h1 _ _ (by omega) (by omega)).trans b, fun k hk => ?_⟩
  obtain ⟨e1, e2, e3, e4, e5⟩ := d k hk
  exact ⟨(h1 _ _ (by omega) (by omega)).trans e1, (h1 _ _ (by omega) (by omega)).trans e2, (h1 _ _ (by omega) (by omega)).trans e3, (h1 _ _ (by omega) (by omega)).trans e4, (h2 _).trans e5⟩
theorem ch_off (hC : cwC S c C) (h8 : C.1 ≤ 8) (hT : twC S t F E) (hE : ∀ q ∈ E, okS F.length q) (hm : F.length ≤ 10) (hl : E.length ≤ 12) {th k a : Nat} (hth : th < C.1) (hk : k < E.length) (ha : a < F.length) (hp : C.2.2.1 th = o3 a) : ∃ T, f_X0_setOff c t (o3 th) (o3 k) S = some (if oeI (E.getD k d5) a = -1 then (0, S) else (1, T)) ∧ cwC T c (cOff C th k (oeI (E.getD k d5) a)) ∧ (∀ p, eG c p S T) := by
  obtain ⟨k1, k2, k3, k4, k5⟩ := hC.2.2 th hth
  unfold f_X0_setOff
  rw [if_pos (o3_0le (by omega)), gI_o (by omega) (by omega), bd_some, k1, hp, ch_other hT hE hm hl hk (by omega), bd_some]
  refine ⟨pI (pI (pI (pI S (c + 1) th (-1)) (c + 2) th (o3 k)) (c + 3) th 0) (c + 4) th (oeI (E.getD k d5) a), ?_, ?_, fun p => ?_⟩
  · rcases oe_or (a := a) (hE _ (gd_mem (d := d5) hk)) hm with ⟨o, o1, o2, _⟩ | ⟨o2, _⟩
    · rw [o2, if_pos (o3_0le (by omega)), if_neg (o3_m1 (by omega)), sI_o (by omega) (by omega), bd_some, sI_o (by omega) (by omega), bd_some, sI_o (by omega) (by omega), bd_some, sI_o (by omega) (by omega), bd_some]
    · rw [o2, if_neg (by decide), if_pos rfl]
  · refine ⟨?_, ?_, fun j hj => ?_⟩
    · rw [pI_ne (by omega), pI_ne (by omega), pI_ne (by omega), pI_ne (by omega)]; exact hC.1
    · rw [pI_ne (by omega), pI_ne (by omega), pI_ne (by omega), pI_ne (by omega)]; exact hC.2.1
    · obtain ⟨j1, j2, j3, j4, j5⟩ := hC.2.2 j hj
      show _ = udN _ th _ j ∧ _ = udN _ th _ j ∧ _ = udN _ th _ j ∧ _ = udN _ th _ j ∧ _
      by_cases e : j = th
      · subst e
        rw [udN_eq, udN_eq, udN_eq, udN_eq]
        refine ⟨?_, ?_, ?_, ?_, j5⟩
        · rw [pI_ne (by omega), pI_ne (by omega), pI_ne (by omega), pI_eq]
        · rw [pI_ne (by omega), pI_ne (by omega), pI_eq]
        · rw [pI_ne (by omega), pI_eq]
        · rw [pI_eq]
      · rw [udN_ne e, udN_ne e, udN_ne e, udN_ne e]
        refine ⟨?_, ?_, ?_, ?_, j5⟩
        · rw [pI_ne (by omega), pI_ne (by omega), pI_ne (by omega), pI_ne (by omega)]; exact j1
        · rw [pI_ne (by omega), pI_ne (by omega), pI_ne (by omega), pI_ne (by omega)]; exact j2
        · rw [pI_ne (by omega), pI_ne (by omega), pI_ne (by omega), pI_ne (by omega)]; exact j3
        · rw [pI_ne (by omega), pI_ne (by omega), pI_ne (by omega), pI_ne (by omega)]; exact j4
  · refine ⟨fun b j x _ _ => ?_, fun _ _ _ _ => rfl⟩
    rw [pI_ne (by omega), pI_ne (by omega), pI_ne (by omega), pI_ne (by omega)]
theorem oe_hk {D : Mx} {q : St5} {a b m : Nat} (hq : okS m q) (hm : m ≤ 10) (h : hk q D a b) : oeI q a ≠ -1 := by
  rcases oe_or (a := a) hq hm with ⟨o, o1, o2, _⟩ | ⟨_, n1, n2⟩
  · rw [o2]; exact o3_m1 (by omega)
  · rcases h with ⟨h, _⟩ | ⟨_, h, _⟩
    · exact absurd h n1
    · exact absurd h n2
theorem from_o {v : Int32} {m : Nat} {S : fS} (hm : m < 2147483648) : f_X10_isFrom v 0 (o3 m - 1) S = some (if 0 ≤ v.toInt ∧ v.toInt < m then 1 else 0) := by
  have e : (o3 m - 1 : Int32).toInt = (m : Int) - 1 := by
    rw [ni_sub (by rw [o3_int hm, show (1 : Int32).toInt = 1 from rfl]; omega) (by rw [o3_int hm, show (1 : Int32).toInt = 1 from rfl]; omega), o3_int hm]
    rfl
  rcases op_isFrom01 (v := v) (a := 0) (b := o3 m - 1) (S := S) with ⟨h, g⟩ | ⟨h, g1, g2⟩
  · rw [h, if_neg (by rw [e, ni_0] at g; omega)]
  · rw [h, if_pos (by rw [e] at g2; rw [ni_0] at g1; omega)]
theorem ch_obey {p : Nat} {Q : List Cl} (htc : t + 6 < c) (hcp : c + 5 < p) (hF : ∀ q ∈ F, okF q) (hE : ∀ q ∈ E, okS F.length q) (hm : F.length ≤ 10) (hl : E.length ≤ 12) (hQ : okRu Q) {K : fS → Option fS} : ∀ d k nn (S : fS), k + d = C.1 → d < nn → okD F.length E C → cwC S c (cOb F E Q C k) → twC S t F E → rWm S (t + 6) F.length (dst E) → cdC S p (ccode Q) → ∃ T, lp_X0_obey_2 c t p K nn (o3 k) S = K T ∧ cwC T c (cOb F E Q C C.1) ∧ eG c p S T := by
  intro d
  induction d with
  | zero =>
    intro k nn S hk hnn hC hS hT hW hD
    obtain ⟨nn, rfl⟩ : ∃ z, nn = z + 1 := ⟨nn - 1, by omega⟩
    obtain ⟨o1, o2, o3'⟩ := cOb_ok (Q := Q) hC hE hm k (by omega)
    have h8 := hC.1
    rw [lp_X0_obey_2.eq_2, hS.1, o2, if_pos ((o3_le (by omega) (by omega)).mpr (by omega))]
    rw [show k = C.1 by omega] at hS
    exact ⟨S, rfl, hS, eG.rf⟩
  | succ d ih =>
    intro k nn S hk hnn hC hS hT hW hD
    obtain ⟨nn, rfl⟩ : ∃ z, nn = z + 1 := ⟨nn - 1, by omega⟩
    obtain ⟨o1, o2, o4⟩ := cOb_ok (Q := Q) hC hE hm k (by omega)
    have h8 := hC.1
    have h9 := hC.2.1
    have hs : cOb F E Q C (k + 1) = cOb1 F E Q (cOb F E Q C k) k := rfl
    generalize hCk : cOb F E Q C k = Ck at hS o1 o2 o4 hs
    obtain ⟨k1, k2, k3, k4, k5⟩ := hS.2.2 k (by omega)
    rw [lp_X0_obey_2.eq_2, hS.1, o2, if_neg (fun q => by have := (o3_le (by omega) (by omega)).mp q; omega), o3_s]
    unfold f_X0_isStanding
    rw [gI_o (by omega) (by omega), bd_some, k1]
    unfold cOb1 at hs
    by_cases h0 : Ck.2.2.1 k < 0
    · rw [if_pos h0] at hs ⊢
      rw [bd_some, if_pos rfl]
      exact ih (k + 1) nn S (by omega) (by omega) hC (by rw [hs]; exact hS) hT hW hD
    · rw [if_neg h0] at hs ⊢
      obtain ⟨f, f1, f2⟩ := okT_nn (o1.2.2 k (by omega)).1 hm h0
      rw [bd_some, if_neg (show ¬ (1 : Int32) = 0 by decide)]
      obtain ⟨T1, t1, t2⟩ := c_goal (S := S) (p := p) (t0 := t) (c0 := c) (th := o3 k) (W := wd F Ck k) (Q := Q) (fun U hU v hv => c_word (cwC_eq hS (fun a j x y => hU.1 a j (by omega)) (fun j => hU.2 _ j (by omega))) (twC_eq hT (fun a j x y => hU.1 a j (by omega)) (fun a j x y => hU.2 a j (by omega))) hF (by omega) (by omega) hm (by omega) f1 f2 hv) hD hQ
      have hS1 : cwC T1 c Ck := cwC_eq hS (fun a j x y => t2.1 a j (by omega)) (fun j => t2.2 _ j (by omega))
      have hT1 : twC T1 t F E := twC_eq hT (fun a j x y => t2.1 a j (by omega)) (fun a j x y => t2.2 a j (by omega))
      have hW1 : rWm T1 (t + 6) F.length (dst E) := rWm_eq hW (fun j => t2.1 _ j (by omega))
      have hD1 : cdC T1 p (ccode Q) := cdC_eq hD (t2.1 _ _ (by omega)) (fun j => t2.1 _ j (by omega))
      rw [t1, bd_some]
      dsimp only
      rw [hT1.1, from_o (by omega), bd_some]
      by_cases hg : 0 ≤ (gl (wd F Ck k) Q).toInt ∧ (gl (wd F Ck k) Q).toInt < F.length
      · rw [if_pos hg] at hs
        rw [if_pos hg, if_neg (show ¬ (1 : Int32) = 0 by decide), gI_o (by omega) (by omega), bd_some, (hS1.2.2 k (by omega)).1, f2]
        rw [f2, o3_nat (by omega)] at hs
        obtain ⟨g, g1, g2⟩ := o3_ex hg.1
        rw [g1, ch_first hT1 hW1 hE hm hl f1 (by omega), bd_some]
        rw [g1, o3_nat (by omega)] at hs
        unfold fsI
        cases hfs : fS1 E f g with
        | none =>
          rw [hfs] at hs
          have hso : f_X0_setOff c t (o3 k) (-1) T1 = some (0, T1) := by
            unfold f_X0_setOff
            rw [if_neg (by decide), if_neg (by decide)]
          dsimp only at hs ⊢
          rw [hso, bd_some]
          obtain ⟨T, a1, a2, a3⟩ := ih (k + 1) nn T1 (by omega) (by omega) hC (by rw [hs]; exact hS1) hT1 hW1 hD1
          exact ⟨T, a1, a2, (eG_K t2).tr a3⟩
        | some s =>
          rw [hfs] at hs
          dsimp only at hs ⊢
          unfold fS1 at hfs
          split at hfs
          · exact nomatch hfs
          · obtain ⟨x, y, z⟩ := fsf_pr _ _ _ hfs
            have hsl : s < E.length := by omega
            obtain ⟨T2, b1, b2, b3⟩ := ch_off hS1 (by omega) hT1 hE hm hl (th := k) (k := s) (a := f) (by omega) hsl f1 f2
            rw [b1, bd_some, if_neg (oe_hk (hE _ (gd_mem (d := d5) hsl)) hm z)]
            have b3 := b3 p
            obtain ⟨T, a1, a2, a3⟩ := ih (k + 1) nn T2 (by omega) (by omega) hC (by rw [hs]; exact b2) (twC_eq hT1 (fun a j x y => b3.1 a j (by omega) (by omega) (by omega)) (fun a j x y => b3.2 a j (by omega) (by omega))) (rWm_eq hW1 (fun j => b3.1 _ j (by omega) (by omega) (by omega))) (cdC_eq hD1 (b3.1 _ _ (by omega) (by omega) (by omega)) (fun j => b3.1 _ j (by omega) (by omega) (by omega)))
            exact ⟨T, a1, a2, ((eG_K t2).tr b3).tr a3⟩
      · rw [if_neg hg] at hs
        rw [if_neg hg, if_pos rfl]
        obtain ⟨T, a1, a2, a3⟩ := ih (k + 1) nn T1 (by omega) (by omega) hC (by rw [hs]; exact hS1) hT1 hW1 hD1
        exact ⟨T, a1, a2, (eG_K t2).tr a3⟩
end CH
end
