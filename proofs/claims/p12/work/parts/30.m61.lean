section
/-! the class: an hour passes; hours lived -/
def rowC (S : fS) (c : Nat) (C : Cw) (k : Nat) : Prop := S.1 (c + 1) k = C.2.2.1 k ∧ S.1 (c + 2) k = C.2.2.2.1 k ∧ S.1 (c + 3) k = C.2.2.2.2.1 k ∧ S.1 (c + 4) k = C.2.2.2.2.2.1 k ∧ S.2 (c + 5) k = C.2.2.2.2.2.2 k
section CP
variable {t c : Nat} {F : List (Nat × Nat)} {E : List St5} {C : Cw}
theorem cp_loop (htc : t + 6 < c) (hF : ∀ q ∈ F, okF q) (hE : ∀ q ∈ E, okS F.length q) (hm : F.length ≤ 10) (hl : E.length ≤ 12) (hC : okD F.length E C) {K : fS → Option fS} : ∀ d k nn (S : fS), k + d = C.1 → d < nn → S.1 c 5 = o3 C.1 → (∀ j, j < k → rowC S c (cPs F E C) j) → (∀ j, k ≤ j → j < C.1 → rowC S c C j) → twC S t F E → ∃ T, lp_X0_passHour_2 c t K nn (o3 k) S = K T ∧ (∀ j, j < C.1 → rowC T c (cPs F E C) j) ∧ (∀ a j, ¬ (c + 1 ≤ a ∧ a ≤ c + 4) → T.1 a j = S.1 a j) ∧ (∀ a j, a ≠ c + 5 → T.2 a j = S.2 a j) := by
  intro d
  induction d with
  | zero =>
    intro k nn S hk hnn h5 hn ho hT
    obtain ⟨nn, rfl⟩ : ∃ z, nn = z + 1 := ⟨nn - 1, by omega⟩
    have h8 := hC.1
    rw [lp_X0_passHour_2.eq_2, h5, if_pos ((o3_le (by omega) (by omega)).mpr (by omega))]
    exact ⟨S, rfl, fun j hj => hn j (by omega), fun _ _ _ => rfl, fun _ _ _ => rfl⟩
  | succ d ih =>
    intro k nn S hk hnn h5 hn ho hT
    obtain ⟨nn, rfl⟩ : ∃ z, nn = z + 1 := ⟨nn - 1, by omega⟩
    have h8 := hC.1
    obtain ⟨k1, k2, k3, k4, k5⟩ := ho k (Nat.le_refl _) (by omega)
    obtain ⟨d1, d2, d3⟩ := hC.2.2 k (by omega)
    rw [lp_X0_passHour_2.eq_2, h5, if_neg (fun q => by have := (o3_le (by omega) (by omega)).mp q; omega), o3_s]
    unfold f_X0_isStanding
    rw [gI_o (by omega) (by omega), bd_some, k1]
    have nxt : ∀ S1 : fS, rowC S1 c (cPs F E C) k → (∀ a j, ¬ (c + 1 ≤ a ∧ a ≤ c + 4 ∧ j = k) → S1.1 a j = S.1 a j) → (∀ a j, ¬ (a = c + 5 ∧ j = k) → S1.2 a j = S.2 a j) → ∃ T, lp_X0_passHour_2 c t K nn (o3 (k + 1)) S1 = K T ∧ (∀ j, j < C.1 → rowC T c (cPs F E C) j) ∧ (∀ a j, ¬ (c + 1 ≤ a ∧ a ≤ c + 4) → T.1 a j = S.1 a j) ∧ (∀ a j, a ≠ c + 5 → T.2 a j = S.2 a j) := by
      intro S1 hr f1 f2
      have hrow : ∀ C' j, j ≠ k → rowC S c C' j → rowC S1 c C' j := fun C' j hj ⟨r1, r2, r3, r4, r5⟩ => ⟨(f1 _ _ (by omega)).trans r1, (f1 _ _ (by omega)).trans r2, (f1 _ _ (by omega)).trans r3, (f1 _ _ (by omega)).trans r4, (f2 _ _ (by omega)).trans r5⟩
      obtain ⟨T, t1, t2, t3, t4⟩ := ih (k + 1) nn S1 (by omega) (by omega) ((f1 c 5 (by omega)).trans h5) (fun j hj => by
        by_cases e : j = k
        · rw [e]; exact hr
        · exact hrow _ j e (hn j (by omega))) (fun j hj hj2 => hrow _ j (by omega) (ho j (by omega) hj2)) (twC_eq hT (fun a j x y => f1 a j (by omega)) (fun a j x y => f2 a j (by omega)))
      exact ⟨T, t1, t2, fun a j h => (t3 a j h).trans (f1 a j (by omega)), fun a j h => (t4 a j h).trans (f2 a j (by omega))⟩
    rcases d1 with ⟨f, e1, e2, e3, e4, e5⟩ | ⟨s, j, f, e1, e2, e3, e4, e5, e6, e7⟩
    · have h0 : ¬ C.2.2.1 k < 0 := by rw [e2]; exact o3_nn (by omega)
      rw [if_neg h0, bd_some, if_neg (show ¬ (1 : Int32) = 0 by decide), gL_o (by omega) (by omega), bd_some, bd_some, e2, gL_o (by omega) (by omega), bd_some, hT.2.2.1 f e1, k5, sL_o (by omega) (by omega), bd_some]
      refine nxt _ ?_ (fun _ _ _ => rfl) (fun a j h => pL_ne h)
      unfold rowC cPs
      dsimp only
      rw [if_neg h0, if_neg h0, if_neg h0, if_neg h0, if_neg h0, pL_eq, e2, o3_nat (by omega)]
      exact ⟨k1.trans e2, k2, k3, k4, rfl⟩
    · have h0 : C.2.2.1 k < 0 := by rw [e2]; decide
      obtain ⟨s1, s2, s3, s4, s5, s6⟩ := hE _ (gd_mem (d := d5) e1)
      obtain ⟨w1, w2, w3, w4⟩ := hT.2.2.2 s e1
      have hst : stays E C k ↔ j + 1 < (E.getD s d5).2.2.1 := by
        unfold stays
        rw [e3, e4, o3_s, o3_nat (by omega), o3_lt (by omega) (by omega)]
      rw [if_pos h0, bd_some, if_pos rfl, gI_o (by omega) (by omega), bd_some, k2, e3, gL_o (by omega) (by omega), bd_some, gL_o (by omega) (by omega), bd_some, w4, k5, sL_o (by omega) (by omega), bd_some, gI_o (by omega) (by omega), bd_some, pL_1, k3, e4, o3_s, sI_o (by omega) (by omega), bd_some, gI_o (by omega) (by omega), bd_some, pI_eq, gI_o (by omega) (by omega), bd_some, pI_ne (by omega), pL_1, w3]
      by_cases hs : j + 1 < (E.getD s d5).2.2.1
      · rw [if_pos ((o3_lt (by omega) (by omega)).mpr hs)]
        refine nxt _ ?_ (fun a i h => by rw [pI_ne (by omega)]; rfl) (fun a i h => pL_ne h)
        unfold rowC cPs
        dsimp only
        rw [if_pos h0, if_pos h0, if_pos h0, if_pos h0, if_pos h0, if_pos (hst.mpr hs), if_pos (hst.mpr hs), if_pos (hst.mpr hs), if_pos (hst.mpr hs), pI_ne (by omega), pI_ne (by omega), pI_eq, pI_ne (by omega), e4, o3_s, e3, o3_nat (by omega)]
        exact ⟨k1, k2.trans e3, rfl, k4, pL_eq⟩
      · rw [if_neg (fun q => hs ((o3_lt (by omega) (by omega)).mp q)), gI_o (by omega) (by omega), bd_some, pI_ne (by omega), pL_1, k4, e6]
        unfold f_X0_putOn
        rw [sI_o (by omega) (by omega), bd_some, sI_o (by omega) (by omega), bd_some, sI_o (by omega) (by omega), bd_some, sI_o (by omega) (by omega), bd_some, bd_some]
        refine nxt _ ?_ (fun a i h => by rw [pI_ne (by omega), pI_ne (by omega), pI_ne (by omega), pI_ne (by omega), pI_ne (by omega)]; rfl) (fun a i h => pL_ne h)
        unfold rowC cPs
        dsimp only
        have hns : ¬ stays E C k := fun q => hs (hst.mp q)
        rw [if_pos h0, if_pos h0, if_pos h0, if_pos h0, if_pos h0, if_neg hns, if_neg hns, if_neg hns, if_neg hns, pI_eq, e6]
        refine ⟨?_, ?_, ?_, rfl, ?_⟩
        · rw [pI_ne (by omega), pI_ne (by omega), pI_ne (by omega), pI_eq]
        · rw [pI_ne (by omega), pI_ne (by omega), pI_eq]
        · rw [pI_ne (by omega), pI_eq]
        · rw [e3, o3_nat (by omega)]; exact pL_eq
theorem c_pass {S : fS} (htc : t + 6 < c) (hF : ∀ q ∈ F, okF q) (hE : ∀ q ∈ E, okS F.length q) (hm : F.length ≤ 10) (hl : E.length ≤ 12) (hC : okD F.length E C) (hS : cwC S c C) (hT : twC S t F E) : ∃ T, f_X0_passHour c t S = some T ∧ cwC T c (cPs F E C) ∧ ∀ p, eG c p S T := by
  unfold f_X0_passHour
  obtain ⟨T, t1, t2, t3, t4⟩ := cp_loop htc hF hE hm hl hC (K := fun S49 => (some (pI S49 c 6 ((S49.1 c 6) + (1 : Int32)))).bind fun S51 => some S51) C.1 0 FU S (by omega) (FU_lt (by have := hC.1; omega)) hS.1 (fun j hj => absurd hj (Nat.not_lt_zero _)) (fun j _ hj => hS.2.2 j hj) hT
  have t1' : lp_X0_passHour_2 c t (fun S49 => (some (pI S49 c 6 ((S49.1 c 6) + (1 : Int32)))).bind fun S51 => some S51) FU (0 : Int32) S = (fun S49 => (some (pI S49 c 6 ((S49.1 c 6) + (1 : Int32)))).bind fun S51 => some S51) T := t1
  rw [t1']
  dsimp only
  rw [bd_some, t3 c 6 (by omega), hS.2.1, o3_s]
  refine ⟨_, rfl, ⟨?_, ?_, fun k hk => ?_⟩, fun p => ⟨fun a j h1 h2 _ => ?_, fun a j h1 _ => t4 a j h1⟩⟩
  · rw [pI_ne (by omega), t3 c 5 (by omega)]; exact hS.1
  · rw [pI_eq]; rfl
  · obtain ⟨r1, r2, r3, r4, r5⟩ := t2 k hk
    rw [pI_ne (by omega), pI_ne (by omega), pI_ne (by omega), pI_ne (by omega)]
    exact ⟨r1, r2, r3, r4, r5⟩
  · rw [pI_ne h2, t3 a j h1]
theorem lv_n {v x : Int32} {K : fS → Option fS} {n : Nat} {S : fS} : lp_X0_live_3 c t none v K (n + 1) x S = if v ≤ x then K S else ((f_X0_passHour c t S).bind fun q3 => lp_X0_live_3 c t none v K n (x + 1) q3) := rfl
theorem lv_s {r : Nat} {v x : Int32} {K : fS → Option fS} {n : Nat} {S : fS} : lp_X0_live_3 c t (some r) v K (n + 1) x S = if v ≤ x then K S else ((f_X0_obey c t r S).bind fun q6 => (f_X0_passHour c t q6).bind fun q9 => lp_X0_live_3 c t (some r) v K n (x + 1) q9) := rfl
/-- the rule by which one lives, where the class holds it -/
def ruC (S : fS) (p : Option Nat) (Q : Option (List Cl)) : Prop := (p = none ∧ Q = none) ∨ ∃ r L, p = some r ∧ Q = some L ∧ cdC S r (ccode L) ∧ okRu L
theorem c_live {p : Option Nat} {Q : Option (List Cl)} (htc : t + 6 < c) (hcp : c + 5 < p.getD 127) (hF : ∀ q ∈ F, okF q) (hE : ∀ q ∈ E, okS F.length q) (hm : F.length ≤ 10) (hl : E.length ≤ 12) {h : Nat} (hh : h < 2147483648) {K : fS → Option fS} : ∀ d k nn (S : fS) (C : Cw), k + d = h → d < nn → okD F.length E C → C.2.1 + d ≤ 10199 → cwC S c C → twC S t F E → rWm S (t + 6) F.length (dst E) → ruC S p Q → ∃ T, lp_X0_live_3 c t p (o3 h) K nn (o3 k) S = K T ∧ cwC T c (cHrs F E Q d C) ∧ eG c (p.getD 127) S T := by
  intro d
  induction d with
  | zero =>
    intro k nn S C hk hnn hC h9 hS hT hW hR
    obtain ⟨nn, rfl⟩ : ∃ z, nn = z + 1 := ⟨nn - 1, by omega⟩
    have hle : o3 h ≤ o3 k := (o3_le (by omega) (by omega)).mpr (by omega)
    cases p with
    | none => rw [lv_n, if_pos hle]; exact ⟨S, rfl, hS, eG.rf⟩
    | some r => rw [lv_s, if_pos hle]; exact ⟨S, rfl, hS, eG.rf⟩
  | succ d ih =>
    intro k nn S C hk hnn hC h9 hS hT hW hR
    obtain ⟨nn, rfl⟩ : ∃ z, nn = z + 1 := ⟨nn - 1, by omega⟩
    have hle : ¬ o3 h ≤ o3 k := fun q => by have := (o3_le (by omega) (by omega)).mp q; omega
    rcases hR with ⟨rfl, rfl⟩ | ⟨r, L, rfl, rfl, hD, hL⟩
    · obtain ⟨T1, a1, a2, a3⟩ := c_pass htc hF hE hm hl hC hS hT
      have a3 := a3 127
      have hcp : c + 5 < 127 := hcp
      rw [lv_n, if_neg hle, o3_s, a1, bd_some]
      obtain ⟨b1, b2, b3⟩ := cHr_ok (Q := none) hC hF hE hm hl (by omega)
      obtain ⟨T, c1, c2, c3⟩ := ih (k + 1) nn T1 (cHr F E none C) (by omega) (by omega) b1 (by omega) a2 (twC_eq hT (fun a j x y => a3.1 a j (by omega) (by omega) (by omega)) (fun a j x y => a3.2 a j (by omega) (by omega))) (rWm_eq hW (fun j => a3.1 _ j (by omega) (by omega) (by omega))) (Or.inl ⟨rfl, rfl⟩)
      exact ⟨T, c1, c2, a3.tr c3⟩
    · have hcp : c + 5 < r := hcp
      obtain ⟨T0, z1, z2, z3⟩ := ch_obey (K := fun S22 => some S22) htc hcp hF hE hm hl hL C.1 0 FU S (by omega) (FU_lt (by have := hC.1; omega)) hC hS hT hW hD
      have z1' : f_X0_obey c t r S = some T0 := z1
      obtain ⟨o1, o2, o4⟩ := cOb_ok (Q := L) hC hE hm C.1 (Nat.le_refl _)
      have hT0 := twC_eq hT (fun a j x y => z3.1 a j (by omega) (by omega) (by omega)) (fun a j x y => z3.2 a j (by omega) (by omega))
      obtain ⟨T1, a1, a2, a3⟩ := c_pass htc hF hE hm hl o1 z2 hT0
      have a3 := z3.tr (a3 r)
      rw [lv_s, if_neg hle, o3_s, z1', bd_some, a1, bd_some]
      obtain ⟨b1, b2, b3⟩ := cHr_ok (Q := some L) hC hF hE hm hl (by omega)
      obtain ⟨T, c1, c2, c3⟩ := ih (k + 1) nn T1 (cHr F E (some L) C) (by omega) (by omega) b1 (by omega) a2 (twC_eq hT (fun a j x y => a3.1 a j (by omega) (by omega) (by omega)) (fun a j x y => a3.2 a j (by omega) (by omega))) (rWm_eq hW (fun j => a3.1 _ j (by omega) (by omega) (by omega))) (Or.inr ⟨r, L, rfl, rfl, cdC_eq hD (a3.1 _ _ (by omega) (by omega) (by omega)) (fun j => a3.1 _ j (by omega) (by omega) (by omega)), hL⟩)
      exact ⟨T, c1, c2, a3.tr c3⟩
end CP
end
