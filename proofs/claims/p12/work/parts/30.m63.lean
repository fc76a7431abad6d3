section
/-! the reference: an hour passes; hours -/
def rowM (S : fS) (C : Cw) (k : Nat) : Prop := S.1 157 (90 + 4 * k) = C.2.2.1 k ∧ S.1 157 (90 + 4 * k + 1) = C.2.2.2.1 k ∧ S.1 157 (90 + 4 * k + 2) = C.2.2.2.2.1 k ∧ S.1 157 (90 + 4 * k + 3) = C.2.2.2.2.2.1 k ∧ S.2 158 k = C.2.2.2.2.2.2 k
theorem pI_2' {S : fS} {a k : Nat} {x : Int32} : (pI S a k x).2 = S.2 := rfl
section MPS
variable {F : List (Nat × Nat)} {E : List St5} {C : Cw}
theorem mp_floor {S : fS} (hT : twM (S.1 157) F E) (hF : ∀ q ∈ F, okF q) (hm : F.length ≤ 10) {f : Nat} (hf : f < F.length) : f_X11_floorParts (o3 f) S = some (pc (F.getD f (0, 0))) := by
  obtain ⟨o1, o2, o4, o5⟩ := hF _ (gd_mem (d := (0, 0)) hf)
  obtain ⟨e1, e2⟩ := hT.2.2.1 f hf
  unfold f_X11_floorParts
  rw [show (10 : Int32) = o3 10 from rfl, show (2 : Int32) = o3 2 from rfl, o3_mul, o3_add, gI_o (by omega) (by omega), bd_some, o3_s, gI_o (by omega) (by omega), bd_some, e1, e2, o6_of3 (by omega), o6_of3 (by omega), show (232792560 : Int64) = o6 232792560 from rfl, o6_dL (by omega) (by omega) (by omega), bd_some, o6_mul]
  rfl
theorem mp_stair {S : fS} (hT : twM (S.1 157) F E) (hE : ∀ q ∈ E, okS F.length q) (hl : E.length ≤ 12) {s : Nat} (hs : s < E.length) : f_X11_stairParts (o3 s) S = some (pc (E.getD s d5).2.2.2) := by
  obtain ⟨_, _, _, _, _, o1, o2, o4, o5⟩ := hE _ (gd_mem (d := d5) hs)
  obtain ⟨_, _, _, e1, e2⟩ := mh_stair hT hl hs
  have e1 : f_X11_stairOf (o3 s) 3 S = some (o3 (E.getD s d5).2.2.2.1) := e1
  have e2 : f_X11_stairOf (o3 s) 4 S = some (o3 (E.getD s d5).2.2.2.2) := e2
  unfold f_X11_stairParts
  rw [e1, bd_some, e2, bd_some, o6_of3 (by omega), o6_of3 (by omega), show (232792560 : Int64) = o6 232792560 from rfl, o6_dL (by omega) (by omega) (by omega), bd_some, o6_mul]
  rfl
theorem mp_loop (hF : ∀ q ∈ F, okF q) (hE : ∀ q ∈ E, okS F.length q) (hm : F.length ≤ 10) (hl : E.length ≤ 12) (hC : okD F.length E C) {K : fS → Option fS} : ∀ d k nn (S : fS), k + d = C.1 → d < nn → S.1 157 2 = o3 C.1 → (∀ j, j < k → rowM S (cPs F E C) j) → (∀ j, k ≤ j → j < C.1 → rowM S C j) → twM (S.1 157) F E → ∃ T, lp_X11_ageAll_2 K nn (o3 k) S = K T ∧ (∀ j, j < C.1 → rowM T (cPs F E C) j) ∧ (∀ a j, ¬ (a = 157 ∧ 90 ≤ j ∧ j < 122) → T.1 a j = S.1 a j) ∧ (∀ a j, a ≠ 158 → T.2 a j = S.2 a j) := by
  intro d
  induction d with
  | zero =>
    intro k nn S hk hnn h5 hn ho hT
    obtain ⟨nn, rfl⟩ : ∃ z, nn = z + 1 := ⟨nn - 1, by omega⟩
    have h8 := hC.1
    rw [lp_X11_ageAll_2.eq_2, show (2 : Int32) = o3 2 from rfl, gI_o (by omega) (by omega), bd_some, h5, if_pos ((o3_le (by omega) (by omega)).mpr (by omega))]
    exact ⟨S, rfl, fun j hj => hn j (by omega), fun _ _ _ => rfl, fun _ _ _ => rfl⟩
  | succ d ih =>
    intro k nn S hk hnn h5 hn ho hT
    obtain ⟨nn, rfl⟩ : ∃ z, nn = z + 1 := ⟨nn - 1, by omega⟩
    have h8 := hC.1
    obtain ⟨k1, k2, k3, k4, k5⟩ := ho k (Nat.le_refl _) (by omega)
    obtain ⟨d1, d2, d3⟩ := hC.2.2 k (by omega)
    have hth0 : ∀ U : fS, f_X11_thingOf (o3 k) 0 U = some (U.1 157 (90 + 4 * k)) := fun U => mw_thing (S := U) (a := 0) (by omega) (by omega)
    have hth1 : ∀ U : fS, f_X11_thingOf (o3 k) 1 U = some (U.1 157 (90 + 4 * k + 1)) := fun U => mw_thing (S := U) (a := 1) (by omega) (by omega)
    have hth2 : ∀ U : fS, f_X11_thingOf (o3 k) (o3 2) U = some (U.1 157 (90 + 4 * k + 2)) := fun U => mw_thing (S := U) (a := 2) (by omega) (by omega)
    have hth3 : ∀ U : fS, f_X11_thingOf (o3 k) 3 U = some (U.1 157 (90 + 4 * k + 3)) := fun U => mw_thing (S := U) (a := 3) (by omega) (by omega)
    have e92 : ((90 : Int32) + ((4 : Int32) * o3 k)) + o3 2 = o3 (90 + 4 * k + 2) := by rw [show (90 : Int32) = o3 90 from rfl, show (4 : Int32) = o3 4 from rfl, o3_mul, o3_add, o3_add]
    rw [lp_X11_ageAll_2.eq_2, show (2 : Int32) = o3 2 from rfl, gI_o (by omega) (by omega), bd_some, h5, if_neg (fun q => by have := (o3_le (by omega) (by omega)).mp q; omega), hth1, bd_some, k2, o3_s]
    have nxt : ∀ S1 : fS, rowM S1 (cPs F E C) k → (∀ a j, ¬ (a = 157 ∧ 90 + 4 * k ≤ j ∧ j < 90 + 4 * k + 4) → S1.1 a j = S.1 a j) → (∀ a j, ¬ (a = 158 ∧ j = k) → S1.2 a j = S.2 a j) → ∃ T, lp_X11_ageAll_2 K nn (o3 (k + 1)) S1 = K T ∧ (∀ j, j < C.1 → rowM T (cPs F E C) j) ∧ (∀ a j, ¬ (a = 157 ∧ 90 ≤ j ∧ j < 122) → T.1 a j = S.1 a j) ∧ (∀ a j, a ≠ 158 → T.2 a j = S.2 a j) := by
      intro S1 hr f1 f2
      have hrow : ∀ C' j, j ≠ k → rowM S C' j → rowM S1 C' j := fun C' j hj ⟨r1, r2, r3, r4, r5⟩ => ⟨(f1 _ _ (by omega)).trans r1, (f1 _ _ (by omega)).trans r2, (f1 _ _ (by omega)).trans r3, (f1 _ _ (by omega)).trans r4, (f2 _ _ (by omega)).trans r5⟩
      obtain ⟨T, t1, t2, t3, t4⟩ := ih (k + 1) nn S1 (by omega) (by omega) ((f1 157 2 (by omega)).trans h5) (fun j hj => by
        by_cases e : j = k
        · rw [e]; exact hr
        · exact hrow _ j e (hn j (by omega))) (fun j hj hj2 => hrow _ j (by omega) (ho j (by omega) hj2)) (twM_eq hm hl hT (fun j hj => f1 157 j (by omega)))
      exact ⟨T, t1, t2, fun a j h => (t3 a j h).trans (f1 a j (by omega)), fun a j h => (t4 a j h).trans (f2 a j (by omega))⟩
    rcases d1 with ⟨f, e1, e2, e3, e4, e5⟩ | ⟨s, j, f, e1, e2, e3, e4, e5, e6, e7⟩
    · have h0 : ¬ C.2.2.1 k < 0 := by rw [e2]; exact o3_nn (by omega)
      rw [e3, if_neg (show ¬ (0 : Int32) ≤ -1 by decide), gL_o (by omega) (by omega), bd_some, hth0, bd_some, k1, e2, mp_floor hT hF hm e1, bd_some, k5, sL_o (by omega) (by omega), bd_some]
      refine nxt _ ?_ (fun _ _ _ => rfl) (fun a j h => pL_ne h)
      unfold rowM cPs
      dsimp only
      rw [if_neg h0, if_neg h0, if_neg h0, if_neg h0, if_neg h0, pL_eq, e2, o3_nat (by omega)]
      exact ⟨k1.trans e2, k2, k3, k4, rfl⟩
    · have h0 : C.2.2.1 k < 0 := by rw [e2]; decide
      obtain ⟨s1, s2, s3, s4, s5, s6⟩ := hE _ (gd_mem (d := d5) e1)
      have hst : stays E C k ↔ j + 1 < (E.getD s d5).2.2.1 := by
        unfold stays
        rw [e3, e4, o3_s, o3_nat (by omega), o3_lt (by omega) (by omega)]
      rw [e3, if_pos (o3_0le (by omega)), gL_o (by omega) (by omega), bd_some, mp_stair hT hE hl e1, bd_some, k5, sL_o (by omega) (by omega), bd_some, e92, gI_o (by omega) (by omega), bd_some, pL_1, k3, e4, o3_s, sI_o (by omega) (by omega), bd_some, hth2, bd_some, pI_eq]
      have hT2 : twM ((pI (pL S 158 k (C.2.2.2.2.2.2 k + pc (E.getD s d5).2.2.2)) 157 (90 + 4 * k + 2) (o3 (j + 1))).1 157) F E := twM_eq hm hl hT (fun i hi => by rw [pI_ne (by omega)]; rfl)
      rw [(mh_stair hT2 hl e1).2.2.1, bd_some]
      by_cases hs : j + 1 < (E.getD s d5).2.2.1
      · rw [if_neg (fun q => by have := (o3_inj (by omega) (by omega)).mp q; omega)]
        refine nxt _ ?_ (fun a i h => by rw [pI_ne (by omega)]; rfl) (fun a i h => pL_ne h)
        unfold rowM cPs
        dsimp only
        rw [if_pos h0, if_pos h0, if_pos h0, if_pos h0, if_pos h0, if_pos (hst.mpr hs), if_pos (hst.mpr hs), if_pos (hst.mpr hs), if_pos (hst.mpr hs), pI_ne (by omega), pI_ne (by omega), pI_eq, pI_ne (by omega), e4, o3_s, e3, o3_nat (by omega)]
        exact ⟨k1, k2.trans e3, rfl, k4, by rw [pI_2', pL_eq]⟩
      · rw [if_pos ((o3_inj (by omega) (by omega)).mpr (by omega)), hth3, bd_some, pI_ne (by omega), pL_1, k4, e6, m_stands (by omega), bd_some]
        obtain ⟨z1, z2, z3, z4⟩ := st4_eq (S := pI (pL S 158 k (C.2.2.2.2.2.2 k + pc (E.getD s d5).2.2.2)) 157 (90 + 4 * k + 2) (o3 (j + 1))) (t := k) (f := o3 f)
        refine nxt _ ?_ (fun a i h => by rw [st4_ne h, pI_ne (by omega)]; rfl) (fun a i h => by rw [st4_2]; exact pL_ne h)
        unfold rowM cPs
        dsimp only
        have hns : ¬ stays E C k := fun q => hs (hst.mp q)
        rw [if_pos h0, if_pos h0, if_pos h0, if_pos h0, if_pos h0, if_neg hns, if_neg hns, if_neg hns, if_neg hns, e6]
        refine ⟨z1, z2, z3, z4, ?_⟩
        rw [st4_2, e3, o3_nat (by omega), pI_2', pL_eq]
theorem m_pass {S : fS} (hF : ∀ q ∈ F, okF q) (hE : ∀ q ∈ E, okS F.length q) (hm : F.length ≤ 10) (hl : E.length ≤ 12) (hC : okD F.length E C) (hS : cwM (S.1 157) (S.2 158) C) (hT : twM (S.1 157) F E) : ∃ T, f_X11_ageAll S = some T ∧ cwM (T.1 157) (T.2 158) (cPs F E C) ∧ eI S T := by
  unfold f_X11_ageAll
  have h8 := hC.1
  obtain ⟨T, t1, t2, t3, t4⟩ := mp_loop hF hE hm hl hC (K := fun S49 => (gI S49 157 158 (3 : Int32)).bind fun a51 => (sI S49 157 158 (3 : Int32) (a51 + (1 : Int32))).bind fun S54 => some S54) C.1 0 FU S (by omega) (FU_lt (by omega)) hS.1 (fun j hj => absurd hj (Nat.not_lt_zero _)) (fun j _ hj => hS.2.2 j hj) hT
  have t1' : lp_X11_ageAll_2 (fun S49 => (gI S49 157 158 (3 : Int32)).bind fun a51 => (sI S49 157 158 (3 : Int32) (a51 + (1 : Int32))).bind fun S54 => some S54) FU (0 : Int32) S = (fun S49 => (gI S49 157 158 (3 : Int32)).bind fun a51 => (sI S49 157 158 (3 : Int32) (a51 + (1 : Int32))).bind fun S54 => some S54) T := t1
  rw [t1']
  dsimp only
  rw [show (3 : Int32) = o3 3 from rfl, gI_o (by omega) (by omega), bd_some, t3 157 3 (by omega), hS.2.1, o3_s, sI_o (by omega) (by omega), bd_some]
  refine ⟨_, rfl, ⟨?_, ?_, fun k hk => ?_⟩, fun a j h1 h2 => ?_, fun a j h1 h2 h3 => t4 a j h3⟩
  · rw [pI_ne (by omega), t3 157 2 (by omega)]; exact hS.1
  · rw [pI_eq]; rfl
  · obtain ⟨r1, r2, r3, r4, r5⟩ := t2 k hk
    rw [pI_ne (by omega), pI_ne (by omega), pI_ne (by omega), pI_ne (by omega)]
    exact ⟨r1, r2, r3, r4, r5⟩
  · rw [pI_ne (by omega), t3 a j (by omega)]
/-- the rule by which one lives, as the reference holds it -/
def ruM (S : fS) (v : Int32) (Q : Option (List Cl)) : Prop := (v = -1 ∧ Q = none) ∨ ∃ r L, r < 6 ∧ v = o3 r ∧ Q = some L ∧ cdM S r L
theorem ruM_eq {S T : fS} {v : Int32} {Q : Option (List Cl)} (h : ruM S v Q) (g : eI S T) : ruM T v Q := by
  rcases h with h | ⟨r, L, h1, h2, h3, h4⟩
  · exact Or.inl h
  · exact Or.inr ⟨r, L, h1, h2, h3, cdM_eq h4 (fun a k _ => g.1 a k (by omega) (by omega))⟩
theorem m_hour {S : fS} {v : Int32} {Q : Option (List Cl)} (hF : ∀ q ∈ F, okF q) (hE : ∀ q ∈ E, okS F.length q) (hm : F.length ≤ 10) (hl : E.length ≤ 12) (hC : okD F.length E C) (hS : cwM (S.1 157) (S.2 158) C) (hT : twM (S.1 157) F E) (hW : rHm S F.length (dst E)) (hR : ruM S v Q) : ∃ T, f_X11_hour v S = some T ∧ cwM (T.1 157) (T.2 158) (cHr F E Q C) ∧ eI S T := by
  unfold f_X11_hour
  have h8 := hC.1
  rcases hR with ⟨rfl, rfl⟩ | ⟨r, L, hr, rfl, rfl, hD⟩
  · obtain ⟨fu, hfu⟩ : ∃ z, FU = z + 1 := ⟨FU - 1, by have := FU_lt (d := 1) (by omega); omega⟩
    obtain ⟨T, a1, a2, a3⟩ := m_pass hF hE hm hl hC hS hT
    rw [hfu, lp_X11_hour_2.eq_2, show (2 : Int32) = o3 2 from rfl, gI_o (by omega) (by omega), bd_some, hS.1]
    by_cases hz : o3 C.1 ≤ (0 : Int32)
    · rw [if_pos hz, a1]; exact ⟨T, rfl, a2, a3⟩
    · rw [if_neg hz, if_pos (show (-1 : Int32) < 0 by decide), a1]; exact ⟨T, rfl, a2, a3⟩
  · obtain ⟨T0, z1, z2, z3⟩ := mh_obey (K := fun S31 => (f_X11_ageAll S31).bind fun q33 => some q33) hr hF hE hm hl hD.2.2.2.2.1 C.1 0 FU S (by omega) (FU_lt (by omega)) hC hS hT hW hD
    have z1' : lp_X11_hour_2 (o3 r) (fun S31 => (f_X11_ageAll S31).bind fun q33 => some q33) FU (0 : Int32) S = (fun S31 => (f_X11_ageAll S31).bind fun q33 => some q33) T0 := z1
    obtain ⟨o1, o2, o4⟩ := cOb_ok (Q := L) hC hE hm C.1 (Nat.le_refl _)
    obtain ⟨T, a1, a2, a3⟩ := m_pass hF hE hm hl o1 z2 (twM_eq hm hl hT (fun j hj => z3.1 157 j (by omega) (by omega)))
    rw [z1']
    dsimp only
    rw [a1]
    exact ⟨T, rfl, a2, z3.tr a3⟩
theorem m_tickl {v : Int32} {Q : Option (List Cl)} (hF : ∀ q ∈ F, okF q) (hE : ∀ q ∈ E, okS F.length q) (hm : F.length ≤ 10) (hl : E.length ≤ 12) {h : Nat} (hh : h < 2147483648) {K : fS → Option (Int32 × fS)} : ∀ d k nn (S : fS) (C : Cw), k + d = h → d < nn → okD F.length E C → C.2.1 + d ≤ 10199 → cwM (S.1 157) (S.2 158) C → twM (S.1 157) F E → rHm S F.length (dst E) → ruM S v Q → ∃ T, lp_X11_tick_43 v (o3 h) K nn (o3 k) S = K T ∧ cwM (T.1 157) (T.2 158) (cHrs F E Q d C) ∧ eI S T := by
  intro d
  induction d with
  | zero =>
    intro k nn S C hk hnn hC h9 hS hT hW hR
    obtain ⟨nn, rfl⟩ : ∃ z, nn = z + 1 := ⟨nn - 1, by omega⟩
    rw [lp_X11_tick_43.eq_2, if_pos ((o3_le (by omega) (by omega)).mpr (by omega))]
    exact ⟨S, rfl, hS, eI.rf⟩
  | succ d ih =>
    intro k nn S C hk hnn hC h9 hS hT hW hR
    obtain ⟨nn, rfl⟩ : ∃ z, nn = z + 1 := ⟨nn - 1, by omega⟩
    rw [lp_X11_tick_43.eq_2, if_neg (fun q => by have := (o3_le (by omega) (by omega)).mp q; omega), o3_s]
    obtain ⟨T1, a1, a2, a3⟩ := m_hour hF hE hm hl hC hS hT hW hR
    obtain ⟨b1, b2, b3⟩ := cHr_ok (Q := Q) hC hF hE hm hl (by omega)
    rw [a1, bd_some]
    obtain ⟨T, c1, c2, c3⟩ := ih (k + 1) nn T1 (cHr F E Q C) (by omega) (by omega) b1 (by omega) a2 (twM_eq hm hl hT (fun j hj => a3.1 157 j (by omega) (by omega))) (rHm_eq hW (fun j => a3.2 _ j (by omega) (by omega) (by omega))) (ruM_eq hR a3)
    exact ⟨T, c1, c2, a3.tr c3⟩
end MPS
end
