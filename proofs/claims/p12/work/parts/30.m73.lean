section
/-! ahead(), elder() -/
theorem kp_2 {K : fS → Option fS} : ∀ d k nn (S : fS), k + d = 158 → d < nn → (∀ j, j < k → S.1 159 j = S.1 157 j) → ∃ T, lp_X11_keeps_2 K nn (o3 k) S = K T ∧ (∀ j, j < 158 → T.1 159 j = S.1 157 j) ∧ (∀ a j, a ≠ 159 → T.1 a j = S.1 a j) ∧ T.2 = S.2 := by
  intro d
  induction d with
  | zero =>
    intro k nn S hk hnn hj
    obtain ⟨nn, rfl⟩ : ∃ z, nn = z + 1 := ⟨nn - 1, by omega⟩
    rw [lp_X11_keeps_2.eq_2, if_pos (show (158 : Int32) ≤ o3 k from (o3_le (a := 158) (by omega) (by omega)).mpr (by omega))]
    exact ⟨S, rfl, fun j h => hj j (by omega), fun _ _ _ => rfl, rfl⟩
  | succ d ih =>
    intro k nn S hk hnn hj
    obtain ⟨nn, rfl⟩ : ∃ z, nn = z + 1 := ⟨nn - 1, by omega⟩
    rw [lp_X11_keeps_2.eq_2, if_neg (show ¬ (158 : Int32) ≤ o3 k from fun q => by have := (o3_le (a := 158) (by omega) (by omega)).mp q; omega), gI_o (by omega) (by omega), bd_some, sI_o (by omega) (by omega), bd_some, o3_s]
    obtain ⟨T, t1, t2, t3, t4⟩ := ih (k + 1) nn (pI S 159 k (S.1 157 k)) (by omega) (by omega) (fun j h => by
      rw [pI_ne (b := 157) (by omega)]
      by_cases e : j = k
      · subst e; rw [pI_eq]
      · rw [pI_ne (by omega)]; exact hj j (by omega))
    exact ⟨T, t1, fun j h => by rw [t2 j h, pI_ne (by omega)], fun a j h => by rw [t3 a j h, pI_ne (by omega)], t4⟩
theorem kp_29 {K : fS → Option fS} : ∀ d k nn (S : fS), k + d = 8 → d < nn → (∀ j, j < k → S.2 160 j = S.2 158 j) → ∃ T, lp_X11_keeps_29 K nn (o3 k) S = K T ∧ (∀ j, j < 8 → T.2 160 j = S.2 158 j) ∧ (∀ a j, a ≠ 160 → T.2 a j = S.2 a j) ∧ T.1 = S.1 := by
  intro d
  induction d with
  | zero =>
    intro k nn S hk hnn hj
    obtain ⟨nn, rfl⟩ : ∃ z, nn = z + 1 := ⟨nn - 1, by omega⟩
    rw [lp_X11_keeps_29.eq_2, if_pos (show (8 : Int32) ≤ o3 k from (o3_le (a := 8) (by omega) (by omega)).mpr (by omega))]
    exact ⟨S, rfl, fun j h => hj j (by omega), fun _ _ _ => rfl, rfl⟩
  | succ d ih =>
    intro k nn S hk hnn hj
    obtain ⟨nn, rfl⟩ : ∃ z, nn = z + 1 := ⟨nn - 1, by omega⟩
    rw [lp_X11_keeps_29.eq_2, if_neg (show ¬ (8 : Int32) ≤ o3 k from fun q => by have := (o3_le (a := 8) (by omega) (by omega)).mp q; omega), gL_o (by omega) (by omega), bd_some, sL_o (by omega) (by omega), bd_some, o3_s]
    obtain ⟨T, t1, t2, t3, t4⟩ := ih (k + 1) nn (pL S 160 k (S.2 158 k)) (by omega) (by omega) (fun j h => by
      rw [pL_ne (b := 158) (by omega)]
      by_cases e : j = k
      · subst e; rw [pL_eq]
      · rw [pL_ne (by omega)]; exact hj j (by omega))
    exact ⟨T, t1, fun j h => by rw [t2 j h, pL_ne (by omega)], fun a j h => by rw [t3 a j h, pL_ne (by omega)], t4⟩
theorem pb_2 {K : fS → Option fS} : ∀ d k nn (S : fS), k + d = 158 → d < nn → (∀ j, j < k → S.1 157 j = S.1 159 j) → ∃ T, lp_X11_putsBack_2 K nn (o3 k) S = K T ∧ (∀ j, j < 158 → T.1 157 j = S.1 159 j) ∧ (∀ a j, a ≠ 157 → T.1 a j = S.1 a j) ∧ T.2 = S.2 := by
  intro d
  induction d with
  | zero =>
    intro k nn S hk hnn hj
    obtain ⟨nn, rfl⟩ : ∃ z, nn = z + 1 := ⟨nn - 1, by omega⟩
    rw [lp_X11_putsBack_2.eq_2, if_pos (show (158 : Int32) ≤ o3 k from (o3_le (a := 158) (by omega) (by omega)).mpr (by omega))]
    exact ⟨S, rfl, fun j h => hj j (by omega), fun _ _ _ => rfl, rfl⟩
  | succ d ih =>
    intro k nn S hk hnn hj
    obtain ⟨nn, rfl⟩ : ∃ z, nn = z + 1 := ⟨nn - 1, by omega⟩
    rw [lp_X11_putsBack_2.eq_2, if_neg (show ¬ (158 : Int32) ≤ o3 k from fun q => by have := (o3_le (a := 158) (by omega) (by omega)).mp q; omega), gI_o (by omega) (by omega), bd_some, sI_o (by omega) (by omega), bd_some, o3_s]
    obtain ⟨T, t1, t2, t3, t4⟩ := ih (k + 1) nn (pI S 157 k (S.1 159 k)) (by omega) (by omega) (fun j h => by
      rw [pI_ne (b := 159) (by omega)]
      by_cases e : j = k
      · subst e; rw [pI_eq]
      · rw [pI_ne (by omega)]; exact hj j (by omega))
    exact ⟨T, t1, fun j h => by rw [t2 j h, pI_ne (by omega)], fun a j h => by rw [t3 a j h, pI_ne (by omega)], t4⟩
theorem pb_29 {K : fS → Option fS} : ∀ d k nn (S : fS), k + d = 8 → d < nn → (∀ j, j < k → S.2 158 j = S.2 160 j) → ∃ T, lp_X11_putsBack_29 K nn (o3 k) S = K T ∧ (∀ j, j < 8 → T.2 158 j = S.2 160 j) ∧ (∀ a j, a ≠ 158 → T.2 a j = S.2 a j) ∧ T.1 = S.1 := by
  intro d
  induction d with
  | zero =>
    intro k nn S hk hnn hj
    obtain ⟨nn, rfl⟩ : ∃ z, nn = z + 1 := ⟨nn - 1, by omega⟩
    rw [lp_X11_putsBack_29.eq_2, if_pos (show (8 : Int32) ≤ o3 k from (o3_le (a := 8) (by omega) (by omega)).mpr (by omega))]
    exact ⟨S, rfl, fun j h => hj j (by omega), fun _ _ _ => rfl, rfl⟩
  | succ d ih =>
    intro k nn S hk hnn hj
    obtain ⟨nn, rfl⟩ : ∃ z, nn = z + 1 := ⟨nn - 1, by omega⟩
    rw [lp_X11_putsBack_29.eq_2, if_neg (show ¬ (8 : Int32) ≤ o3 k from fun q => by have := (o3_le (a := 8) (by omega) (by omega)).mp q; omega), gL_o (by omega) (by omega), bd_some, sL_o (by omega) (by omega), bd_some, o3_s]
    obtain ⟨T, t1, t2, t3, t4⟩ := ih (k + 1) nn (pL S 158 k (S.2 160 k)) (by omega) (by omega) (fun j h => by
      rw [pL_ne (b := 160) (by omega)]
      by_cases e : j = k
      · subst e; rw [pL_eq]
      · rw [pL_ne (by omega)]; exact hj j (by omega))
    exact ⟨T, t1, fun j h => by rw [t2 j h, pL_ne (by omega)], fun a j h => by rw [t3 a j h, pL_ne (by omega)], t4⟩
theorem m_keeps (S : fS) : ∃ T, f_X11_keeps S = some T ∧ (∀ j, j < 158 → T.1 159 j = S.1 157 j) ∧ (∀ j, j < 8 → T.2 160 j = S.2 158 j) ∧ (∀ a j, a ≠ 159 → T.1 a j = S.1 a j) ∧ (∀ a j, a ≠ 160 → T.2 a j = S.2 a j) := by
  obtain ⟨T1, a1, a2, a3, a4⟩ := kp_2 (K := fun S8 => lp_X11_keeps_29 (fun S17 => some S17) FU (0 : Int32) S8) 158 0 FU S (by omega) (FU_lt (by omega)) (fun j hj => absurd hj (Nat.not_lt_zero _))
  obtain ⟨T2, b1, b2, b3, b4⟩ := kp_29 (K := fun S17 => some S17) 8 0 FU T1 (by omega) (FU_lt (by omega)) (fun j hj => absurd hj (Nat.not_lt_zero _))
  exact ⟨T2, a1.trans b1, fun j hj => by rw [b4, a2 j hj], fun j hj => by rw [b2 j hj, a4], fun a j h => by rw [b4, a3 a j h], fun a j h => by rw [b3 a j h, a4]⟩
theorem m_puts (S : fS) : ∃ T, f_X11_putsBack S = some T ∧ (∀ j, j < 158 → T.1 157 j = S.1 159 j) ∧ (∀ j, j < 8 → T.2 158 j = S.2 160 j) ∧ (∀ a j, a ≠ 157 → T.1 a j = S.1 a j) ∧ (∀ a j, a ≠ 158 → T.2 a j = S.2 a j) := by
  obtain ⟨T1, a1, a2, a3, a4⟩ := pb_2 (K := fun S8 => lp_X11_putsBack_29 (fun S17 => some S17) FU (0 : Int32) S8) 158 0 FU S (by omega) (FU_lt (by omega)) (fun j hj => absurd hj (Nat.not_lt_zero _))
  obtain ⟨T2, b1, b2, b3, b4⟩ := pb_29 (K := fun S17 => some S17) 8 0 FU T1 (by omega) (FU_lt (by omega)) (fun j hj => absurd hj (Nat.not_lt_zero _))
  exact ⟨T2, a1.trans b1, fun j hj => by rw [b4, a2 j hj], fun j hj => by rw [b2 j hj, a4], fun a j h => by rw [b4, a3 a j h], fun a j h => by rw [b3 a j h, a4]⟩
section AHL
variable {F : List (Nat × Nat)} {E : List St5}
theorem m_aheadl {v p3 p4 : Int32} {Q : Option (List Cl)} (hF : ∀ q ∈ F, okF q) (hE : ∀ q ∈ E, okS F.length q) (hm : F.length ≤ 10) (hl : E.length ≤ 12) {h : Nat} (hh : h < 2147483648) {K : fS → Option (Int64 × fS)} : ∀ d k nn (S : fS) (C : Cw), k + d = h → d < nn → okD F.length E C → C.2.1 + d ≤ 10199 → cwM (S.1 157) (S.2 158) C → twM (S.1 157) F E → rHm S F.length (dst E) → ruM S v Q → ∃ T, lp_X11_ahead_52 v (o3 h) p3 p4 K nn (o3 k) S = K T ∧ cwM (T.1 157) (T.2 158) (cHrs F E Q d C) ∧ eI S T := by
  intro d
  induction d with
  | zero =>
    intro k nn S C hk hnn hC h9 hS hT hW hR
    obtain ⟨nn, rfl⟩ : ∃ z, nn = z + 1 := ⟨nn - 1, by omega⟩
    rw [lp_X11_ahead_52.eq_2, if_pos ((o3_le (by omega) (by omega)).mpr (by omega))]
    exact ⟨S, rfl, hS, eI.rf⟩
  | succ d ih =>
    intro k nn S C hk hnn hC h9 hS hT hW hR
    obtain ⟨nn, rfl⟩ : ∃ z, nn = z + 1 := ⟨nn - 1, by omega⟩
    rw [lp_X11_ahead_52.eq_2, if_neg (fun q => by have := (o3_le (by omega) (by omega)).mp q; omega), o3_s]
    obtain ⟨T1, a1, a2, a3⟩ := m_hour hF hE hm hl hC hS hT hW hR
    obtain ⟨b1, b2, b3⟩ := cHr_ok (Q := Q) hC hF hE hm hl (by omega)
    rw [a1, bd_some]
    obtain ⟨T, c1, c2, c3⟩ := ih (k + 1) nn T1 (cHr F E Q C) (by omega) (by omega) b1 (by omega) a2 (twM_eq hm hl hT (fun j hj => a3.1 157 j (by omega) (by omega))) (rHm_eq hW (fun j => a3.2 _ j (by omega) (by omega) (by omega))) (ruM_eq hR a3)
    exact ⟨T, c1, c2, a3.tr c3⟩
theorem m_elderl {v p3 : Int32} {Q : Option (List Cl)} (hF : ∀ q ∈ F, okF q) (hE : ∀ q ∈ E, okS F.length q) (hm : F.length ≤ 10) (hl : E.length ≤ 12) {h : Nat} (hh : h < 2147483648) {K : fS → Option (Int64 × fS)} : ∀ d k nn (S : fS) (C : Cw), k + d = h → d < nn → okD F.length E C → C.2.1 + d ≤ 10199 → cwM (S.1 157) (S.2 158) C → twM (S.1 157) F E → rHm S F.length (dst E) → ruM S v Q → ∃ T, lp_X11_elder_57 v (o3 h) p3 K nn (o3 k) S = K T ∧ cwM (T.1 157) (T.2 158) (cHrs F E Q d C) ∧ eI S T := by
  intro d
  induction d with
  | zero =>
    intro k nn S C hk hnn hC h9 hS hT hW hR
    obtain ⟨nn, rfl⟩ : ∃ z, nn = z + 1 := ⟨nn - 1, by omega⟩
    rw [lp_X11_elder_57.eq_2, if_pos ((o3_le (by omega) (by omega)).mpr (by omega))]
    exact ⟨S, rfl, hS, eI.rf⟩
  | succ d ih =>
    intro k nn S C hk hnn hC h9 hS hT hW hR
    obtain ⟨nn, rfl⟩ : ∃ z, nn = z + 1 := ⟨nn - 1, by omega⟩
    rw [lp_X11_elder_57.eq_2, if_neg (fun q => by have := (o3_le (by omega) (by omega)).mp q; omega), o3_s]
    obtain ⟨T1, a1, a2, a3⟩ := m_hour hF hE hm hl hC hS hT hW hR
    obtain ⟨b1, b2, b3⟩ := cHr_ok (Q := Q) hC hF hE hm hl (by omega)
    rw [a1, bd_some]
    obtain ⟨T, c1, c2, c3⟩ := ih (k + 1) nn T1 (cHr F E Q C) (by omega) (by omega) b1 (by omega) a2 (twM_eq hm hl hT (fun j hj => a3.1 157 j (by omega) (by omega))) (rHm_eq hW (fun j => a3.2 _ j (by omega) (by omega) (by omega))) (ruM_eq hR a3)
    exact ⟨T, c1, c2, a3.tr c3⟩
end AHL
theorem age_oD {m : Nat} {E : List St5} {C : Cw} (h : okD m E C) {k : Nat} (hk : k < C.1) : ∃ a, C.2.2.2.2.2.2 k = o6 a ∧ a ≤ 50000000000000 := by
  obtain ⟨_, h1, h2⟩ := h
  obtain ⟨_, h3, h4⟩ := h2 k hk
  obtain ⟨a, e1, e2⟩ := o6_of h3
  exact ⟨a, e1, by omega⟩
theorem rSc_eq' {s : Sn} {S T : fS} (h : rSc s S) (h1 : ∀ a k, 3 < a → a ≤ 21 → T.1 a k = S.1 a k) (h2 : ∀ a k, 3 < a → a ≤ 21 → T.2 a k = S.2 a k) (h3 : 0 ≤ (T.1 3 3).toInt) (h4 : ∀ k, k < 158 → T.1 157 k = S.1 157 k) (h5 : ∀ k, k < 8 → T.2 158 k = S.2 158 k) (h6 : ∀ k, T.2 161 k = S.2 161 k) : rSc s T := by
  obtain ⟨a, b, c, d⟩ := h
  exact ⟨a, scC_eq b (fun x k p q => h1 x k (by omega) (by omega)) (fun x k p q => h2 x k (by omega) (by omega)) h3, scM_cg a c h4 h5, rHm_eq d h6⟩
/-- the class looks ahead: its spare crowd lives on -/
theorem c_look {S : fS} {s : Sn} {L : List (List Cl)} {v : Int32} {h : Nat} (hS : rSc s S) (hL : rRu L S) (hv : -1 ≤ v.toInt ∧ v.toInt < L.length) (hh : h ≤ 200) : ∃ S1 Q, f_X10_lookAhead v (o3 h) S = some S1 ∧ cwC S1 31 (cHrs s.1 s.2.1 Q h s.2.2.1) ∧ okD s.1.length s.2.1 (cHrs s.1 s.2.1 Q h s.2.2.1) ∧ (cHrs s.1 s.2.1 Q h s.2.2.1).1 = s.2.2.1.1 ∧ (∀ T : fS, (∀ r, r < L.length → cdM T r (L.getD r [])) → ruM T v Q) ∧ (∀ a k, ¬ (31 ≤ a ∧ a ≤ 36) → ¬ (127 ≤ a ∧ a ≤ 144 ∧ k = 3 ∧ a % 3 = 1) → S1.1 a k = S.1 a k) ∧ (∀ a k, ¬ (31 ≤ a ∧ a ≤ 36) → ¬ (127 ≤ a ∧ a ≤ 144) → S1.2 a k = S.2 a k) := by
  obtain ⟨⟨n1, n2, n3, n4, n5, n6⟩, ⟨b1, b2, b3, b4, b5⟩, ⟨m1, m2, m3, m4⟩, d⟩ := hS
  have h8 := n5.1
  have h9 := n5.2.1
  obtain ⟨T, c1, c2, c3, c4, c5⟩ := c_copyC (S := S) (b := 31) (c := 11) (by omega)
  have hT : cwC T 31 s.2.2.1 := by
    refine ⟨c2.trans b3.1, c3.trans b3.2.1, fun k hk => ?_⟩
    obtain ⟨e1, e2, e3, e4, e5⟩ := c4 k (by omega)
    obtain ⟨g1, g2, g3, g4, g5⟩ := b3.2.2 k hk
    exact ⟨e1.trans g1, e2.trans g2, e3.trans g3, e4.trans g4, e5.trans g5⟩
  have hL1 : rRu L T := rRu_eq hL (c5 _ _ (by omega)).1 (c5 _ _ (by omega)).1 (fun a k _ _ _ => (c5 _ _ (by omega)).1) (fun a k _ => (c5 _ _ (by omega)).1)
  obtain ⟨p, Q, p1, p2, p3, p4, p5, p6⟩ := ru_both hL1 hv
  obtain ⟨S1, z1, z2, z3⟩ := c_live (p := p) (Q := Q) (t := 4) (c := 31) (by omega) (by omega) n3 n4 n1 n2 (h := h) (by omega) (K := fun S12 => some S12) h 0 FU T s.2.2.1 (by omega) (FU_lt (by omega)) (okD_of n5) (by omega) hT (twC_eq b1 (fun a k _ _ => (c5 a k (by omega)).1) (fun a k _ _ => (c5 a k (by omega)).2)) (rWm_eq b2 (fun k => (c5 _ k (by omega)).1)) (p2 T (fun r hr => (hL1.2.2.2 r hr).1))
  obtain ⟨k1, k2, k3⟩ := cHrs_ok (Q := Q) n3 n4 n1 n2 h s.2.2.1 (okD_of n5) (by omega)
  refine ⟨S1, Q, ?_, z2, k1, k2, p3, fun a k x y => (z3.1 a k (by omega) (by omega) (by omega)).trans (c5 a k (by omega)).1, fun a k x y => (z3.2 a k (by omega) (by omega)).trans (c5 a k (by omega)).2⟩
  unfold f_X10_lookAhead
  rw [c1, bd_some, p1, bd_some, show f_X0_live 31 4 p (o3 h) T = some S1 from z1, bd_some]
/-- what looking ahead leaves alike -/
theorem look_rel {S S1 S2 : fS} {n : Nat} {s : Sn} {L : List (List Cl)} {M : Nat → Option Sn} (hT : rTp n S) (hS : rSc s S) (hL : rRu L S) (hM : rIm M S) (f1 : ∀ a k, ¬ (31 ≤ a ∧ a ≤ 36) → ¬ (127 ≤ a ∧ a ≤ 144 ∧ k = 3 ∧ a % 3 = 1) → S1.1 a k = S.1 a k) (f2 : ∀ a k, ¬ (31 ≤ a ∧ a ≤ 36) → ¬ (127 ≤ a ∧ a ≤ 144) → S1.2 a k = S.2 a k) (g1 : ∀ a k, a ≠ 157 → a ≠ 159 → ¬ (a = 145 ∧ k = 23) → S2.1 a k = S1.1 a k) (g2 : ∀ a k, a ≠ 155 → a ≠ 156 → a ≠ 158 → a ≠ 160 → S2.2 a k = S1.2 a k) (g3 : ∀ k, k < 158 → S2.1 157 k = S1.1 157 k) (g4 : ∀ k, k < 8 → S2.2 158 k = S1.2 158 k) : Rel S2 := by
  have k1 : ∀ a k, ¬ (31 ≤ a ∧ a ≤ 36) → ¬ (127 ≤ a ∧ a ≤ 144 ∧ k = 3 ∧ a % 3 = 1) → a ≠ 157 → a ≠ 159 → ¬ (a = 145 ∧ k = 23) → S2.1 a k = S.1 a k := fun a k x y z w u => (g1 a k z w u).trans (f1 a k x y)
  have k2 : ∀ a k, ¬ (31 ≤ a ∧ a ≤ 36) → ¬ (127 ≤ a ∧ a ≤ 144) → a ≠ 155 → a ≠ 156 → a ≠ 158 → a ≠ 160 → S2.2 a k = S.2 a k := fun a k x y z w u v => (g2 a k z w u v).trans (f2 a k x y)
  refine ⟨n, s, L, M, ?_, ?_, ?_, ?_⟩
  · exact rTp_eq hT (k1 _ _ (by omega) (by omega) (by omega) (by omega) (by omega)) (k1 _ _ (by omega) (by omega) (by omega) (by omega) (by omega)) (fun k => k1 _ _ (by omega) (by omega) (by omega) (by omega) (by omega)) (fun k => k1 _ _ (by omega) (by omega) (by omega) (by omega) (by omega))
  · exact rSc_eq' hS (fun a k _ _ => k1 a k (by omega) (by omega) (by omega) (by omega) (by omega)) (fun a k _ _ => k2 a k (by omega) (by omega) (by omega) (by omega) (by omega) (by omega)) (by rw [k1 3 3 (by omega) (by omega) (by omega) (by omega) (by omega)]; exact hS.2.1.2.2.2.2) (fun k hk => (g3 k hk).trans (f1 _ _ (by omega) (by omega))) (fun k hk => (g4 k hk).trans (f2 _ _ (by omega) (by omega))) (fun k => k2 _ k (by omega) (by omega) (by omega) (by omega) (by omega) (by omega))
  · exact rRu_eq hL (k1 _ _ (by omega) (by omega) (by omega) (by omega) (by omega)) (k1 _ _ (by omega) (by omega) (by omega) (by omega) (by omega)) (fun a k x y z => k1 a k (by omega) (by omega) (by omega) (by omega) (by omega)) (fun a k _ => k1 a k (by omega) (by omega) (by omega) (by omega) (by omega))
  · exact rIm_eq hM (fun a k _ _ => k1 a k (by omega) (by omega) (by omega) (by omega) (by omega)) (fun a k _ _ => k2 a k (by omega) (by omega) (by omega) (by omega) (by omega) (by omega)) (fun k => k1 _ _ (by omega) (by omega) (by omega) (by omega) (by omega)) (fun k => k2 _ k (by omega) (by omega) (by omega) (by omega) (by omega) (by omega)) (fun k => k1 _ _ (by omega) (by omega) (by omega) (by omega) (by omega))
end
