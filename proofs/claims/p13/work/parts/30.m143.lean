section
/-! ahead(), elder() -/
theorem kp_2 {K : fS → Option fS} : ∀ d k nn (S : fS), k + d = 158 → d < nn → (∀ j, j < k → S.1 159 j = S.1 157 j) → ∃ T, lp_X11_keeps_2 K nn (o3 k) S = K T ∧ (∀ j, j < 158 → T.1 159 j = S.1 157 j) ∧ (∀ a j, a ≠ 159 → T.1 a j = S.1 a j) ∧ T.2 = S.2 := by
  intro d
  induction d with
  | zero =>
    intro k nn S hk hnn hj
    obtain ⟨nn, rfl⟩ : ∃ z, nn = z + 1 := ⟨nn - 1, by omega⟩
    rw [lp_X11_keeps_2.eq_2, if_pos (show (158 : Int32) ≤ o3 k from (o3_le (a := 158) (by omega) (by omega)).mpr (by omega))]
    exact ⟨S, rfl, fun j h => hj j (by omega), fun _ _ _ => rfl, rfl⟩
  | succ d ih =>
    intro k nn S hk hnn hj
    obtain ⟨nn, rfl⟩ : ∃ z, nn = z + 1 := ⟨nn - 1, by omega⟩
    rw [lp_X11_keeps_2.eq_2, if_neg (show ¬ (158 : Int32) ≤ o3 k from fun q => by have := (o3_le (a := 158) (by omega) (by omega)).mp q; omega), gI_o (by omega) (by omega), bd_some, sI_o (by omega) (by omega), bd_some, o3_s]
    obtain ⟨T, t1, t2, t3, t4⟩ := ih (k + 1) nn (pI S 159 k (S.1 157 k)) (by omega) (by omega) (fun j h => by
      rw [pI_ne (b := 157) (by omega)]
      by_cases e : j = k
      · subst e; rw [pI_eq]
      · rw [pI_ne (by omega)]; exact hj j (by omega))
    exact ⟨T, t1, fun j h => by rw [t2 j h, pI_ne (by omega)], fun a j h => by rw [t3 a j h, pI_ne (by omega)], t4⟩
theorem kp_29 {K : fS → Option fS} : ∀ d k nn (S : fS), k + d = 8 → d < nn → (∀ j, j < k → S.2 160 j = S.2 158 j) → ∃ T, lp_X11_keeps_29 K nn (o3 k) S = K T ∧ (∀ j, j < 8 → T.2 160 j = S.2 158 j) ∧ (∀ a j, a ≠ 160 → T.2 a j = S.2 a j) ∧ T.1 = S.1 := by
  intro d
  induction d with
  | zero =>
    intro k nn S hk hnn hj
    obtain ⟨nn, rfl⟩ : ∃ z, nn = z + 1 := ⟨nn - 1, by omega⟩
    rw [lp_X11_keeps_29.eq_2, if_pos (show (8 : Int32) ≤ o3 k from (o3_le (a := 8) (by omega) (by omega)).mpr (by omega))]
    exact ⟨S, rfl, fun j h => hj j (by omega), fun _ _ _ => rfl, rfl⟩
  | succ d ih =>
    intro k nn S hk hnn hj
    obtain ⟨nn, rfl⟩ : ∃ z, nn = z + 1 := ⟨nn - 1, by omega⟩
    rw [lp_X11_keeps_29.eq_2, if_neg (show ¬ (8 : Int32) ≤ o3 k from fun q => by have := (o3_le (a := 8) (by omega) (by omega)).mp q; omega), gL_o (by omega) (by omega), bd_some, sL_o (by omega) (by omega), bd_some, o3_s]
    obtain ⟨T, t1, t2, t3, t4⟩ := ih (k + 1) nn (pL S 160 k (S.2 158 k)) (by omega) (by omega) (fun j h => by
      rw [pL_ne (b := 158) (by omega)]
      by_cases e : j = k
      · subst e; rw [pL_eq]
      · rw [pL_ne (by omega)]; exact hj j (by omega))
    exact ⟨T, t1, fun j h => by rw [t2 j h, pL_ne (by omega)], fun a j h => by rw [t3 a j h, pL_ne (by omega)], t4⟩
theorem pb_2 {K : fS → Option fS} : ∀ d k nn (S : fS), k + d = 158 → d < nn → (∀ j, j < k → S.1 157 j = S.1 159 j) → ∃ T, lp_X11_putsBack_2 K nn (o3 k) S = K T ∧ (∀ j, j < 158 → T.1 157 j = S.1 159 j) ∧ (∀ a j, a ≠ 157 → T.1 a j = S.1 a j) ∧ T.2 = S.2 := by
  intro d
  induction d with
  | zero =>
    intro k nn S hk hnn hj
    obtain ⟨nn, rfl⟩ : ∃ z, nn = z + 1 := ⟨nn - 1, by omega⟩
    rw [lp_X11_putsBack_2.eq_2, if_pos (show (158 : Int32) ≤ o3 k from (o3_le (a := 158) (by omega) (by omega)).mpr (by omega))]
    exact ⟨S, rfl, fun j h => hj j (by omega), fun _ _ _ => rfl, rfl⟩
  | succ d ih =>
    intro k nn S hk hnn hj
    obtain ⟨nn, rfl⟩ : ∃ z, nn = z + 1 := ⟨nn - 1, by omega⟩
    rw [lp_X11_putsBack_2.eq_2, if_neg (show ¬ (158 : Int32) ≤ o3 k from fun q => by have := (o3_le (a := 158) (by omega) (by omega)).mp q; omega), gI_o (by omega) (by omega), bd_some, sI_o (by omega) (by omega), bd_some, o3_s]
    obtain ⟨T, t1, t2, t3, t4⟩ := ih (k + 1) nn (pI S 157 k (S.1 159 k)) (by omega) (by omega) (fun j h => by
      rw [pI_ne (b := 159) (by omega)]
      by_cases e : j = k
      · subst e; rw [pI_eq]
      · rw [pI_ne (by omega)]; exact hj j (by omega))
    exact ⟨T, t1, fun j h => by rw [t2 j h, pI_ne (by omega)], fun a j h => by rw [t3 a j h, pI_ne (by omega)], t4⟩
theorem pb_29 {K : fS → Option fS} : ∀ d k nn (S : fS), k + d = 8 → d < nn → (∀ j, j < k → S.2 158 j = S.2 160 j) → ∃ T, lp_X11_putsBack_29 K nn (o3 k) S = K T ∧ (∀ j, j < 8 → T.2 158 j = S.2 160 j) ∧ (∀ a j, a ≠ 158 → T.2 a j = S.2 a j) ∧ T.1 = S.1 := by
  intro d
  induction d with
  | zero =>
    intro k nn S hk hnn hj
    obtain ⟨nn, rfl⟩ : ∃ z, nn = z + 1 := ⟨nn - 1, by omega⟩
    rw [lp_X11_putsBack_29.eq_2, if_pos (show (8 : Int32) ≤ o3 k from (o3_le (a := 8) (by omega) (by omega)).mpr (by omega))]
    exact ⟨S, rfl, fun j h => hj j (by omega), fun _ _ _ => rfl, rfl⟩
  | succ d ih =>
    intro k nn S hk hnn hj
    obtain ⟨nn, rfl⟩ : ∃ z, nn = z + 1 := ⟨nn - 1, by omega⟩
    rw [lp_X11_putsBack_29.eq_2, if_neg (show ¬ (8 : Int32) ≤ o3 k from fun q => by have := (o3_le (a := 8) (by omega) (by omega)).mp q; omega), gL_o (by omega) (by omega), bd_some, sL_o (by omega) (by omega), bd_some, o3_s]
    obtain ⟨T, t1, t2, t3, t4⟩ := ih (k + 1) nn (pL S 158 k (S.2 160 k)) (by omega) (by omega) (fun j h => by
      rw [pL_ne (b := 160) (by omega)]
      by_cases e : j = k
      · subst e; rw [pL_eq]
      · rw [pL_ne (by omega)]; exact hj j (by omega))
    exact ⟨T, t1, fun j h => by rw [t2 j h, pL_ne (by omega)], fun a j h => by rw [t3 a j h, pL_ne (by omega)], t4⟩
theorem m_keeps (S : fS) : ∃ T, f_X11_keeps S = some T ∧ (∀ j, j < 158 → T.1 159 j = S.1 157 j) ∧ (∀ j, j < 8 → T.2 160 j = S.2 158 j) ∧ (∀ a j, a ≠ 159 → T.1 a j = S.1 a j) ∧ (∀ a j, a ≠ 160 → T.2 a j = S.2 a j) := by
  obtain ⟨T1, a1, a2, a3, a4⟩ := kp_2 (K := fun S8 => lp_X11_keeps_29 (fun S17 => some S17) FU (0 : Int32) S8) 158 0 FU S (by omega) (FU_lt (by omega)) (fun j hj => absurd hj (Nat.not_lt_zero _))
  obtain ⟨T2, b1, b2, b3, b4⟩ := kp_29 (K := fun S17 => some S17) 8 0 FU T1 (by omega) (FU_lt (by omega)) (fun j hj => absurd hj (Nat.not_lt_zero _))
  exact ⟨T2, a1.trans b1, fun j hj => by rw [b4, a2 j hj], fun j hj => by rw [b2 j hj, a4], fun a j h => by rw [b4, a3 a j h], fun a j h => by rw [b3 a j h, a4]⟩
theorem m_puts (S : fS) : ∃ T, f_X11_putsBack S = some T ∧ (∀ j, j < 158 → T.1 157 j = S.1 159 j) ∧ (∀ j, j < 8 → T.2 158 j = S.2 160 j) ∧ (∀ a j, a ≠ 157 → T.1 a j = S.1 a j) ∧ (∀ a j, a ≠ 158 → T.2 a j = S.2 a j) := by
  obtain ⟨T1, a1, a2, a3, a4⟩ := pb_2 (K := fun S8 => lp_X11_putsBack_29 (fun S17 => some S17) FU (0 : Int32) S8) 158 0 FU S (by omega) (FU_lt (by omega)) (fun j hj => absurd hj (Nat.not_lt_zero _))
  obtain ⟨T2, b1, b2, b3, b4⟩ := pb_29 (K := fun S17 => some S17) 8 0 FU T1 (by omega) (FU_lt (by omega)) (fun j hj => absurd hj (Nat.not_lt_zero _))
  exact ⟨T2, a1.trans b1, fun j hj => by rw [b4, a2 j hj], fun j hj => by rw [b2 j hj, a4], fun a j h => by rw [b4, a3 a j h], fun a j h => by rw [b3 a j h, a4]⟩
section AHL
variable {F : List (Nat × Nat)} {E : List St5}
theorem m_aheadl {v p3 p4 : Int32} {Q : Option (List Cl)} (hF : ∀ q ∈ F, okF q) (hE : ∀ q ∈ E, okS F.length q) (hm : F.length ≤ 10) (hl : E.length ≤ 12) {h : Nat} (hh : h < 2147483648) {K : fS → Option (Int64 × fS)} : ∀ d k nn (S : fS) (C : Cw), k + d = h → d < nn → okD F.length E C → C.2.1 + d ≤ 10199 → cwM (S.1 157) (S.2 158) C → twM (S.1 157) F E → rHm S F.length (dst E) → ruM S v Q → ∃ T, lp_X11_ahead_52 v (o3 h) p3 p4 K nn (o3 k) S = K T ∧ cwM (T.1 157) (T.2 158) (cHrs F E Q d C) ∧ eI S T := by
  intro d
  induction d with
  | zero =>
    intro k nn S C hk hnn hC h9 hS hT hW hR
    obtain ⟨nn, rfl⟩ : ∃ z, nn = z + 1 := ⟨nn - 1, by omega⟩
    rw [lp_X11_ahead_52.eq_2, if_pos ((o3_le (by omega) (by omega)).mpr (by omega))]
    exact ⟨S, rfl, hS, eI.rf⟩
  | succ d ih =>
    intro k nn S C hk hnn hC h9 hS hT hW hR
    obtain ⟨nn, rfl⟩ : ∃ z, nn = z + 1 := ⟨nn - 1, by omega⟩
    rw [lp_X11_ahead_52.eq_2, if_neg (fun q => by have := (o3_le (by omega) (by omega)).mp q; omega), o3_s]
    obtain ⟨T1, a1, a2, a3⟩ := m_hour hF hE hm hl hC hS hT hW hR
    obtain ⟨b1, b2, b3⟩ := cHr_ok (Q := Q) hC hF hE hm hl (by omega)
    rw [a1, bd_some]
    obtain ⟨T, c1, c2, c3⟩ := ih (k + 1) nn T1 (cHr F E Q C) (by omega) (by omega) b1 (by omega) a2 (twM_eq hm hl hT (fun j hj => a3.1 157 j (by omega) (by omega))) (rHm_eq hW (fun j => a3.2 _ j (by omega) (by omega) (by omega))) (ruM_eq hR a3)
    exact ⟨T, c1, c2, a3.tr c3⟩
theorem m_elderl {v p3 : Int32} {Q : Option (List Cl)} (hF : ∀ q ∈ F, okF q) (hE : ∀ q ∈ E, okS F.length q) (hm : F.length ≤ 10) (hl : E.length ≤ 12) {h : Nat} (hh : h < 2147483648) {K : fS → Option (Int64 × fS)} : ∀ d k nn (S : fS) (C : Cw), k + d = h → d < nn → okD F.length E C → C.2.1 + d ≤ 10199 → cwM (S.1 157) (S.2 158) C → twM (S.1 157) F E → rHm S F.length (dst E) → ruM S v Q → ∃ T, lp_X11_elder_57 v (o3 h) p3 K nn (o3 k) S = K T ∧ cwM (T.1 157) (T.2 158) (cHrs F E Q d C) ∧ eI S T := by
  intro d
  induction d with
  | zero =>
    intro k nn S C hk hnn hC h9 hS hT hW hR
    obtain ⟨nn, rfl⟩ : ∃ z, nn = z + 1 := ⟨nn - 1, by omega⟩
    rw [lp_X11_elder_57.eq_2, if_pos ((o3_le (by omega) (by omega)).mpr (by omega))]
    exact ⟨S, rfl, hS, eI.rf⟩
  | succ d ih =>
    intro k nn S C hk hnn hC h9 hS hT hW hR
    obtain ⟨nn, rfl⟩ : ∃ z, nn = z + 1 := ⟨nn - 1, by omega⟩
    rw [lp_X11_elder_57.eq_2, if_neg (fun q => by have := (o3_le (by omega) (by omega)).mp q; omega), o3_s]
    obtain ⟨T1, a1, a2, a3⟩ := m_hour hF hE hm hl hC hS hT hW hR
    obtain ⟨b1, b2, b3⟩ := cHr_ok (Q := Q) hC hF hE hm hl (by omega)
    rw [a1, bd_some]
    obtain ⟨T, c1, c2, c3⟩ := ih (k + 1) nn T1 (cHr F E Q C) (by omega) (by omega) b1 (by omega) a2 (twM_eq hm hl hT (fun j hj => a3.1 157 j (by omega) (by omega))) (rHm_eq hW (fun j => a3.2 _ j (by omega) (by omega) (by omega))) (ruM_eq hR a3)
    exact ⟨T, c1, c2, a3.tr c3⟩
end AHL
theorem age_oD {m : Nat} {E : List St5} {C : Cw} (h : okD m E C) {k : Nat} (hk : k < C.1) : ∃ a, C.2.2.2.2.2.2 k = o6 a ∧ a ≤ 50000000000000 := by
  obtain ⟨_, h1, h2⟩ := h
  obtain ⟨_, h3, h4⟩ := h2 k hk
  obtain ⟨a, e1, e2⟩ := o6_of h3
  exact ⟨a, e1, by omega⟩
theorem rSc_eq' {s : Sn} {S T : fS} (h : rSc s S) (h1 : ∀ a k, 3 < a → a ≤ 21 → T.1 a k = S.1 a k) (h2 : ∀ a k, 3 < a → a ≤ 21 → T.2 a k = S.2 a k) (h3 : 0 ≤ (T.1 3 3).toInt) (h4 : ∀ k, k < 158 → T.1 157 k = S.1 157 k) (h5 : ∀ k, k < 8 → T.2 158 k = S.2 158 k) (h6 : ∀ k, T.2 161 k = S.2 161 k) : rSc s T := by
  obtain ⟨a, b, c, d⟩ := h
  exact ⟨a, scC_eq b (fun x k p q => h1 x k (by omega) (by omega)) (fun x k p q => h2 x k (by omega) (by omega)) h3, scM_cg a c h4 h5, rHm_eq d h6⟩
/-- the class looks ahead: its spare crowd lives on -/
theorem c_look {S : fS} {s : Sn} {L : List (List Cl)} {v : Int32} {h : Nat} (hS : rSc s S) (hL : rRu L S) (hv : -1 ≤ v.toInt ∧ v.toInt < L.length) (hh : h ≤ 200) : ∃ S1 Q, f_X10_lookAhead v (o3 h) S = some S1 ∧ cwC S1 31 (cHrs s.1 s.2.1 Q h s.2.2.1) ∧ okD s.1.length s.2.1 (cHrs s.1 s.2.1 Q h s.2.2.1) ∧ (cHrs s.1 s.2.1 Q h s.2.2.1).1 = s.2.2.1.1 ∧ (∀ T : fS, (∀ r, r < L.length → cdM T r (L.getD r [])) → ruM T v Q) ∧ (∀ a k, ¬ (31 ≤ a ∧ a ≤ 36) → ¬ (127 ≤ a ∧ a ≤ 144 ∧ k = 3 ∧ a % 3 = 1) → S1.1 a k = S.1 a k) ∧ (∀ a k, ¬ (31 ≤ a ∧ a ≤ 36) → ¬ (127 ≤ a ∧ a ≤ 144) → S1.2 a k = S.2 a k) := by
  obtain ⟨⟨n1, n2, n3, n4, n5, n6⟩, ⟨b1, b2, b3, b4, b5⟩, ⟨m1, m2, m3, m4⟩, d⟩ := hS
  have h8 := n5.1
  have h9 := n5.2.1
  obtain ⟨T, c1, c2, c3, c4, c5⟩ := c_copyC (S := S) (b := 31) (c := 11) (by omega)
  have hT : cwC T 31 s.2.2.1 := by
    refine ⟨c2.trans b3.1, c3.trans b3.2.1, fun k hk => ?_⟩
    obtain ⟨e1, e2, e3, e4, e5⟩ := c4 k (by omega)
    obtain ⟨g1, g2, g3, g4, g5⟩ := b3.2.2 k hk
    exact ⟨e1.trans g1, e2.trans g2, e3.trans g3, e4.trans g4, e5.trans g5⟩
  have hL1 : rRu L T := rRu_eq hL (c5 _ _ (by omega)).1 (c5 _ _ (by omega)).1 (fun a k _ _ _ => (c5 _ _ (by omega)).1) (fun a k _ => (c5 _ _ (by omega)).1)
  obtain ⟨p, Q, p1, p2, p3, p4, p5, p6⟩ := ru_both hL1 hv
  obtain ⟨S1, z1, z2, z3⟩ := c_live (p := p) (Q := Q) (t := 4) (c := 31) (by omega) (by omega) n3 n4 n1 n2 (h := h) (by omega) (K := fun S12 => some S12) h 0 FU T s.2.2.1 (by omega) (FU_lt (by omega)) (okD_of n5) (by omega) hT (twC_eq b1 (fun a k _ _ => (c5 a k (by omega)).1) (fun a k _ _ => (c5 a k (by omega)).2)) (rWm_eq b2 (fun k => (c5 _ k (by omega)).1)) (p2 T (fun r hr => (hL1.2.2.2 r hr).1))
  obtain ⟨k1, k2, k3⟩ := cHrs_ok (Q := Q) n3 n4 n1 n2 h s.2.2.1 (okD_of n5) (by omega)
  refine ⟨S1, Q, ?_, z2, k1, k2, p3, fun a k x y => (z3.1 a k (by omega) (by omega) (by omega)).trans (c5 a k (by omega)).1, fun a k x y => (z3.2 a k (by omega) (by omega)).trans (c5 a k (by omega)).2⟩
  unfold f_X10_lookAhead
  rw [c1, bd_some, p1, bd_some, show f_X0_live 31 4 p (o3 h) T = some S1 from z1, bd_some]
/-- what looking ahead leaves alike -/
theorem look_rel {S S1 S2 : fS} {n : Nat} {s : Sn} {L : List (List Cl)} {M : Nat → Option Sn} (hT : rTp n S) (hS : rSc s S) (hL : rRu L S) (hM : rIm M S) (f1 : ∀ a k, ¬ (31 ≤ a ∧ a ≤ 36) → ¬ (127 ≤ a ∧ a ≤ 144 ∧ k = 3 ∧ a % 3 = 1) → S1.1 a k = S.1 a k) (f2 : ∀ a k, ¬ (31 ≤ a ∧ a ≤ 36) → ¬ (127 ≤ a ∧ a ≤ 144) → S1.2 a k = S.2 a k) (g1 : ∀ a k, a ≠ 157 → a ≠ 159 → ¬ (a = 145 ∧ k = 23) → S2.1 a k = S1.1 a k) (g2 : ∀ a k, a ≠ 155 → a ≠ 156 → a ≠ 158 → a ≠ 160 → S2.2 a k = S1.2 a k) (g3 : ∀ k, k < 158 → S2.1 157 k = S1.1 157 k) (g4 : ∀ k, k < 8 → S2.2 158 k = S1.2 158 k) : Rel S2 := by
  have k1 : ∀ a k, ¬ (31 ≤ a ∧ a ≤ 36) → ¬ (127 ≤ a ∧ a ≤ 144 ∧ k = 3 ∧ a % 3 = 1) → a ≠ 157 → a ≠ 159 → ¬ (a = 145 ∧ k = 23) → S2.1 a k = S.1 a k := fun a k x y z w u => (g1 a k z w u).trans (f1 a k x y)
  have k2 : ∀ a k, ¬ (31 ≤ a ∧ a ≤ 36) → ¬ (127 ≤ a ∧ a ≤ 144) → a ≠ 155 → a ≠ 156 → a ≠ 158 → a ≠ 160 → S2.2 a k = S.2 a k := fun a k x y z w u v => (g2 a k z w u v).trans (f2 a k x y)
  refine ⟨n, s, L, M, ?_, ?_, ?_, ?_⟩
  · exact rTp_eq hT (k1 _ _ (by omega) (by omega) (by omega) (by omega) (by omega)) (k1 _ _ (by omega) (by omega) (by omega) (by omega) (by omega)) (fun k => k1 _ _ (by omega) (by omega) (by omega) (by omega) (by omega)) (fun k => k1 _ _ (by omega) (by omega) (by omega) (by omega) (by omega))
  · exact rSc_eq' hS (fun a k _ _ => k1 a k (by omega) (by omega) (by omega) (by omega) (by omega)) (fun a k _ _ => k2 a k (by omega) (by omega) (by omega) (by omega) (by omega) (by omega)) (by rw [k1 3 3 (by omega) (by omega) (by omega) (by omega) (by omega)]; exact hS.2.1.2.2.2.2) (fun k hk => (g3 k hk).trans (f1 _ _ (by omega) (by omega))) (fun k hk => (g4 k hk).trans (f2 _ _ (by omega) (by omega))) (fun k => k2 _ k (by omega) (by omega) (by omega) (by omega) (by omega) (by omega))
  · exact rRu_eq hL (k1 _ _ (by omega) (by omega) (by omega) (by omega) (by omega)) (k1 _ _ (by omega) (by omega) (by omega) (by omega) (by omega)) (fun a k x y z => k1 a k (by omega) (by omega) (by omega) (by omega) (by omega)) (fun a k _ => k1 a k (by omega) (by omega) (by omega) (by omega) (by omega))
  · exact rIm_eq hM (fun a k _ _ => k1 a k (by omega) (by omega) (by omega) (by omega) (by omega)) (fun a k _ _ => k2 a k (by omega) (by omega) (by omega) (by omega) (by omega) (by omega)) (fun k => k1 _ _ (by omega) (by omega) (by omega) (by omega) (by omega)) (fun k => k2 _ k (by omega) (by omega) (by omega) (by omega) (by omega) (by omega)) (fun k => k1 _ _ (by omega) (by omega) (by omega) (by omega) (by omega))
end
section
/-! ahead(), elder(): the answers -/
def acb (C : Cw) (k : Nat) : Bool := decide (¬ C.2.2.1 k < 0 ∧ ¬ stn C.2.2.1 (C.2.2.1 k) C.1 ≤ 1)
section AC
variable {S : fS} {c : Nat} {C : Cw}
theorem c_acc (hC : cwC S c C) (h8 : C.1 ≤ 8) : f_X0_accompanied c S = some (o3 (cfn (acb C) C.1)) := by
  have key : ∀ d k nn, k + d = C.1 → d < nn → lp_X0_accompanied_4 c S (fun u13 => some u13) nn (o3 (cfn (acb C) k)) (o3 k) = some (o3 (cfn (acb C) C.1)) := by
    intro d
    induction d with
    | zero =>
      intro k nn hk hnn
      obtain ⟨nn, rfl⟩ : ∃ z, nn = z + 1 := ⟨nn - 1, by omega⟩
      rw [lp_X0_accompanied_4.eq_2, hC.1, if_pos ((o3_le (by omega) (by omega)).mpr (by omega)), show k = C.1 by omega]
    | succ d ih =>
      intro k nn hk hnn
      obtain ⟨nn, rfl⟩ : ∃ z, nn = z + 1 := ⟨nn - 1, by omega⟩
      have hs : cfn (acb C) (k + 1) = cfn (acb C) k + (if acb C k = true then 1 else 0) := rfl
      have hz : o3 (cfn (acb C) k) + (0 : Int32) = o3 (cfn (acb C) k) := Int32.add_zero _
      have hst := stn_le (p := C.2.2.1) (f := C.2.2.1 k) C.1
      rw [lp_X0_accompanied_4.eq_2, hC.1, if_neg (fun q => by have := (o3_le (by omega) (by omega)).mp q; omega), hz, o3_s, o3_s]
      unfold f_X0_isStanding
      rw [gI_o (by omega) (by omega), bd_some, (hC.2.2 k (by omega)).1]
      by_cases h0 : C.2.2.1 k < 0
      · rw [if_pos h0, bd_some, if_pos rfl]
        rw [if_neg (by unfold acb; rw [decide_eq_true_eq]; exact fun z => z.1 h0)] at hs
        replace hs := hs.trans (Nat.add_zero _)
        rw [← hs]
        exact ih (k + 1) nn (by omega) (by omega)
      · rw [if_neg h0, bd_some, if_neg (show ¬ (1 : Int32) = 0 by decide), bd_some, cw_standing hC h8, bd_some]
        by_cases h1 : stn C.2.2.1 (C.2.2.1 k) C.1 ≤ 1
        · rw [if_pos (show o3 _ ≤ (1 : Int32) from (o3_le (b := 1) (by omega) (by omega)).mpr h1)]
          rw [if_neg (by unfold acb; rw [decide_eq_true_eq]; exact fun z => z.2 h1)] at hs
          replace hs := hs.trans (Nat.add_zero _)
          rw [← hs]
          exact ih (k + 1) nn (by omega) (by omega)
        · rw [if_neg (show ¬ o3 _ ≤ (1 : Int32) from fun z => h1 ((o3_le (b := 1) (by omega) (by omega)).mp z))]
          rw [if_pos (by unfold acb; rw [decide_eq_true_eq]; exact ⟨h0, h1⟩)] at hs
          rw [← hs]
          exact ih (k + 1) nn (by omega) (by omega)
  exact key C.1 0 FU (by omega) (FU_lt (by omega))
theorem m_acc (hC : cwM (S.1 157) (S.2 158) C) (h8 : C.1 ≤ 8) {K : Int64 → fS → Option (Int64 × fS)} : lp_X11_ahead_81 K FU (0 : Int64) (0 : Int32) S = K (o6 (cfn (acb C) C.1)) S := by
  have key : ∀ d k nn, k + d = C.1 → d < nn → lp_X11_ahead_81 K nn (o6 (cfn (acb C) k)) (o3 k) S = K (o6 (cfn (acb C) C.1)) S := by
    intro d
    induction d with
    | zero =>
      intro k nn hk hnn
      obtain ⟨nn, rfl⟩ : ∃ z, nn = z + 1 := ⟨nn - 1, by omega⟩
      rw [lp_X11_ahead_81.eq_2, show (2 : Int32) = o3 2 from rfl, gI_o (by omega) (by omega), bd_some, hC.1, if_pos ((o3_le (by omega) (by omega)).mpr (by omega)), show k = C.1 by omega]
    | succ d ih =>
      intro k nn hk hnn
      obtain ⟨nn, rfl⟩ : ∃ z, nn = z + 1 := ⟨nn - 1, by omega⟩
      have hs : cfn (acb C) (k + 1) = cfn (acb C) k + (if acb C k = true then 1 else 0) := rfl
      have hz : o6 (cfn (acb C) k) + (0 : Int64) = o6 (cfn (acb C) k) := Int64.add_zero _
      have hst := stn_le (p := C.2.2.1) (f := C.2.2.1 k) C.1
      have hth : f_X11_thingOf (o3 k) 0 S = some (C.2.2.1 k) := (mw_thing (a := 0) (by omega) (by omega)).trans (congrArg some (hC.2.2 k (by omega)).1)
      rw [lp_X11_ahead_81.eq_2, show (2 : Int32) = o3 2 from rfl, gI_o (by omega) (by omega), bd_some, hC.1, if_neg (fun q => by have := (o3_le (by omega) (by omega)).mp q; omega), hth, bd_some, hz, o3_s, show (1 : Int64) = o6 1 from rfl, o6_add]
      by_cases h0 : C.2.2.1 k < 0
      · rw [if_pos h0]
        rw [if_neg (by unfold acb; rw [decide_eq_true_eq]; exact fun z => z.1 h0)] at hs
        replace hs := hs.trans (Nat.add_zero _)
        rw [← hs]
        exact ih (k + 1) nn (by omega) (by omega)
      · rw [if_neg h0, bd_some, mw_standing hC h8, bd_some]
        by_cases h1 : stn C.2.2.1 (C.2.2.1 k) C.1 ≤ 1
        · rw [if_pos (show o3 _ ≤ (1 : Int32) from (o3_le (b := 1) (by omega) (by omega)).mpr h1)]
          rw [if_neg (by unfold acb; rw [decide_eq_true_eq]; exact fun z => z.2 h1)] at hs
          replace hs := hs.trans (Nat.add_zero _)
          rw [← hs]
          exact ih (k + 1) nn (by omega) (by omega)
        · rw [if_neg (show ¬ o3 _ ≤ (1 : Int32) from fun z => h1 ((o3_le (b := 1) (by omega) (by omega)).mp z))]
          rw [if_pos (by unfold acb; rw [decide_eq_true_eq]; exact ⟨h0, h1⟩)] at hs
          rw [← hs]
          exact ih (k + 1) nn (by omega) (by omega)
  exact key C.1 0 FU (by omega) (FU_lt (by omega))
end AC
theorem t_11 (a1 a2 a3 a4 : Int32) (S : fS) (hR : Rel S) : ∃ r S1 S2, f_X10_ahead a1 a2 a3 a4 S = some (r, S1) ∧ f_X11_ahead a1 a2 a3 a4 S1 = some (r, S2) ∧ Rel S2 := by
  have hR0 := hR
  obtain ⟨n, s, L, M, hT, hS, hL, hM⟩ := hR
  have hS0 := hS
  have hL0 := hL
  obtain ⟨⟨n1, n2, n3, n4, n5, n6⟩, ⟨b1, b2, b3, b4, b5⟩, ⟨m1, m2, m3, m4⟩, d⟩ := hS
  obtain ⟨l1, l2, l3, l4⟩ := hL
  have h8 := n5.1
  have i1 : f_X10_isFrom a2 0 200 S = some (if ((0 : Nat) : Int) ≤ a2.toInt ∧ a2.toInt ≤ ((200 : Nat) : Int) then 1 else 0) := from_c (a := 0) (b := 200) (by omega) (by omega)
  have i2 : f_X10_isFrom a4 0 3 S = some (if ((0 : Nat) : Int) ≤ a4.toInt ∧ a4.toInt ≤ ((3 : Nat) : Int) then 1 else 0) := from_c (a := 0) (b := 3) (by omega) (by omega)
  have j1 : ∀ T : fS, f_X11_in (Int32.toInt64 a2) 0 200 T = some (if ((0 : Nat) : Int) ≤ a2.toInt ∧ a2.toInt ≤ ((200 : Nat) : Int) then 1 else 0) := fun T => in_c (a := 0) (b := 200) (by omega) (by omega)
  have j2 : ∀ T : fS, f_X11_in (Int32.toInt64 a4) 0 3 T = some (if ((0 : Nat) : Int) ≤ a4.toInt ∧ a4.toInt ≤ ((3 : Nat) : Int) then 1 else 0) := fun T => in_c (a := 0) (b := 3) (by omega) (by omega)
  have no : f_X10_ahead a1 a2 a3 a4 S = some (-1, S) → f_X11_ahead a1 a2 a3 a4 S = some (-1, S) → ∃ r S1 S2, f_X10_ahead a1 a2 a3 a4 S = some (r, S1) ∧ f_X11_ahead a1 a2 a3 a4 S1 = some (r, S2) ∧ Rel S2 := fun h g => ⟨-1, S, S, h, g, hR0⟩
  by_cases h1 : ¬ (0 ≤ a1.toInt ∧ a1.toInt < L.length)
  · refine no ?_ ?_
    · unfold f_X10_ahead; rw [l2, from_o (by omega), bd_some, if_neg h1, if_pos rfl]
    · unfold f_X11_ahead; rw [mr_o l3 (by omega), bd_some, if_neg h1, if_pos rfl]
  have h1 := Decidable.not_not.mp h1
  by_cases h2 : ¬ (((0 : Nat) : Int) ≤ a2.toInt ∧ a2.toInt ≤ ((200 : Nat) : Int))
  · refine no ?_ ?_
    · unfold f_X10_ahead; rw [l2, from_o (by omega), bd_some, if_pos h1, if_neg (show ¬ (1 : Int32) = 0 by decide), i1, bd_some, if_neg h2, if_pos rfl]
    · unfold f_X11_ahead; rw [mr_o l3 (by omega), bd_some, if_pos h1, if_neg (show ¬ (1 : Int32) = 0 by decide), j1, bd_some, if_neg h2, if_pos rfl]
  have h2 := Decidable.not_not.mp h2
  by_cases h3 : ¬ (0 ≤ a3.toInt ∧ a3.toInt < s.2.2.1.1)
  · refine no ?_ ?_
    · unfold f_X10_ahead; rw [l2, from_o (by omega), bd_some, if_pos h1, if_neg (show ¬ (1 : Int32) = 0 by decide), i1, bd_some, if_pos h2, if_neg (show ¬ (1 : Int32) = 0 by decide), ci_thing b3.1 (by omega), bd_some, if_neg h3, if_pos rfl]
    · unfold f_X11_ahead
      rw [mr_o l3 (by omega), bd_some, if_pos h1, if_neg (show ¬ (1 : Int32) = 0 by decide), j1, bd_some, if_pos h2, if_neg (show ¬ (1 : Int32) = 0 by decide), j2, bd_some, mi_thing m2.1 (by omega), bd_some]
      by_cases h4 : ((0 : Nat) : Int) ≤ a4.toInt ∧ a4.toInt ≤ ((3 : Nat) : Int)
      · rw [if_pos h4, if_neg (show ¬ (1 : Int32) = 0 by decide), if_neg h3, if_pos rfl]
      · rw [if_neg h4, if_pos rfl]
  have h3 := Decidable.not_not.mp h3
  by_cases h4 : ¬ (((0 : Nat) : Int) ≤ a4.toInt ∧ a4.toInt ≤ ((3 : Nat) : Int))
  · refine no ?_ ?_
    · unfold f_X10_ahead; rw [l2, from_o (by omega), bd_some, if_pos h1, if_neg (show ¬ (1 : Int32) = 0 by decide), i1, bd_some, if_pos h2, if_neg (show ¬ (1 : Int32) = 0 by decide), ci_thing b3.1 (by omega), bd_some, if_pos h3, if_neg (show ¬ (1 : Int32) = 0 by decide), i2, bd_some, if_neg h4, if_pos rfl]
    · unfold f_X11_ahead; rw [mr_o l3 (by omega), bd_some, if_pos h1, if_neg (show ¬ (1 : Int32) = 0 by decide), j1, bd_some, if_pos h2, if_neg (show ¬ (1 : Int32) = 0 by decide), j2, bd_some, if_neg h4, if_pos rfl]
  have h4 := Decidable.not_not.mp h4
  obtain ⟨h, e1, e2⟩ := o3_ex (x := a2) (by omega)
  obtain ⟨th, e3, e4⟩ := o3_ex h3.1
  have hth : th < s.2.2.1.1 := by omega
  obtain ⟨S1, Q, c1, c2, c3, c4, c5, f1, f2⟩ := c_look (v := a1) (h := h) hS0 hL0 (by omega) (by omega)
  have q157 : S1.1 157 = S.1 157 := funext fun k => f1 157 k (by omega) (by omega)
  have q158 : S1.2 158 = S.2 158 := funext fun k => f2 158 k (by omega) (by omega)
  obtain ⟨T1, t1, t2, t3, t4, t5⟩ := m_keeps S1
  have q157' : T1.1 157 = S.1 157 := (funext fun k => t4 157 k (by omega)).trans q157
  have q158' : T1.2 158 = S.2 158 := (funext fun k => t5 158 k (by omega)).trans q158
  have hru : ruM T1 a1 Q := c5 T1 (fun r hr => cdM_eq (l4 r hr).2 (fun a k _ => (t4 a k (by omega)).trans (f1 a k (by omega) (by omega))))
  generalize hCC : cHrs s.1 s.2.1 Q h s.2.2.1 = C at c2 c3 c4
  have hlive : ∀ K : fS → Option (Int64 × fS), ∃ T2, lp_X11_ahead_52 a1 (o3 h) (o3 th) a4 K FU (0 : Int32) T1 = K T2 ∧ cwM (T2.1 157) (T2.2 158) C ∧ eI T1 T2 := fun K => by
    obtain ⟨T2, u1, u2, u3⟩ := m_aheadl (v := a1) (p3 := o3 th) (p4 := a4) (Q := Q) n3 n4 n1 n2 (h := h) (by omega) (K := K) h 0 FU T1 s.2.2.1 (by omega) (FU_lt (by omega)) (okD_of n5) (by have := n5.2.1; omega) (by rw [q157', q158']; exact m2) (by rw [q157']; exact m1) (rHm_eq d (fun k => (t5 _ k (by omega)).trans (f2 _ k (by omega) (by omega)))) hru
    rw [hCC] at u2
    exact ⟨T2, u1, u2, u3⟩
  have hthC : th < C.1 := by omega
  have hC8 : C.1 ≤ 8 := c3.1
  obtain ⟨ag, g1, g2⟩ := age_oD c3 hthC
  obtain ⟨w1, w2, w3, w4, w5⟩ := c2.2.2 th hthC
  have cAns : f_X10_ahead a1 a2 a3 a4 S = some (if a4 = 0 then (if C.2.2.1 th < 0 then -2 else Int32.toInt64 (C.2.2.1 th)) else if a4 = 3 then o6 (cfn (acb C) C.1) else lw ag 232792560 (a4 - 1), S1) := by
    unfold f_X10_ahead
    rw [l2, from_o (by omega), bd_some, if_pos h1, if_neg (show ¬ (1 : Int32) = 0 by decide), i1, bd_some, if_pos h2, if_neg (show ¬ (1 : Int32) = 0 by decide), ci_thing b3.1 (by omega), bd_some, if_pos h3, if_neg (show ¬ (1 : Int32) = 0 by decide), i2, bd_some, if_pos h4, if_neg (show ¬ (1 : Int32) = 0 by decide), e1, c1, bd_some, e3]
    by_cases z0 : a4 = 0
    · rw [if_pos z0, if_pos z0]
      unfold f_X0_isStanding
      rw [gI_o (by omega) (by omega), bd_some, w1]
      by_cases z1 : C.2.2.1 th < 0
      · rw [if_pos z1, if_pos z1, bd_some, if_pos rfl]
      · rw [if_neg z1, if_neg z1, bd_some, if_neg (show ¬ (1 : Int32) = 0 by decide), bd_some]
    · rw [if_neg z0, if_neg z0]
      by_cases z3 : a4 = 3
      · have := cfn_le (f := acb C) C.1
        rw [if_pos z3, if_pos z3, c_acc c2 hC8, bd_some, o6_of3 (by omega)]
      · rw [if_neg z3, if_neg z3, gL_o (by omega) (by omega), bd_some, show S1.2 36 th = o6 ag from w5.trans g1, show (232792560 : Int64) = o6 232792560 from rfl, c_low (by omega) (by omega) (by omega), bd_some]
  have mPre : f_X11_ahead a1 a2 a3 a4 S1 = lp_X11_ahead_52 a1 (o3 h) (o3 th) a4 (fun S24 => if a4 = (3 : Int32) then (lp_X11_ahead_81  (fun u65 S66 => (f_X11_putsBack  S66).bind fun q68 =>
  some (u65, q68)) FU (0 : Int64) (0 : Int32) S24) else
  (if a4 = (0 : Int32) then ((f_X11_thingOf (o3 th) (0 : Int32) S24).bind fun q37 =>
  if (0 : Int32) ≤ q37 then ((f_X11_thingOf (o3 th) (0 : Int32) S24).bind fun q41 =>
  (f_X11_putsBack  S24).bind fun q44 =>
  some ((Int32.toInt64 q41), q44)) else
  ((f_X11_putsBack  S24).bind fun q47 =>
  some ((-2 : Int64), q47))) else
  ((gL S24 158 8 (o3 th)).bind fun a28 =>
  (f_X11_lowest a28 (232792560 : Int64) (a4 - (1 : Int32)) S24).bind fun q31 =>
  (f_X11_putsBack  S24).bind fun q34 =>
  some (q31, q34)))) FU (0 : Int32) T1 := by
    unfold f_X11_ahead
    rw [mr_o ((f1 _ _ (by omega) (by omega)).trans l3) (by omega), bd_some, if_pos h1, if_neg (show ¬ (1 : Int32) = 0 by decide), j1, bd_some, if_pos h2, if_neg (show ¬ (1 : Int32) = 0 by decide), j2, bd_some, if_pos h4, if_neg (show ¬ (1 : Int32) = 0 by decide), mi_thing (m := s.2.2.1.1) (by rw [q157]; exact m2.1) (by omega), bd_some, if_pos h3, if_neg (show ¬ (1 : Int32) = 0 by decide), t1, bd_some, e1, e3]
  obtain ⟨T2, u1, u2, u3⟩ := hlive (fun S24 => if a4 = (3 : Int32) then (lp_X11_ahead_81  (fun u65 S66 => (f_X11_putsBack  S66).bind fun q68 =>
  some (u65, q68)) FU (0 : Int64) (0 : Int32) S24) else
  (if a4 = (0 : Int32) then ((f_X11_thingOf (o3 th) (0 : Int32) S24).bind fun q37 =>
  if (0 : Int32) ≤ q37 then ((f_X11_thingOf (o3 th) (0 : Int32) S24).bind fun q41 =>
  (f_X11_putsBack  S24).bind fun q44 =>
  some ((Int32.toInt64 q41), q44)) else
  ((f_X11_putsBack  S24).bind fun q47 =>
  some ((-2 : Int64), q47))) else
  ((gL S24 158 8 (o3 th)).bind fun a28 =>
  (f_X11_lowest a28 (232792560 : Int64) (a4 - (1 : Int32)) S24).bind fun q31 =>
  (f_X11_putsBack  S24).bind fun q34 =>
  some (q31, q34))))
  obtain ⟨T3, v1, v2, v3, v4, v5⟩ := m_puts T2
  obtain ⟨x1, x2, x3, x4, x5⟩ := u2.2.2 th hthC
  have hth0 : f_X11_thingOf (o3 th) 0 T2 = some (C.2.2.1 th) := (mw_thing (a := 0) (by omega) (by omega)).trans (congrArg some x1)
  refine ⟨_, S1, T3, cAns, ?_, look_rel (S := S) (S1 := S1) hT hS0 hL0 hM f1 f2 (fun a k x y z => ?_) (fun a k x y z w => ?_) (fun k hk => ?_) (fun k hk => ?_)⟩
  · rw [mPre, u1]
    by_cases z3 : a4 = 3
    · rw [if_pos z3, if_neg (show ¬ a4 = 0 by rw [z3]; decide), if_pos z3, m_acc u2 hC8, v1, bd_some]
    · rw [if_neg z3]
      by_cases z0 : a4 = 0
      · rw [if_pos z0, if_pos z0, hth0, bd_some]
        by_cases z1 : C.2.2.1 th < 0
        · rw [if_pos z1, if_neg (show ¬ (0 : Int32) ≤ C.2.2.1 th by rw [ni_lt] at z1; rw [ni_le]; omega), v1, bd_some]
        · rw [if_neg z1, if_pos (show (0 : Int32) ≤ C.2.2.1 th by rw [ni_lt] at z1; rw [ni_le]; omega), bd_some, v1, bd_some]
      · rw [if_neg z0, if_neg z0, if_neg z3, gL_o (by omega) (by omega), bd_some, x5, g1, show (232792560 : Int64) = o6 232792560 from rfl, m_low (by omega) (by omega) (by omega), bd_some, v1, bd_some]
  · rw [v4 a k x, u3.1 a k (by omega) z, t4 a k y]
  · rw [v5 a k z, u3.2 a k x y z, t5 a k w]
  · rw [v2 k hk, u3.1 159 k (by omega) (by omega), t2 k hk]
  · rw [v3 k hk, u3.2 160 k (by omega) (by omega) (by omega), t3 k hk]

/-! elder() -/
def elx (A : Nat → Int64) : Nat → Nat → Nat → Nat
  | 0, _, i => i
  | d + 1, k, i => elx A d (k + 1) (if A k ≤ A i then i else k)
def yox (A : Nat → Int64) : Nat → Nat → Nat → Nat
  | 0, _, i => i
  | d + 1, k, i => yox A d (k + 1) (if A i ≤ A k then i else k)
theorem elx_lt {A : Nat → Int64} : ∀ d k i, i < k + d → elx A d k i < k + d := by
  intro d
  induction d with
  | zero => intro k i h; exact h
  | succ d ih =>
    intro k i h
    show elx A d (k + 1) _ < _
    have := ih (k + 1) (if A k ≤ A i then i else k) (by split <;> omega)
    omega
theorem yox_lt {A : Nat → Int64} : ∀ d k i, i < k + d → yox A d k i < k + d := by
  intro d
  induction d with
  | zero => intro k i h; exact h
  | succ d ih =>
    intro k i h
    show yox A d (k + 1) _ < _
    have := ih (k + 1) (if A i ≤ A k then i else k) (by split <;> omega)
    omega
section EL
variable {S : fS} {c : Nat} {C : Cw}
theorem cw_elx (hC : cwC S c C) (h8 : C.1 ≤ 8) (h1 : 0 < C.1) : f_X0_eldest c S = some (o3 (elx C.2.2.2.2.2.2 (C.1 - 1) 1 0)) := by
  have key : ∀ d k nn i, k + d = C.1 → d < nn → i < C.1 → lp_X0_eldest_4 c S (fun u9 => some u9) nn (o3 i) (o3 k) = some (o3 (elx C.2.2.2.2.2.2 d k i)) := by
    intro d
    induction d with
    | zero =>
      intro k nn i hk hnn hi
      obtain ⟨nn, rfl⟩ : ∃ z, nn = z + 1 := ⟨nn - 1, by omega⟩
      rw [lp_X0_eldest_4.eq_2, hC.1, if_pos ((o3_le (by omega) (by omega)).mpr (by omega))]
      rfl
    | succ d ih =>
      intro k nn i hk hnn hi
      obtain ⟨nn, rfl⟩ : ∃ z, nn = z + 1 := ⟨nn - 1, by omega⟩
      have he : elx C.2.2.2.2.2.2 (d + 1) k i = elx C.2.2.2.2.2.2 d (k + 1) (if C.2.2.2.2.2.2 k ≤ C.2.2.2.2.2.2 i then i else k) := rfl
      rw [lp_X0_eldest_4.eq_2, hC.1, if_neg (fun q => by have := (o3_le (by omega) (by omega)).mp q; omega), gL_o (by omega) (by omega), bd_some, gL_o (by omega) (by omega), bd_some, (hC.2.2 k (by omega)).2.2.2.2, (hC.2.2 i hi).2.2.2.2, o3_s, he]
      by_cases h : C.2.2.2.2.2.2 k ≤ C.2.2.2.2.2.2 i
      · rw [if_pos h, if_pos h]
        exact ih (k + 1) nn i (by omega) (by omega) hi
      · rw [if_neg h, if_neg h]
        exact ih (k + 1) nn k (by omega) (by omega) (by omega)
  exact key (C.1 - 1) 1 FU 0 (by omega) (FU_lt (by omega)) h1
theorem cw_yox (hC : cwC S c C) (h8 : C.1 ≤ 8) (h1 : 0 < C.1) : f_X0_youngest c S = some (o3 (yox C.2.2.2.2.2.2 (C.1 - 1) 1 0)) := by
  have key : ∀ d k nn i, k + d = C.1 → d < nn → i < C.1 → lp_X0_youngest_4 c S (fun u9 => some u9) nn (o3 i) (o3 k) = some (o3 (yox C.2.2.2.2.2.2 d k i)) := by
    intro d
    induction d with
    | zero =>
      intro k nn i hk hnn hi
      obtain ⟨nn, rfl⟩ : ∃ z, nn = z + 1 := ⟨nn - 1, by omega⟩
      rw [lp_X0_youngest_4.eq_2, hC.1, if_pos ((o3_le (by omega) (by omega)).mpr (by omega))]
      rfl
    | succ d ih =>
      intro k nn i hk hnn hi
      obtain ⟨nn, rfl⟩ : ∃ z, nn = z + 1 := ⟨nn - 1, by omega⟩
      have he : yox C.2.2.2.2.2.2 (d + 1) k i = yox C.2.2.2.2.2.2 d (k + 1) (if C.2.2.2.2.2.2 i ≤ C.2.2.2.2.2.2 k then i else k) := rfl
      rw [lp_X0_youngest_4.eq_2, hC.1, if_neg (fun q => by have := (o3_le (by omega) (by omega)).mp q; omega), gL_o (by omega) (by omega), bd_some, gL_o (by omega) (by omega), bd_some, (hC.2.2 k (by omega)).2.2.2.2, (hC.2.2 i hi).2.2.2.2, o3_s, he]
      by_cases h : C.2.2.2.2.2.2 i ≤ C.2.2.2.2.2.2 k
      · rw [if_pos h, if_pos h]
        exact ih (k + 1) nn i (by omega) (by omega) hi
      · rw [if_neg h, if_neg h]
        exact ih (k + 1) nn k (by omega) (by omega) (by omega)
  exact key (C.1 - 1) 1 FU 0 (by omega) (FU_lt (by omega)) h1
theorem m_elx (hC : cwM (S.1 157) (S.2 158) C) (h8 : C.1 ≤ 8) (h1 : 0 < C.1) {v : Int32} {K : Int32 → Int32 → fS → Option (Int64 × fS)} : lp_X11_elder_83 v K FU (0 : Int32) (0 : Int32) (1 : Int32) S = K (o3 (elx C.2.2.2.2.2.2 (C.1 - 1) 1 0)) (o3 (yox C.2.2.2.2.2.2 (C.1 - 1) 1 0)) S := by
  have key : ∀ d k nn i j, k + d = C.1 → d < nn → i < C.1 → j < C.1 → lp_X11_elder_83 v K nn (o3 i) (o3 j) (o3 k) S = K (o3 (elx C.2.2.2.2.2.2 d k i)) (o3 (yox C.2.2.2.2.2.2 d k j)) S := by
    intro d
    induction d with
    | zero =>
      intro k nn i j hk hnn hi hj
      obtain ⟨nn, rfl⟩ : ∃ z, nn = z + 1 := ⟨nn - 1, by omega⟩
      rw [lp_X11_elder_83.eq_2, show (2 : Int32) = o3 2 from rfl, gI_o (by omega) (by omega), bd_some, hC.1, if_pos ((o3_le (by omega) (by omega)).mpr (by omega))]
      rfl
    | succ d ih =>
      intro k nn i j hk hnn hi hj
      obtain ⟨nn, rfl⟩ : ∃ z, nn = z + 1 := ⟨nn - 1, by omega⟩
      have he : elx C.2.2.2.2.2.2 (d + 1) k i = elx C.2.2.2.2.2.2 d (k + 1) (if C.2.2.2.2.2.2 k ≤ C.2.2.2.2.2.2 i then i else k) := rfl
      have hy : yox C.2.2.2.2.2.2 (d + 1) k j = yox C.2.2.2.2.2.2 d (k + 1) (if C.2.2.2.2.2.2 j ≤ C.2.2.2.2.2.2 k then j else k) := rfl
      have ga : ∀ z, z < C.1 → gL S 158 8 (o3 z) = some (C.2.2.2.2.2.2 z) := fun z hz => (gL_o (by omega) (by omega)).trans (congrArg some (hC.2.2 z hz).2.2.2.2)
      rw [lp_X11_elder_83.eq_2, show (2 : Int32) = o3 2 from rfl, gI_o (by omega) (by omega), bd_some, hC.1, if_neg (fun q => by have := (o3_le (by omega) (by omega)).mp q; omega), ga k (by omega), ga i hi, ga j hj]
      simp only [bd_some]
      rw [o3_s, he, hy]
      by_cases h : C.2.2.2.2.2.2 k ≤ C.2.2.2.2.2.2 i
      · rw [if_pos h, if_pos h]
        by_cases g : C.2.2.2.2.2.2 j ≤ C.2.2.2.2.2.2 k
        · rw [if_pos g, if_pos g]
          exact ih (k + 1) nn i j (by omega) (by omega) hi hj
        · rw [if_neg g, if_neg g]
          exact ih (k + 1) nn i k (by omega) (by omega) hi (by omega)
      · rw [if_neg h, if_neg h]
        by_cases g : C.2.2.2.2.2.2 j ≤ C.2.2.2.2.2.2 k
        · rw [if_pos g, if_pos g]
          exact ih (k + 1) nn k j (by omega) (by omega) (by omega) hj
        · rw [if_neg g, if_neg g]
          exact ih (k + 1) nn k k (by omega) (by omega) (by omega) (by omega)
  exact key (C.1 - 1) 1 FU 0 0 (by omega) (FU_lt (by omega)) h1 h1
end EL
def eldK (v : Int32) : Int32 → Int32 → fS → Option (Int64 × fS) := fun u48 u49 S50 => if v = (0 : Int32) then ((f_X11_putsBack  S50).bind fun q69 =>
  some ((Int32.toInt64 u48), q69)) else
  (if v = (1 : Int32) then ((f_X11_putsBack  S50).bind fun q66 =>
  some ((Int32.toInt64 u49), q66)) else
  ((gL S50 158 8 u48).bind fun a54 =>
  (gL S50 158 8 u49).bind fun a57 =>
  (f_X11_lowest (a54 - a57) (232792560 : Int64) (v - (2 : Int32)) S50).bind fun q60 =>
  (f_X11_putsBack  S50).bind fun q63 =>
  some (q60, q63)))
theorem t_27 (a1 a2 a3 : Int32) (S : fS) (hR : Rel S) : ∃ r S1 S2, f_X10_elder a1 a2 a3 S = some (r, S1) ∧ f_X11_elder a1 a2 a3 S1 = some (r, S2) ∧ Rel S2 := by
  have hR0 := hR
  obtain ⟨n, s, L, M, hT, hS, hL, hM⟩ := hR
  have hS0 := hS
  have hL0 := hL
  obtain ⟨⟨n1, n2, n3, n4, n5, n6⟩, ⟨b1, b2, b3, b4, b5⟩, ⟨m1, m2, m3, m4⟩, d⟩ := hS
  obtain ⟨l1, l2, l3, l4⟩ := hL
  have h8 := n5.1
  have i1 : f_X10_isFrom a2 0 200 S = some (if ((0 : Nat) : Int) ≤ a2.toInt ∧ a2.toInt ≤ ((200 : Nat) : Int) then 1 else 0) := from_c (a := 0) (b := 200) (by omega) (by omega)
  have i2 : f_X10_isFrom a3 0 3 S = some (if ((0 : Nat) : Int) ≤ a3.toInt ∧ a3.toInt ≤ ((3 : Nat) : Int) then 1 else 0) := from_c (a := 0) (b := 3) (by omega) (by omega)
  have j1 : ∀ T : fS, f_X11_in (Int32.toInt64 a2) 0 200 T = some (if ((0 : Nat) : Int) ≤ a2.toInt ∧ a2.toInt ≤ ((200 : Nat) : Int) then 1 else 0) := fun T => in_c (a := 0) (b := 200) (by omega) (by omega)
  have j2 : ∀ T : fS, f_X11_in (Int32.toInt64 a3) 0 3 T = some (if ((0 : Nat) : Int) ≤ a3.toInt ∧ a3.toInt ≤ ((3 : Nat) : Int) then 1 else 0) := fun T => in_c (a := 0) (b := 3) (by omega) (by omega)
  /- the reference, in one form -/
  have hm : ∀ T : fS, T.1 145 2 = o3 L.length → T.1 157 2 = o3 s.2.2.1.1 → f_X11_elder a1 a2 a3 T = if -1 ≤ a1.toInt ∧ a1.toInt < L.length then (if ((0 : Nat) : Int) ≤ a2.toInt ∧ a2.toInt ≤ ((200 : Nat) : Int) then (if ((0 : Nat) : Int) ≤ a3.toInt ∧ a3.toInt ≤ ((3 : Nat) : Int) then (if s.2.2.1.1 = 0 then some (-1, T) else ((f_X11_keeps T).bind fun q14 => lp_X11_elder_57 a1 a2 a3 (fun S21 => lp_X11_elder_83 a3 (eldK a3) FU (0 : Int32) (0 : Int32) (1 : Int32) S21) FU (0 : Int32) q14)) else some (-1, T)) else some (-1, T)) else some (-1, T) := fun T h2 h3 => by
    have hg : gI T 157 158 2 = some (o3 s.2.2.1.1) := (gI_o (k := 2) (by omega) (by omega)).trans (congrArg some h3)
    have hrest : ((f_X11_in (Int32.toInt64 a2) (0 : Int64) (200 : Int64) T).bind fun q2 => if q2 = (0 : Int32) then (some ((-1 : Int64), T)) else ((f_X11_in (Int32.toInt64 a3) (0 : Int64) (3 : Int64) T).bind fun q6 => if q6 = (0 : Int32) then (some ((-1 : Int64), T)) else ((gI T 157 158 (2 : Int32)).bind fun a10 => if a10 = (0 : Int32) then (some ((-1 : Int64), T)) else ((f_X11_keeps  T).bind fun q14 => lp_X11_elder_57 a1 a2 a3 (fun S21 => lp_X11_elder_83 a3 (eldK a3) FU (0 : Int32) (0 : Int32) (1 : Int32) S21) FU (0 : Int32) q14)))) = (if ((0 : Nat) : Int) ≤ a2.toInt ∧ a2.toInt ≤ ((200 : Nat) : Int) then (if ((0 : Nat) : Int) ≤ a3.toInt ∧ a3.toInt ≤ ((3 : Nat) : Int) then (if s.2.2.1.1 = 0 then some (-1, T) else ((f_X11_keeps T).bind fun q14 => lp_X11_elder_57 a1 a2 a3 (fun S21 => lp_X11_elder_83 a3 (eldK a3) FU (0 : Int32) (0 : Int32) (1 : Int32) S21) FU (0 : Int32) q14)) else some (-1, T)) else some (-1, T)) := by
      rw [j1, bd_some, j2, bd_some, hg, bd_some]
      by_cases z : ((0 : Nat) : Int) ≤ a2.toInt ∧ a2.toInt ≤ ((200 : Nat) : Int)
      · rw [if_pos z, if_pos z, if_neg (show ¬ (1 : Int32) = 0 by decide)]
        by_cases z' : ((0 : Nat) : Int) ≤ a3.toInt ∧ a3.toInt ≤ ((3 : Nat) : Int)
        · rw [if_pos z', if_pos z', if_neg (show ¬ (1 : Int32) = 0 by decide)]
          by_cases z0 : s.2.2.1.1 = 0
          · rw [if_pos z0, if_pos (show o3 s.2.2.1.1 = (0 : Int32) by rw [z0]; rfl)]
          · rw [if_neg z0, if_neg (show ¬ o3 s.2.2.1.1 = (0 : Int32) from fun q => z0 ((o3_inj (b := 0) (by omega) (by omega)).mp q))]
        · rw [if_neg z', if_neg z', if_pos rfl]
      · rw [if_neg z, if_neg z, if_pos rfl]
    unfold f_X11_elder
    by_cases h1 : a1 = -1
    · rw [if_pos h1]
      refine hrest.trans ?_
      rw [if_pos (show -1 ≤ a1.toInt ∧ a1.toInt < (L.length : Int) from by rw [h1, show (-1 : Int32).toInt = -1 from rfl]; omega)]
    · rw [if_neg h1, mr_o h2 (by omega), bd_some]
      have h1' : a1.toInt ≠ -1 := fun q => h1 (ni_eq.mpr q)
      by_cases z : 0 ≤ a1.toInt ∧ a1.toInt < L.length
      · rw [if_pos z, if_neg (show ¬ (1 : Int32) = 0 by decide)]
        refine hrest.trans ?_
        rw [if_pos (show -1 ≤ a1.toInt ∧ a1.toInt < (L.length : Int) by omega)]
      · rw [if_neg z, if_pos rfl, if_neg (show ¬ (-1 ≤ a1.toInt ∧ a1.toInt < (L.length : Int)) by omega)]
  have no : f_X10_elder a1 a2 a3 S = some (-1, S) → f_X11_elder a1 a2 a3 S = some (-1, S) → ∃ r S1 S2, f_X10_elder a1 a2 a3 S = some (r, S1) ∧ f_X11_elder a1 a2 a3 S1 = some (r, S2) ∧ Rel S2 := fun h g => ⟨-1, S, S, h, g, hR0⟩
  by_cases h1 : ¬ (-1 ≤ a1.toInt ∧ a1.toInt < L.length)
  · refine no ?_ (by rw [hm S l3 m2.1, if_neg h1])
    unfold f_X10_elder; rw [rn_o l2 (by omega), bd_some, if_neg h1, if_pos rfl]
  have h1 := Decidable.not_not.mp h1
  by_cases h2 : ¬ (((0 : Nat) : Int) ≤ a2.toInt ∧ a2.toInt ≤ ((200 : Nat) : Int))
  · refine no ?_ (by rw [hm S l3 m2.1, if_pos h1, if_neg h2])
    unfold f_X10_elder; rw [rn_o l2 (by omega), bd_some, if_pos h1, if_neg (show ¬ (1 : Int32) = 0 by decide), i1, bd_some, if_neg h2, if_pos rfl]
  have h2 := Decidable.not_not.mp h2
  by_cases h0 : s.2.2.1.1 = 0
  · refine no ?_ (by
      rw [hm S l3 m2.1, if_pos h1, if_pos h2]
      by_cases h3 : ((0 : Nat) : Int) ≤ a3.toInt ∧ a3.toInt ≤ ((3 : Nat) : Int)
      · rw [if_pos h3, if_pos h0]
      · rw [if_neg h3])
    unfold f_X10_elder; rw [rn_o l2 (by omega), bd_some, if_pos h1, if_neg (show ¬ (1 : Int32) = 0 by decide), i1, bd_some, if_pos h2, if_neg (show ¬ (1 : Int32) = 0 by decide), show S.1 11 5 = _ from b3.1, if_pos (show o3 s.2.2.1.1 = (0 : Int32) by rw [h0]; rfl)]
  by_cases h3 : ¬ (((0 : Nat) : Int) ≤ a3.toInt ∧ a3.toInt ≤ ((3 : Nat) : Int))
  · refine no ?_ (by rw [hm S l3 m2.1, if_pos h1, if_pos h2, if_neg h3])
    unfold f_X10_elder; rw [rn_o l2 (by omega), bd_some, if_pos h1, if_neg (show ¬ (1 : Int32) = 0 by decide), i1, bd_some, if_pos h2, if_neg (show ¬ (1 : Int32) = 0 by decide), show S.1 11 5 = _ from b3.1, if_neg (show ¬ o3 s.2.2.1.1 = (0 : Int32) from fun q => h0 ((o3_inj (b := 0) (by omega) (by omega)).mp q)), i2, bd_some, if_neg h3, if_pos rfl]
  have h3 := Decidable.not_not.mp h3
  obtain ⟨h, e1, e2⟩ := o3_ex (x := a2) (by omega)
  obtain ⟨S1, Q, c1, c2, c3, c4, c5, f1, f2⟩ := c_look (v := a1) (h := h) hS0 hL0 h1 (by omega)
  have q157 : S1.1 157 = S.1 157 := funext fun k => f1 157 k (by omega) (by omega)
  have q158 : S1.2 158 = S.2 158 := funext fun k => f2 158 k (by omega) (by omega)
  obtain ⟨T1, t1, t2, t3, t4, t5⟩ := m_keeps S1
  have q157' : T1.1 157 = S.1 157 := (funext fun k => t4 157 k (by omega)).trans q157
  have q158' : T1.2 158 = S.2 158 := (funext fun k => t5 158 k (by omega)).trans q158
  have hru : ruM T1 a1 Q := c5 T1 (fun r hr => cdM_eq (l4 r hr).2 (fun a k _ => (t4 a k (by omega)).trans (f1 a k (by omega) (by omega))))
  obtain ⟨T2, u1, u2, u3⟩ := m_elderl (v := a1) (p3 := a3) (Q := Q) n3 n4 n1 n2 (h := h) (by omega) (K := fun S21 => lp_X11_elder_83 a3 (eldK a3) FU (0 : Int32) (0 : Int32) (1 : Int32) S21) h 0 FU T1 s.2.2.1 (by omega) (FU_lt (by omega)) (okD_of n5) (by have := n5.2.1; omega) (by rw [q157', q158']; exact m2) (by rw [q157']; exact m1) (rHm_eq d (fun k => (t5 _ k (by omega)).trans (f2 _ k (by omega) (by omega)))) hru
  generalize cHrs s.1 s.2.1 Q h s.2.2.1 = C at c2 c3 c4 u2
  have hC8 : C.1 ≤ 8 := c3.1
  have hC0 : 0 < C.1 := by omega
  obtain ⟨T3, v1, v2, v3, v4, v5⟩ := m_puts T2
  have hx1 := cw_elx c2 hC8 hC0
  have hy1 := cw_yox c2 hC8 hC0
  have hxl : elx C.2.2.2.2.2.2 (C.1 - 1) 1 0 < C.1 := by have := elx_lt (A := C.2.2.2.2.2.2) (C.1 - 1) 1 0 (by omega); omega
  have hyl : yox C.2.2.2.2.2.2 (C.1 - 1) 1 0 < C.1 := by have := yox_lt (A := C.2.2.2.2.2.2) (C.1 - 1) 1 0 (by omega); omega
  have hle : C.2.2.2.2.2.2 (yox C.2.2.2.2.2.2 (C.1 - 1) 1 0) ≤ C.2.2.2.2.2.2 (elx C.2.2.2.2.2.2 (C.1 - 1) 1 0) := by
    obtain ⟨i, p1, p2, p3⟩ := cw_eldest c2 hC8 hC0
    rw [hx1] at p2
    have : elx C.2.2.2.2.2.2 (C.1 - 1) 1 0 = i := (o3_inj (by omega) (by omega)).mp (Option.some.inj p2)
    rw [this]
    exact p3 _ hyl
  have hM := m_elx u2 hC8 hC0 (v := a3) (K := eldK a3)
  have ga : ∀ z, z < C.1 → gL T2 158 8 (o3 z) = some (C.2.2.2.2.2.2 z) := fun z hz => (gL_o (by omega) (by omega)).trans (congrArg some (u2.2.2 z hz).2.2.2.2)
  have gc : ∀ z, z < C.1 → gL S1 36 8 (o3 z) = some (C.2.2.2.2.2.2 z) := fun z hz => (gL_o (by omega) (by omega)).trans (congrArg some (c2.2.2 z hz).2.2.2.2)
  generalize elx C.2.2.2.2.2.2 (C.1 - 1) 1 0 = x at *
  generalize yox C.2.2.2.2.2.2 (C.1 - 1) 1 0 = y at *
  obtain ⟨ax, g1, g2⟩ := age_oD c3 hxl
  obtain ⟨ay, g3, g4⟩ := age_oD c3 hyl
  have hay : ay ≤ ax := by rw [g1, g3] at hle; exact (o6_le (by omega) (by omega)).mp hle
  refine ⟨if (2 : Int32) ≤ a3 then lw (ax - ay) 232792560 (a3 - 2) else if a3 = 0 then o6 x else o6 y, S1, T3, ?_, ?_, look_rel (S := S) (S1 := S1) hT hS0 hL0 ‹rIm M S› f1 f2 (fun a k x y z => ?_) (fun a k x y z w => ?_) (fun k hk => ?_) (fun k hk => ?_)⟩
  · unfold f_X10_elder
    rw [rn_o l2 (by omega), bd_some, if_pos h1, if_neg (show ¬ (1 : Int32) = 0 by decide), i1, bd_some, if_pos h2, if_neg (show ¬ (1 : Int32) = 0 by decide), show S.1 11 5 = _ from b3.1, if_neg (show ¬ o3 s.2.2.1.1 = (0 : Int32) from fun q => h0 ((o3_inj (b := 0) (by omega) (by omega)).mp q)), i2, bd_some, if_pos h3, if_neg (show ¬ (1 : Int32) = 0 by decide), e1, c1, bd_some, hx1, bd_some, hy1, bd_some]
    by_cases z2 : (2 : Int32) ≤ a3
    · rw [if_pos z2, if_pos z2, gc x hxl, gc y hyl, bd_some, bd_some, g1, g3, o6_sub hay, show (232792560 : Int64) = o6 232792560 from rfl, c_low (by omega) (by omega) (by omega), bd_some]
    · rw [if_neg z2, if_neg z2]
      by_cases z0 : a3 = 0
      · rw [if_pos z0, if_pos z0, o6_of3 (by omega)]
      · rw [if_neg z0, if_neg z0, o6_of3 (by omega)]
  · rw [hm S1 ((f1 _ _ (by omega) (by omega)).trans l3) (by rw [q157]; exact m2.1), if_pos h1, if_pos h2, if_pos h3, if_neg h0, t1, bd_some, e1]
    refine (show lp_X11_elder_57 a1 (o3 h) a3 (fun S21 => lp_X11_elder_83 a3 (eldK a3) FU (0 : Int32) (0 : Int32) (1 : Int32) S21) FU (0 : Int32) T1 = _ from u1).trans ?_
    rw [hM]
    unfold eldK
    by_cases z0 : a3 = 0
    · rw [if_pos z0, v1, bd_some, if_neg (show ¬ (2 : Int32) ≤ a3 by rw [z0]; decide), if_pos z0, o6_of3 (by omega)]
    · rw [if_neg z0]
      by_cases z1 : a3 = 1
      · rw [if_pos z1, v1, bd_some, if_neg (show ¬ (2 : Int32) ≤ a3 by rw [z1]; decide), if_neg z0, o6_of3 (by omega)]
      · have z2 : (2 : Int32) ≤ a3 := by
          have y0 : a3.toInt ≠ 0 := fun q => z0 (ni_eq.mpr q)
          have y1 : a3.toInt ≠ 1 := fun q => z1 (ni_eq.mpr q)
          exact ni_le.mpr (by show 2 ≤ a3.toInt; omega)
        rw [if_neg z1, if_pos z2, ga x hxl, ga y hyl, bd_some, bd_some, g1, g3, o6_sub hay, show (232792560 : Int64) = o6 232792560 from rfl, m_low (by omega) (by omega) (by omega), bd_some, v1, bd_some]
  · rw [v4 a k x, u3.1 a k (by omega) z, t4 a k y]
  · rw [v5 a k z, u3.2 a k x y z, t5 a k w]
  · rw [v2 k hk, u3.1 159 k (by omega) (by omega), t2 k hk]
  · rw [v3 k hk, u3.2 160 k (by omega) (by omega) (by omega), t3 k hk]
end
section
/-! the best gain within some hours -/
def bt (mx : Int32) (x y : Int64) : Int64 := if x < 0 then y else if y < 0 then x else if mx = 0 then (if y ≤ x then y else x) else (if x ≤ y then y else x)
def bs (v : Nat → Int64) (mx : Int32) : Nat → Nat → Int64 → Int64
  | 0, _, x => x
  | d + 1, k, x => bs v mx d (k + 1) (bt mx (v k) x)
def stv (g p : Int64) : Int64 := if 0 ≤ g then g + p else -1
def gsv (E : List St5) (G : Nat → Nat → Int64) (h f k : Nat) : Int64 := if oeI (E.getD k d5) f = -1 then -1 else if h < (E.getD k d5).2.2.1 then -1 else if 0 ≤ G (h - (E.getD k d5).2.2.1) (oeI (E.getD k d5) f).toNatClampNeg then G (h - (E.getD k d5).2.2.1) (oeI (E.getD k d5) f).toNatClampNeg + o6 (E.getD k d5).2.2.1 * pc (E.getD k d5).2.2.2 else -1
def gF (F : List (Nat × Nat)) (E : List St5) (tg : Nat) (mx : Int32) : Nat → Nat → Nat → Int64
  | 0, _, f => if f = tg then 0 else -1
  | n + 1, h, f => if h = 0 then (if f = tg then 0 else -1) else bs (gsv E (gF F E tg mx n) h f) mx E.length 0 (stv (gF F E tg mx n (h - 1) f) (pc (F.getD f (0, 0))))
def GG (F : List (Nat × Nat)) (E : List St5) (tg : Nat) (mx : Int32) (h f : Nat) : Int64 := gF F E tg mx h h f
theorem bs_cg {v w : Nat → Int64} {mx : Int32} : ∀ d k x, (∀ j, k ≤ j → j < k + d → v j = w j) → bs v mx d k x = bs w mx d k x := by
  intro d
  induction d with
  | zero => intro k x _; rfl
  | succ d ih =>
    intro k x h
    show bs v mx d (k + 1) (bt mx (v k) x) = bs w mx d (k + 1) (bt mx (w k) x)
    rw [h k (Nat.le_refl _) (by omega)]
    exact ih (k + 1) _ (fun j h1 h2 => h j (by omega) (by omega))
theorem gsv_cg {E : List St5} {G H : Nat → Nat → Int64} {m h f k : Nat} (hE : ∀ q ∈ E, okS m q) (hk : k < E.length) (e : ∀ j g, j < h → G j g = H j g) : gsv E G h f k = gsv E H h f k := by
  unfold gsv
  obtain ⟨_, _, _, s4, _⟩ := hE _ (gd_mem (d := d5) hk)
  by_cases h1 : oeI (E.getD k d5) f = -1
  · rw [if_pos h1, if_pos h1]
  · rw [if_neg h1, if_neg h1]
    by_cases h2 : h < (E.getD k d5).2.2.1
    · rw [if_pos h2, if_pos h2]
    · rw [if_neg h2, if_neg h2, e _ _ (by omega)]
theorem gF_st {F : List (Nat × Nat)} {E : List St5} {tg m : Nat} {mx : Int32} (hE : ∀ q ∈ E, okS m q) : ∀ n, (∀ h f, h ≤ n → gF F E tg mx n h f = GG F E tg mx h f) := by
  intro n
  induction n using Nat.strongRecOn with
  | _ n ih =>
    intro h f hn
    cases n with
    | zero =>
      have : h = 0 := by omega
      subst this
      rfl
    | succ n =>
      cases h with
      | zero => rfl
      | succ h =>
        have e1 : gF F E tg mx (n + 1) (h + 1) f = bs (gsv E (gF F E tg mx n) (h + 1) f) mx E.length 0 (stv (gF F E tg mx n h f) (pc (F.getD f (0, 0)))) := rfl
        have e2 : GG F E tg mx (h + 1) f = bs (gsv E (gF F E tg mx h) (h + 1) f) mx E.length 0 (stv (GG F E tg mx h f) (pc (F.getD f (0, 0)))) := rfl
        rw [e1, e2, ih n (by omega) h f (by omega)]
        refine bs_cg _ _ _ (fun j h1 h2 => gsv_cg hE (by omega) (fun a g ha => ?_))
        rw [ih n (by omega) a g (by omega)]
        by_cases hh : h < n + 1
        · rw [ih h hh a g (by omega)]
        · exact absurd hn (by omega)
theorem GG_0 {F : List (Nat × Nat)} {E : List St5} {tg f : Nat} {mx : Int32} : GG F E tg mx 0 f = if f = tg then 0 else -1 := rfl
theorem GG_s {F : List (Nat × Nat)} {E : List St5} {tg m f h : Nat} {mx : Int32} (hE : ∀ q ∈ E, okS m q) : GG F E tg mx (h + 1) f = bs (gsv E (GG F E tg mx) (h + 1) f) mx E.length 0 (stv (GG F E tg mx h f) (pc (F.getD f (0, 0)))) := by
  have e2 : GG F E tg mx (h + 1) f = bs (gsv E (gF F E tg mx h) (h + 1) f) mx E.length 0 (stv (GG F E tg mx h f) (pc (F.getD f (0, 0)))) := rfl
  rw [e2]
  exact bs_cg _ _ _ (fun j h1 h2 => gsv_cg hE (by omega) (fun a g ha => gF_st hE h a g (by omega)))
/-- as a number, or -1 -/
def nb (x : Int64) (h : Nat) : Prop := x = -1 ∨ ∃ g, x = o6 g ∧ g ≤ 4655851200 * h
theorem nb_bt {mx : Int32} {x y : Int64} {h : Nat} (hx : nb x h) (hy : nb y h) : nb (bt mx x y) h := by
  unfold bt
  split
  · exact hy
  · split
    · exact hx
    · split
      · split
        · exact hy
        · exact hx
      · split
        · exact hy
        · exact hx
theorem nb_bs {v : Nat → Int64} {mx : Int32} {h : Nat} : ∀ d k x, nb x h → (∀ j, k ≤ j → j < k + d → nb (v j) h) → nb (bs v mx d k x) h := by
  intro d
  induction d with
  | zero => intro k x hx _; exact hx
  | succ d ih =>
    intro k x hx hv
    exact ih (k + 1) _ (nb_bt (hv k (Nat.le_refl _) (by omega)) hx) (fun j h1 h2 => hv j (by omega) (by omega))
theorem GG_nb {F : List (Nat × Nat)} {E : List St5} {tg : Nat} {mx : Int32} (hF : ∀ q ∈ F, okF q) (hE : ∀ q ∈ E, okS F.length q) (hm : F.length ≤ 10) : ∀ h f, h ≤ 120 → f < F.length → nb (GG F E tg mx h f) h := by
  intro h
  induction h using Nat.strongRecOn with
  | _ h ih =>
    intro f hh hf
    cases h with
    | zero =>
      rw [GG_0]
      split
      · exact Or.inr ⟨0, rfl, by omega⟩
      · exact Or.inl rfl
    | succ h =>
      rw [GG_s hE]
      refine nb_bs _ _ _ ?_ (fun j _ hj => ?_)
      · unfold stv
        rcases ih h (by omega) f (by omega) hf with e | ⟨g, e1, e2⟩
        · rw [e, if_neg (by decide)]; exact Or.inl rfl
        · have hp := pcn_le (hF _ (gd_mem (d := (0, 0)) hf))
          rw [e1, if_pos (o6_0le (by omega)), pc_o, o6_add]
          exact Or.inr ⟨_, rfl, by omega⟩
      · have hj : j < E.length := by omega
        have hq := hE _ (gd_mem (d := d5) hj)
        obtain ⟨s1, s2, s3, s4, s5, s6⟩ := hq
        unfold gsv
        rcases oe_or (a := f) (hE _ (gd_mem (d := d5) hj)) hm with ⟨o, o1, o2, _⟩ | ⟨o2, _⟩
        · rw [o2, if_neg (o3_m1 (by omega)), o3_nat (by omega)]
          by_cases h2 : h + 1 < (E.getD j d5).2.2.1
          · rw [if_pos h2]; exact Or.inl rfl
          · rw [if_neg h2]
            rcases ih (h + 1 - (E.getD j d5).2.2.1) (by omega) o (by omega) o1 with e | ⟨g, e1, e2⟩
            · rw [e, if_neg (by decide)]; exact Or.inl rfl
            · have hp := pcn_le s6
              have hmul : (E.getD j d5).2.2.1 * ((E.getD j d5).2.2.2.1 * pz (E.getD j d5).2.2.2) ≤ (E.getD j d5).2.2.1 * 4655851200 := Nat.mul_le_mul_left _ hp.2
              have hd : 4655851200 * (h + 1 - (E.getD j d5).2.2.1) + 4655851200 * (E.getD j d5).2.2.1 = 4655851200 * (h + 1) := by rw [← Nat.mul_add]; congr 1; omega
              rw [e1, if_pos (o6_0le (by omega)), pc_o, o6_mul, o6_add]
              exact Or.inr ⟨_, rfl, by omega⟩
        · rw [o2, if_pos rfl]; exact Or.inl rfl
section PC
variable {F : List (Nat × Nat)} {E : List St5} {tg : Nat} {mx : Int32}
/-- the class's table, whole up to hour h -/
def tbC (F : List (Nat × Nat)) (E : List St5) (tg : Nat) (mx : Int32) (S : fS) (h : Nat) : Prop := ∀ j f, j ≤ h → f < F.length → S.2 44 (10 * j + f) = GG F E tg mx j f
theorem cg_of {S : fS} {h j f : Nat} (hT : tbC F E tg mx S h) (hj : j ≤ h) (h120 : h ≤ 120) (hf : f < F.length) (hm : F.length ≤ 10) : f_X1_gainOf (o3 j) (o3 f) S = some (GG F E tg mx j f) := by
  unfold f_X1_gainOf
  rw [if_neg (o3_nn (by omega)), if_pos (show o3 j ≤ (120 : Int32) from (o3_le (b := 120) (by omega) (by omega)).mpr (by omega)), show (10 : Int32) = o3 10 from rfl, o3_mul, o3_add, gL_o (by omega) (by omega), bd_some, show j * 10 + f = 10 * j + f by omega, hT j f hj hf]
theorem cg_stay {S : fS} {h f : Nat} (b1 : twC S 4 F E) (hT : tbC F E tg mx S h) (h120 : h + 1 ≤ 120) (hf : f < F.length) (hm : F.length ≤ 10) : f_X1_gainByStaying 4 (o3 (h + 1)) (o3 f) S = some (stv (GG F E tg mx h f) (pc (F.getD f (0, 0)))) := by
  unfold f_X1_gainByStaying stv
  rw [show (1 : Int32) = o3 1 from rfl, o3_sub (by omega), show h + 1 - 1 = h by omega, cg_of hT (Nat.le_refl _) (by omega) hf hm, bd_some, show gL S (4 + 1) 10 (o3 f) = _ from cf_p b1 hm hf, bd_some]
  split <;> rfl
theorem cg_stair {S : fS} {h f k : Nat} (b1 : twC S 4 F E) (hE : ∀ q ∈ E, okS F.length q) (hT : tbC F E tg mx S h) (h120 : h + 1 ≤ 120) (hf : f < F.length) (hm : F.length ≤ 10) (hl : E.length ≤ 12) (hk : k < E.length) : f_X1_gainByStair 4 (o3 (h + 1)) (o3 f) (o3 k) S = some (gsv E (GG F E tg mx) (h + 1) f k) := by
  obtain ⟨s1, s2, s3, s4, s5, s6⟩ := hE _ (gd_mem (d := d5) hk)
  obtain ⟨w1, w2, w3, w4⟩ := b1.2.2.2 k hk
  unfold f_X1_gainByStair gsv
  rw [ch_other b1 hE hm hl hk (by omega), bd_some, gI_o (by omega) (by omega), bd_some, w3]
  rcases oe_or (a := f) (hE _ (gd_mem (d := d5) hk)) hm with ⟨o, o1, o2, _⟩ | ⟨o2, _⟩
  · rw [o2, if_pos (o3_0le (by omega)), if_neg (o3_m1 (by omega)), o3_nat (by omega)]
    by_cases h2 : h + 1 < (E.getD k d5).2.2.1
    · have hneg : f_X1_gainOf (o3 (h + 1) - o3 (E.getD k d5).2.2.1) (o3 o) S = some (-1) := by
        unfold f_X1_gainOf
        rw [if_pos]
        rw [ni_lt, ni_sub (by rw [o3_int (by omega), o3_int (by omega)]; omega) (by rw [o3_int (by omega), o3_int (by omega)]; omega), o3_int (by omega), o3_int (by omega), ni_0]
        omega
      rw [hneg, bd_some, if_neg (by decide), if_pos h2]
    · rw [if_neg h2, o3_sub (by omega), cg_of hT (by omega) (by omega) o1 hm, bd_some, gL_o (by omega) (by omega), bd_some, w4, o6_of3 (by omega)]
      split <;> rfl
  · rw [o2, if_neg (by decide), if_neg (by decide), if_pos rfl]
/-- taken or left: the better one -/
theorem cg_pick {x y : Int64} {S : fS} {β : Type} {A : Int64 → Option β} : ((f_X1_isBetter x y mx S).bind fun q8 => if q8 = (0 : Int32) then A y else A x) = A (bt mx x y) := by
  unfold f_X1_isBetter bt
  by_cases h1 : x < 0
  · simp only [if_pos h1, bd_some, if_true]
  · simp only [if_neg h1]
    by_cases h2 : y < 0
    · rw [if_neg (show ¬ (0 : Int64) ≤ y by rw [nl_lt] at h2; rw [nl_le]; omega), bd_some, if_neg (by decide), if_pos h2]
    · rw [if_pos (show (0 : Int64) ≤ y by rw [nl_lt] at h2; rw [nl_le]; omega), if_neg h2]
      by_cases h3 : mx = 0
      · rw [if_pos h3, if_pos h3]
        by_cases h4 : y ≤ x
        · rw [if_pos h4, if_pos h4, bd_some, if_pos rfl]
        · rw [if_neg h4, if_neg h4, bd_some, if_neg (by decide)]
      · rw [if_neg h3, if_neg h3]
        by_cases h4 : x ≤ y
        · rw [if_pos h4, if_pos h4, bd_some, if_pos rfl]
        · rw [if_neg h4, if_neg h4, bd_some, if_neg (by decide)]
theorem cg_best {S : fS} {h f : Nat} (b1 : twC S 4 F E) (hE : ∀ q ∈ E, okS F.length q) (hT : tbC F E tg mx S h) (h120 : h + 1 ≤ 120) (hf : f < F.length) (hm : F.length ≤ 10) (hl : E.length ≤ 12) : f_X1_bestGain 4 (o3 (h + 1)) (o3 f) mx S = some (GG F E tg mx (h + 1) f) := by
  have key : ∀ d k nn x, k + d = E.length → d < nn → lp_X1_bestGain_12 4 (o3 (h + 1)) (o3 f) mx S (fun u12 => some u12) nn x (o3 k) = some (bs (gsv E (GG F E tg mx) (h + 1) f) mx d k x) := by
    intro d
    induction d with
    | zero =>
      intro k nn x hk hnn
      obtain ⟨nn, rfl⟩ : ∃ z, nn = z + 1 := ⟨nn - 1, by omega⟩
      rw [lp_X1_bestGain_12.eq_2, b1.2.1, if_pos ((o3_le (by omega) (by omega)).mpr (by omega))]
      rfl
    | succ d ih =>
      intro k nn x hk hnn
      obtain ⟨nn, rfl⟩ : ∃ z, nn = z + 1 := ⟨nn - 1, by omega⟩
      rw [lp_X1_bestGain_12.eq_2, b1.2.1, if_neg (fun q => by have := (o3_le (by omega) (by omega)).mp q; omega), cg_stair b1 hE hT h120 hf hm hl (by omega), bd_some, o3_s]
      refine (cg_pick (A := fun z => lp_X1_bestGain_12 4 (o3 (h + 1)) (o3 f) mx S (fun u12 => some u12) nn z (o3 (k + 1)))).trans ?_
      exact ih (k + 1) nn _ (by omega) (by omega)
  unfold f_X1_bestGain
  rw [cg_stay b1 hT h120 hf hm, bd_some, GG_s hE]
  exact key E.length 0 FU _ (by omega) (FU_lt (by omega))
end PC
end
section
/-! plan(): both tables, the answers -/
section PC2
variable {F : List (Nat × Nat)} {E : List St5} {tg : Nat} {mx : Int32}
def e44 (S T : fS) : Prop := T.1 = S.1 ∧ ∀ a k, a ≠ 44 → T.2 a k = S.2 a k
theorem e44.rf {S : fS} : e44 S S := ⟨rfl, fun _ _ _ => rfl⟩
theorem e44.tr {S T U : fS} (h : e44 S T) (g : e44 T U) : e44 S U := ⟨g.1.trans h.1, fun a k n => (g.2 a k n).trans (h.2 a k n)⟩
theorem e44_p {S : fS} {k : Nat} {x : Int64} : e44 S (pL S 44 k x) := ⟨rfl, fun a j h => pL_ne (by omega)⟩
theorem twC_44 {S T : fS} (h : twC S 4 F E) (e : e44 S T) : twC T 4 F E := twC_eq h (fun a k _ _ => by rw [e.1]) (fun a k _ _ => e.2 a k (by omega))
theorem me_3 {p3 p4 : Int32} (htg : tg < 2147483648) {K : fS → Option fS} : ∀ d k nn (S : fS), k + d = 10 → d < nn → (∀ j, j < k → S.2 44 j = if j = tg then 0 else -1) → ∃ T, lp_X1_measure_3 4 (o3 tg) p3 p4 K nn (o3 k) S = K T ∧ (∀ j, j < 10 → T.2 44 j = if j = tg then 0 else -1) ∧ e44 S T := by
  intro d
  induction d with
  | zero =>
    intro k nn S hk hnn hj
    obtain ⟨nn, rfl⟩ : ∃ z, nn = z + 1 := ⟨nn - 1, by omega⟩
    rw [lp_X1_measure_3.eq_2, if_pos (show (10 : Int32) ≤ o3 k from (o3_le (a := 10) (by omega) (by omega)).mpr (by omega))]
    exact ⟨S, rfl, fun j h => hj j (by omega), e44.rf⟩
  | succ d ih =>
    intro k nn S hk hnn hj
    obtain ⟨nn, rfl⟩ : ∃ z, nn = z + 1 := ⟨nn - 1, by omega⟩
    have key : ∀ x, x = (if k = tg then (0 : Int64) else -1) → ∃ T, lp_X1_measure_3 4 (o3 tg) p3 p4 K nn (o3 (k + 1)) (pL S 44 k x) = K T ∧ (∀ j, j < 10 → T.2 44 j = if j = tg then 0 else -1) ∧ e44 S T := fun x hx => by
      obtain ⟨T, t1, t2, t3⟩ := ih (k + 1) nn (pL S 44 k x) (by omega) (by omega) (fun j h => by
        by_cases e : j = k
        · subst e; rw [pL_eq, hx]
        · rw [pL_ne (by omega)]; exact hj j (by omega))
      exact ⟨T, t1, t2, e44_p.tr t3⟩
    rw [lp_X1_measure_3.eq_2, if_neg (show ¬ (10 : Int32) ≤ o3 k from fun q => by have := (o3_le (a := 10) (by omega) (by omega)).mp q; omega), sL_o (by omega) (by omega), sL_o (by omega) (by omega), bd_some, bd_some, o3_s]
    by_cases e : k = tg
    · rw [if_pos ((o3_inj (by omega) htg).mpr e)]
      exact key 0 (by rw [if_pos e])
    · rw [if_neg (fun q => e ((o3_inj (by omega) htg).mp q))]
      exact key (-1) (by rw [if_neg e])
theorem me_55 (hE : ∀ q ∈ E, okS F.length q) (hm : F.length ≤ 10) (hl : E.length ≤ 12) {p3 : Int32} {h : Nat} (h120 : h + 1 ≤ 120) {K : fS → Option fS} : ∀ d k nn (S : fS), k + d = F.length → d < nn → twC S 4 F E → tbC F E tg mx S h → (∀ f, f < k → S.2 44 (10 * (h + 1) + f) = GG F E tg mx (h + 1) f) → ∃ T, lp_X1_measure_55 4 p3 mx (o3 (h + 1)) K nn (o3 k) S = K T ∧ tbC F E tg mx T (h + 1) ∧ e44 S T := by
  intro d
  induction d with
  | zero =>
    intro k nn S hk hnn b1 hT hj
    obtain ⟨nn, rfl⟩ : ∃ z, nn = z + 1 := ⟨nn - 1, by omega⟩
    rw [lp_X1_measure_55.eq_2, b1.1, if_pos ((o3_le (by omega) (by omega)).mpr (by omega))]
    refine ⟨S, rfl, fun j f h1 h2 => ?_, e44.rf⟩
    by_cases e : j = h + 1
    · rw [e]; exact hj f (by omega)
    · exact hT j f (by omega) h2
  | succ d ih =>
    intro k nn S hk hnn b1 hT hj
    obtain ⟨nn, rfl⟩ : ∃ z, nn = z + 1 := ⟨nn - 1, by omega⟩
    rw [lp_X1_measure_55.eq_2, b1.1, if_neg (fun q => by have := (o3_le (by omega) (by omega)).mp q; omega), cg_best b1 hE hT h120 (by omega) hm hl, bd_some, show (10 : Int32) = o3 10 from rfl, o3_mul, o3_add, sL_o (by omega) (by omega), bd_some, o3_s]
    obtain ⟨T, t1, t2, t3⟩ := ih (k + 1) nn (pL S 44 ((h + 1) * 10 + k) (GG F E tg mx (h + 1) k)) (by omega) (by omega) (twC_44 b1 e44_p) (fun j f h1 h2 => by rw [pL_ne (by omega)]; exact hT j f h1 h2) (fun f hf => by
      by_cases e : f = k
      · subst e; rw [show 10 * (h + 1) + f = (h + 1) * 10 + f by omega, pL_eq]
      · rw [pL_ne (by omega)]; exact hj f (by omega))
    exact ⟨T, t1, t2, e44_p.tr t3⟩
theorem me_39 (hE : ∀ q ∈ E, okS F.length q) (hm : F.length ≤ 10) (hl : E.length ≤ 12) {n : Nat} (hn : n ≤ 120) {K : fS → Option fS} : ∀ d h nn (S : fS), h + d = n → d < nn → twC S 4 F E → tbC F E tg mx S h → ∃ T, lp_X1_measure_39 4 (o3 n) mx K nn (o3 (h + 1)) S = K T ∧ tbC F E tg mx T n ∧ e44 S T := by
  intro d
  induction d with
  | zero =>
    intro h nn S hk hnn b1 hT
    obtain ⟨nn, rfl⟩ : ∃ z, nn = z + 1 := ⟨nn - 1, by omega⟩
    rw [lp_X1_measure_39.eq_2, if_pos ((o3_lt (by omega) (by omega)).mpr (by omega))]
    rw [show h = n by omega] at hT
    exact ⟨S, rfl, hT, e44.rf⟩
  | succ d ih =>
    intro h nn S hk hnn b1 hT
    obtain ⟨nn, rfl⟩ : ∃ z, nn = z + 1 := ⟨nn - 1, by omega⟩
    rw [lp_X1_measure_39.eq_2, if_neg (fun q => by have := (o3_lt (by omega) (by omega)).mp q; omega), if_neg (show ¬ (120 : Int32) < o3 (h + 1) from fun q => by have := (o3_lt (a := 120) (by omega) (by omega)).mp q; omega)]
    obtain ⟨T1, a1, a2, a3⟩ := me_55 (p3 := o3 n) hE hm hl (h := h) (by omega) (K := fun S20 => lp_X1_measure_39 4 (o3 n) mx K nn (o3 (h + 1) + 1) S20) F.length 0 FU S (by omega) (FU_lt (by omega)) b1 hT (fun f hf => absurd hf (Nat.not_lt_zero _))
    obtain ⟨T, t1, t2, t3⟩ := ih (h + 1) nn T1 (by omega) (by omega) (twC_44 b1 a3) a2
    refine ⟨T, a1.trans ?_, t2, a3.tr t3⟩
    rw [o3_s]
    exact t1
theorem c_meas {S : fS} (b1 : twC S 4 F E) (hE : ∀ q ∈ E, okS F.length q) (hm : F.length ≤ 10) (hl : E.length ≤ 12) {n : Nat} (hn : n ≤ 120) (htg : tg < F.length) : ∃ T, f_X1_measure 4 (o3 tg) (o3 n) mx S = some T ∧ tbC F E tg mx T n ∧ e44 S T := by
  obtain ⟨T1, a1, a2, a3⟩ := me_3 (tg := tg) (p3 := o3 n) (p4 := mx) (by omega) (K := fun S9 => lp_X1_measure_39 4 (o3 n) mx (fun S22 => some S22) FU (1 : Int32) S9) 10 0 FU S (by omega) (FU_lt (by omega)) (fun j hj => absurd hj (Nat.not_lt_zero _))
  obtain ⟨T, t1, t2, t3⟩ := me_39 (tg := tg) (mx := mx) hE hm hl hn (K := fun S22 => some S22) n 0 FU T1 (by omega) (FU_lt (by omega)) (twC_44 b1 a3) (fun j f h1 h2 => by
    have : j = 0 := by omega
    subst this
    rw [show 10 * 0 + f = f by omega, a2 f (by omega), GG_0])
  exact ⟨T, a1.trans t1, t2, a3.tr t3⟩
end PC2
section PM2
variable {F : List (Nat × Nat)} {E : List St5} {tg : Nat} {mx : Int32} {n : Nat}
/-- the reference's table, whole from hour t on, of n hours -/
def tbM (F : List (Nat × Nat)) (E : List St5) (tg : Nat) (mx : Int32) (n : Nat) (S : fS) (t : Nat) : Prop := ∀ j f, t ≤ j → j ≤ n → f < F.length → S.2 162 (10 * j + f) = GG F E tg mx (n - j) f
def e162 (S T : fS) : Prop := T.1 = S.1 ∧ ∀ a k, a ≠ 162 → T.2 a k = S.2 a k
theorem e162.rf {S : fS} : e162 S S := ⟨rfl, fun _ _ _ => rfl⟩
theorem e162.tr {S T U : fS} (h : e162 S T) (g : e162 T U) : e162 S U := ⟨g.1.trans h.1, fun a k n => (g.2 a k n).trans (h.2 a k n)⟩
theorem e162_p {S : fS} {k : Nat} {x : Int64} : e162 S (pL S 162 k x) := ⟨rfl, fun a j h => pL_ne (by omega)⟩
theorem mg_stay {S : fS} {t f : Nat} (m1 : twM (S.1 157) F E) (hF : ∀ q ∈ F, okF q) (hT : tbM F E tg mx n S (t + 1)) (hn : n ≤ 120) (ht : t < n) (hf : f < F.length) (hm : F.length ≤ 10) : f_X11_by (o3 f) (o3 t) (-1) (o3 n) S = some (stv (GG F E tg mx (n - t - 1) f) (pc (F.getD f (0, 0)))) := by
  unfold f_X11_by stv
  rw [if_neg (show ¬ (0 : Int32) ≤ -1 by decide), if_neg (show ¬ (0 : Int32) ≤ -1 by decide), if_neg (o3_nn (by omega)), o3_s, if_neg (fun q => by have := (o3_lt (by omega) (by omega)).mp q; omega), show (10 : Int32) = o3 10 from rfl, o3_mul, o3_add, gL_o (by omega) (by omega), bd_some, hT (t + 1) f (Nat.le_refl _) (by omega) hf, show n - (t + 1) = n - t - 1 by omega, bd_some, if_neg (show ¬ (0 : Int32) ≤ -1 by decide), mp_floor m1 hF hm hf, bd_some, show Int32.toInt64 1 = (1 : Int64) from rfl, show (1 : Int64) * pc (F.getD f (0, 0)) = pc (F.getD f (0, 0)) from Int64.one_mul _]
  split <;> rfl
theorem mg_stair {S : fS} {t f k : Nat} (m1 : twM (S.1 157) F E) (hE : ∀ q ∈ E, okS F.length q) (hT : tbM F E tg mx n S (t + 1)) (hn : n ≤ 120) (ht : t < n) (hf : f < F.length) (hm : F.length ≤ 10) (hl : E.length ≤ 12) (hk : k < E.length) : f_X11_by (o3 f) (o3 t) (o3 k) (o3 n) S = some (gsv E (GG F E tg mx) (n - t) f k) := by
  obtain ⟨s1, s2, s3, s4, s5, s6⟩ := hE _ (gd_mem (d := d5) hk)
  obtain ⟨u1, u2, u3, u4, u5⟩ := mh_stair m1 hl hk
  have u3 : f_X11_stairOf (o3 k) 2 S = some (o3 (E.getD k d5).2.2.1) := u3
  unfold f_X11_by gsv
  rw [if_pos (o3_0le (by omega)), u3, bd_some, if_pos (o3_0le (by omega)), mh_other m1 hE hm hl hk (by omega), bd_some, o3_add]
  rcases oe_or (a := f) (hE _ (gd_mem (d := d5) hk)) hm with ⟨o, o1, o2, _⟩ | ⟨o2, _⟩
  · rw [o2, if_neg (o3_nn (by omega)), if_neg (o3_m1 (by omega)), o3_nat (by omega)]
    by_cases h2 : n - t < (E.getD k d5).2.2.1
    · rw [if_pos ((o3_lt (by omega) (by omega)).mpr (by omega)), if_pos h2]
    · rw [if_neg (fun q => by have := (o3_lt (by omega) (by omega)).mp q; omega), if_neg h2, show (10 : Int32) = o3 10 from rfl, o3_mul, o3_add, gL_o (by omega) (by omega), bd_some, hT _ _ (by omega) (by omega) o1, show n - (t + (E.getD k d5).2.2.1) = n - t - (E.getD k d5).2.2.1 by omega, bd_some, if_pos (o3_0le (by omega)), mp_stair m1 hE hl hk, bd_some, o6_of3 (by omega)]
      split <;> rfl
  · rw [o2, if_pos (by decide), if_pos rfl]
theorem mg_pick {x y : Int64} {S : fS} {β : Type} {A : Int64 → Option β} : (if x < (0 : Int64) then A y else ((f_X11_isBetter x y mx S).bind fun q9 => if q9 = (0 : Int32) then A y else A x)) = A (bt mx x y) := by
  unfold f_X11_isBetter bt
  by_cases h1 : x < 0
  · simp only [if_pos h1]
  · simp only [if_neg h1]
    by_cases h2 : y < 0
    · rw [if_pos h2, bd_some, if_neg (by decide), if_pos h2]
    · rw [if_neg h2, if_neg h2]
      by_cases h3 : mx = 0
      · rw [if_pos h3, if_pos h3]
        by_cases h4 : y ≤ x
        · rw [if_pos h4, if_pos h4, bd_some, if_pos rfl]
        · rw [if_neg h4, if_neg h4, bd_some, if_neg (by decide)]
      · rw [if_neg h3, if_neg h3]
        by_cases h4 : x ≤ y
        · rw [if_pos h4, if_pos h4, bd_some, if_pos rfl]
        · rw [if_neg h4, if_neg h4, bd_some, if_neg (by decide)]
theorem bt_m1 {x : Int64} (h : x < 0 → x = -1) : bt mx x (-1) = x := by
  unfold bt
  by_cases h1 : x < 0
  · rw [if_pos h1, h h1]
  · rw [if_neg h1, if_pos (by decide)]
theorem stv_m1 {g p : Int64} (hp : 0 ≤ g → ¬ g + p < 0) : stv g p < 0 → stv g p = -1 := by
  unfold stv
  split
  · intro h; rename_i hg; exact absurd h (hp hg)
  · intro _; rfl
theorem mg_best {S : fS} {t f : Nat} (m1 : twM (S.1 157) F E) (hF : ∀ q ∈ F, okF q) (hE : ∀ q ∈ E, okS F.length q) (hT : tbM F E tg mx n S (t + 1)) (hn : n ≤ 120) (ht : t < n) (hf : f < F.length) (hm : F.length ≤ 10) (hl : E.length ≤ 12) : f_X11_bestFrom (o3 f) (o3 t) (o3 n) mx S = some (GG F E tg mx (n - t) f) := by
  have hg1 : gI S 157 158 1 = some (o3 E.length) := (gI_o (k := 1) (by omega) (by omega)).trans (congrArg some m1.2.1)
  have key : ∀ d k nn x, k + d = E.length → d < nn → lp_X11_bestFrom_8 (o3 f) (o3 t) (o3 n) mx S (fun u13 => some u13) nn x (o3 k) = some (bs (gsv E (GG F E tg mx) (n - t) f) mx d k x) := by
    intro d
    induction d with
    | zero =>
      intro k nn x hk hnn
      obtain ⟨nn, rfl⟩ : ∃ z, nn = z + 1 := ⟨nn - 1, by omega⟩
      rw [lp_X11_bestFrom_8.eq_2, hg1, bd_some, if_pos ((o3_le (by omega) (by omega)).mpr (by omega))]
      rfl
    | succ d ih =>
      intro k nn x hk hnn
      obtain ⟨nn, rfl⟩ : ∃ z, nn = z + 1 := ⟨nn - 1, by omega⟩
      rw [lp_X11_bestFrom_8.eq_2, hg1, bd_some, if_neg (fun q => by have := (o3_le (by omega) (by omega)).mp q; omega), mg_stair m1 hE hT hn ht hf hm hl (by omega), bd_some, o3_s]
      refine (mg_pick (A := fun z => lp_X11_bestFrom_8 (o3 f) (o3 t) (o3 n) mx S (fun u13 => some u13) nn z (o3 (k + 1)))).trans ?_
      exact ih (k + 1) nn _ (by omega) (by omega)
  unfold f_X11_bestFrom
  obtain ⟨fu, hfu⟩ : ∃ z, FU = z + 1 := ⟨FU - 1, by have := FU_lt (d := 1) (by omega); omega⟩
  have hfu2 : E.length < fu := by have := FU_lt (d := E.length + 1) (by omega); omega
  rw [hfu, lp_X11_bestFrom_8.eq_2, hg1, bd_some, if_neg (show ¬ o3 E.length ≤ (-1 : Int32) from fun q => by have q := ni_le.mp q; rw [o3_int (by omega), show (-1 : Int32).toInt = -1 from rfl] at q; omega), mg_stay m1 hF hT hn ht hf hm, bd_some, show (-1 : Int32) + 1 = o3 0 from rfl]
  refine (mg_pick (A := fun z => lp_X11_bestFrom_8 (o3 f) (o3 t) (o3 n) mx S (fun u13 => some u13) fu z (o3 0))).trans ?_
  have hs : stv (GG F E tg mx (n - t - 1) f) (pc (F.getD f (0, 0))) < 0 → stv (GG F E tg mx (n - t - 1) f) (pc (F.getD f (0, 0))) = -1 := by
    refine stv_m1 (fun hg => ?_)
    have hp := pcn_le (hF _ (gd_mem (d := (0, 0)) hf))
    rcases GG_nb (tg := tg) (mx := mx) hF hE hm (n - t - 1) f (by omega) hf with e | ⟨g, e1, e2⟩
    · rw [e] at hg; exact absurd hg (by decide)
    · rw [e1, pc_o, o6_add]; exact o6_nn (by omega)
  rw [bt_m1 hs, key E.length 0 fu _ (by omega) hfu2]
  obtain ⟨h, e⟩ : ∃ h, n - t = h + 1 := ⟨n - t - 1, by omega⟩
  rw [e, GG_s hE, show h + 1 - 1 = h by omega]
end PM2
end
section
theorem bs_mem {v : Nat → Int64} {mx : Int32} : ∀ d k x, bs v mx d k x = x ∨ ∃ j, k ≤ j ∧ j < k + d ∧ bs v mx d k x = v j := by
  intro d
  induction d with
  | zero => intro k x; exact Or.inl rfl
  | succ d ih =>
    intro k x
    have e : bs v mx (d + 1) k x = bs v mx d (k + 1) (bt mx (v k) x) := rfl
    have hb : bt mx (v k) x = v k ∨ bt mx (v k) x = x := by
      unfold bt
      split
      · exact Or.inr rfl
      · split
        · exact Or.inl rfl
        · split
          · split
            · exact Or.inr rfl
            · exact Or.inl rfl
          · split
            · exact Or.inr rfl
            · exact Or.inl rfl
    rcases ih (k + 1) (bt mx (v k) x) with h | ⟨j, j1, j2, j3⟩
    · rcases hb with h' | h'
      · exact Or.inr ⟨k, Nat.le_refl _, by omega, by rw [e, h, h']⟩
      · exact Or.inl (by rw [e, h, h'])
    · exact Or.inr ⟨j, by omega, by omega, by rw [e, j3]⟩
/-- the first one of that worth -/
def pf (v : Nat → Int64) (q : Int64) : Nat → Nat → Option Nat
  | 0, _ => none
  | d + 1, k => if v k = q then some k else pf v q d (k + 1)
theorem pf_ex {v : Nat → Int64} {q : Int64} : ∀ d k, (∃ j, k ≤ j ∧ j < k + d ∧ v j = q) → ∃ j, pf v q d k = some j ∧ j < k + d := by
  intro d
  induction d with
  | zero => intro k ⟨j, h1, h2, _⟩; omega
  | succ d ih =>
    intro k ⟨j, h1, h2, h3⟩
    have e : pf v q (d + 1) k = if v k = q then some k else pf v q d (k + 1) := rfl
    rw [e]
    by_cases h : v k = q
    · rw [if_pos h]; exact ⟨k, rfl, by omega⟩
    · rw [if_neg h]
      have : j ≠ k := fun z => h (z ▸ h3)
      obtain ⟨i, i1, i2⟩ := ih (k + 1) ⟨j, by omega, by omega, h3⟩
      exact ⟨i, i1, by omega⟩
section PM3
variable {F : List (Nat × Nat)} {E : List St5} {tg : Nat} {mx : Int32} {n : Nat}
theorem pn_57 {p1 p4 p5 : Int32} (htg : tg < 2147483648) (hn : n ≤ 120) {K : fS → Option (Int64 × fS)} : ∀ d k nn (S : fS), k + d = 10 → d < nn → (∀ j, j < k → S.2 162 (10 * n + j) = if j = tg then 0 else -1) → ∃ T, lp_X11_plan_57 p1 (o3 tg) (o3 n) p4 p5 K nn (o3 k) S = K T ∧ (∀ j, j < 10 → T.2 162 (10 * n + j) = if j = tg then 0 else -1) ∧ e162 S T := by
  intro d
  induction d with
  | zero =>
    intro k nn S hk hnn hj
    obtain ⟨nn, rfl⟩ : ∃ z, nn = z + 1 := ⟨nn - 1, by omega⟩
    rw [lp_X11_plan_57.eq_2, if_pos (show (10 : Int32) ≤ o3 k from (o3_le (a := 10) (by omega) (by omega)).mpr (by omega))]
    exact ⟨S, rfl, fun j h => hj j (by omega), e162.rf⟩
  | succ d ih =>
    intro k nn S hk hnn hj
    obtain ⟨nn, rfl⟩ : ∃ z, nn = z + 1 := ⟨nn - 1, by omega⟩
    have key : ∀ x, x = (if k = tg then (0 : Int64) else -1) → ∃ T, lp_X11_plan_57 p1 (o3 tg) (o3 n) p4 p5 K nn (o3 (k + 1)) (pL S 162 (10 * n + k) x) = K T ∧ (∀ j, j < 10 → T.2 162 (10 * n + j) = if j = tg then 0 else -1) ∧ e162 S T := fun x hx => by
      obtain ⟨T, t1, t2, t3⟩ := ih (k + 1) nn (pL S 162 (10 * n + k) x) (by omega) (by omega) (fun j h => by
        by_cases e : j = k
        · subst e; rw [pL_eq, hx]
        · rw [pL_ne (by omega)]; exact hj j (by omega))
      exact ⟨T, t1, t2, e162_p.tr t3⟩
    rw [lp_X11_plan_57.eq_2, if_neg (show ¬ (10 : Int32) ≤ o3 k from fun q => by have := (o3_le (a := 10) (by omega) (by omega)).mp q; omega), show (10 : Int32) = o3 10 from rfl, o3_mul, o3_add, sL_o (by omega) (by omega), sL_o (by omega) (by omega), bd_some, bd_some, o3_s]
    by_cases e : k = tg
    · rw [if_pos ((o3_inj (by omega) htg).mpr e)]
      exact key 0 (by rw [if_pos e])
    · rw [if_neg (fun q => e ((o3_inj (by omega) htg).mp q))]
      exact key (-1) (by rw [if_neg e])
theorem tbM_s {S : fS} {t : Nat} (hT : tbM F E tg mx n S (t + 1)) (hj : ∀ f, f < F.length → S.2 162 (10 * t + f) = GG F E tg mx (n - t) f) : tbM F E tg mx n S t := fun j f h1 h2 h3 => by
  by_cases e : j = t
  · rw [e]; exact hj f h3
  · exact hT j f (by omega) h2 h3
theorem pn_108 {p1 p5 : Int32} (hF : ∀ q ∈ F, okF q) (hE : ∀ q ∈ E, okS F.length q) (hm : F.length ≤ 10) (hl : E.length ≤ 12) (hn : n ≤ 120) {t : Nat} (ht : t < n) {K : fS → Option (Int64 × fS)} : ∀ d k nn (S : fS), k + d = F.length → d < nn → twM (S.1 157) F E → tbM F E tg mx n S (t + 1) → (∀ f, f < k → S.2 162 (10 * t + f) = GG F E tg mx (n - t) f) → ∃ T, lp_X11_plan_108 p1 (o3 n) mx p5 (o3 t) K nn (o3 k) S = K T ∧ tbM F E tg mx n T t ∧ e162 S T := by
  intro d
  induction d with
  | zero =>
    intro k nn S hk hnn m1 hT hj
    obtain ⟨nn, rfl⟩ : ∃ z, nn = z + 1 := ⟨nn - 1, by omega⟩
    rw [lp_X11_plan_108.eq_2, show gI S 157 158 0 = some (o3 F.length) from (gI_o (k := 0) (by omega) (by omega)).trans (congrArg some m1.1), bd_some, if_pos ((o3_le (by omega) (by omega)).mpr (by omega))]
    exact ⟨S, rfl, tbM_s hT (fun f hf => hj f (by omega)), e162.rf⟩
  | succ d ih =>
    intro k nn S hk hnn m1 hT hj
    obtain ⟨nn, rfl⟩ : ∃ z, nn = z + 1 := ⟨nn - 1, by omega⟩
    rw [lp_X11_plan_108.eq_2, show gI S 157 158 0 = some (o3 F.length) from (gI_o (k := 0) (by omega) (by omega)).trans (congrArg some m1.1), bd_some, if_neg (fun q => by have := (o3_le (by omega) (by omega)).mp q; omega), mg_best m1 hF hE hT hn ht (by omega) hm hl, bd_some, show (10 : Int32) = o3 10 from rfl, o3_mul, o3_add, sL_o (by omega) (by omega), bd_some, o3_s]
    obtain ⟨T, t1, t2, t3⟩ := ih (k + 1) nn (pL S 162 (10 * t + k) (GG F E tg mx (n - t) k)) (by omega) (by omega) m1 (fun j f h1 h2 h3 => by rw [pL_ne (by omega)]; exact hT j f h1 h2 h3) (fun f hf => by
      by_cases e : f = k
      · subst e; rw [pL_eq]
      · rw [pL_ne (by omega)]; exact hj f (by omega))
    exact ⟨T, t1, t2, e162_p.tr t3⟩
theorem pn_100 {p1 p5 : Int32} (hF : ∀ q ∈ F, okF q) (hE : ∀ q ∈ E, okS F.length q) (hm : F.length ≤ 10) (hl : E.length ≤ 12) (hn : n ≤ 120) {K : fS → Option (Int64 × fS)} : ∀ t nn (S : fS), t ≤ n → t < nn → twM (S.1 157) F E → tbM F E tg mx n S t → ∃ T, lp_X11_plan_100 p1 (o3 n) mx p5 K nn (o3 t - 1) S = K T ∧ tbM F E tg mx n T 0 ∧ e162 S T := by
  intro t
  induction t with
  | zero =>
    intro nn S htn hnn m1 hT
    obtain ⟨nn, rfl⟩ : ∃ z, nn = z + 1 := ⟨nn - 1, by omega⟩
    rw [lp_X11_plan_100.eq_2, if_pos (show o3 0 - 1 < (0 : Int32) by decide)]
    exact ⟨S, rfl, hT, e162.rf⟩
  | succ t ih =>
    intro nn S htn hnn m1 hT
    obtain ⟨nn, rfl⟩ : ∃ z, nn = z + 1 := ⟨nn - 1, by omega⟩
    rw [lp_X11_plan_100.eq_2, show o3 (t + 1) - 1 = o3 t from by rw [show (1 : Int32) = o3 1 from rfl, o3_sub (by omega)]; rfl, if_neg (o3_nn (by omega))]
    obtain ⟨T1, a1, a2, a3⟩ := pn_108 (tg := tg) (mx := mx) (p1 := p1) (p5 := p5) hF hE hm hl hn (t := t) (by omega) (K := fun S42 => lp_X11_plan_100 p1 (o3 n) mx p5 K nn (o3 t + (-1 : Int32)) S42) F.length 0 FU S (by omega) (FU_lt (by omega)) m1 hT (fun f hf => absurd hf (Nat.not_lt_zero _))
    obtain ⟨T, t1, t2, t3⟩ := ih nn T1 (by omega) (by omega) (by rw [a3.1]; exact m1) a2
    refine ⟨T, a1.trans ?_, t2, a3.tr t3⟩
    rw [show o3 t + (-1 : Int32) = o3 t - 1 from (Int32.sub_eq_add_neg _ _).symm]
    exact t1
theorem pn_218 {K : Int32 → fS → Option (Int64 × fS)} {S : fS} {f : Nat} {q : Int64} {i : Nat} (hby : ∀ k, k < E.length → f_X11_by (o3 f) 0 (o3 k) (o3 n) S = some (gsv E (GG F E tg mx) n f k)) : ∀ d k nn, k + d ≤ E.length → d < nn → pf (gsv E (GG F E tg mx) n f) q d k = some i → lp_X11_plan_218 (o3 n) (o3 f) q K nn (o3 k) S = K (o3 i) S := by
  intro d
  induction d with
  | zero => intro k nn _ _ h; exact nomatch h
  | succ d ih =>
    intro k nn hk hnn h
    obtain ⟨nn, rfl⟩ : ∃ z, nn = z + 1 := ⟨nn - 1, by omega⟩
    have e : pf (gsv E (GG F E tg mx) n f) q (d + 1) k = if gsv E (GG F E tg mx) n f k = q then some k else pf (gsv E (GG F E tg mx) n f) q d (k + 1) := rfl
    rw [e] at h
    rw [lp_X11_plan_218.eq_2, hby k (by omega), bd_some, o3_s]
    by_cases z : gsv E (GG F E tg mx) n f k = q
    · rw [if_pos z] at h ⊢
      obtain rfl := Option.some.inj h
      rfl
    · rw [if_neg z] at h ⊢
      exact ih (k + 1) nn (by omega) (by omega) h
theorem cf_34 {S : fS} {f : Nat} {q : Int64} {i : Nat} (hE2 : S.1 4 7 = o3 E.length) (hl : E.length ≤ 12) (hby : ∀ k, k < E.length → f_X1_gainByStair 4 (o3 n) (o3 f) (o3 k) S = some (gsv E (GG F E tg mx) n f k)) : ∀ d k nn, k + d ≤ E.length → d < nn → pf (gsv E (GG F E tg mx) n f) q d k = some i → lp_X1_firstStep_34 4 (o3 n) (o3 f) q S (fun _ => some (-2)) nn (o3 k) = some (o3 i) := by
  intro d
  induction d with
  | zero => intro k nn _ _ h; exact nomatch h
  | succ d ih =>
    intro k nn hk hnn h
    obtain ⟨nn, rfl⟩ : ∃ z, nn = z + 1 := ⟨nn - 1, by omega⟩
    have e : pf (gsv E (GG F E tg mx) n f) q (d + 1) k = if gsv E (GG F E tg mx) n f k = q then some k else pf (gsv E (GG F E tg mx) n f) q d (k + 1) := rfl
    rw [e] at h
    rw [lp_X1_firstStep_34.eq_2, hE2, if_neg (fun q => by have := (o3_le (by omega) (by omega)).mp q; omega), hby k (by omega), bd_some, o3_s]
    by_cases z : gsv E (GG F E tg mx) n f k = q
    · rw [if_pos z] at h ⊢
      obtain rfl := Option.some.inj h
      rfl
    · rw [if_neg z] at h ⊢
      exact ih (k + 1) nn (by omega) (by omega) h
end PM3
/-- what measuring leaves alike -/
theorem meas_rel {S S1 S2 : fS} (hR : Rel S) (e1 : e44 S S1) (e2 : e162 S1 S2) : Rel S2 := by
  obtain ⟨n, s, L, M, hT, hS, hL, hM⟩ := hR
  have k1 : ∀ a k, S2.1 a k = S.1 a k := fun a k => by rw [e2.1, e1.1]
  have k2 : ∀ a k, a ≠ 44 → a ≠ 162 → S2.2 a k = S.2 a k := fun a k x y => (e2.2 a k y).trans (e1.2 a k x)
  refine ⟨n, s, L, M, ?_, ?_, ?_, ?_⟩
  · exact rTp_eq hT (k1 _ _) (k1 _ _) (fun k => k1 _ _) (fun k => k1 _ _)
  · exact rSc_eq hS (fun a k _ _ => k1 a k) (fun a k _ _ => k2 a k (by omega) (by omega)) (by rw [k1 3 3]; exact hS.2.1.2.2.2.2) (fun k => k1 _ _) (fun a k _ => k2 a k (by omega) (by omega))
  · exact rRu_eq hL (k1 _ _) (k1 _ _) (fun a k _ _ _ => k1 a k) (fun a k _ => k1 a k)
  · exact rIm_eq hM (fun a k _ _ => k1 a k) (fun a k _ _ => k2 a k (by omega) (by omega)) (fun k => k1 _ _) (fun k => k2 _ k (by omega) (by omega)) (fun k => k1 _ _)
theorem t_16 (a1 a2 a3 a4 a5 : Int32) (S : fS) (hR : Rel S) : ∃ r S1 S2, f_X10_plan a1 a2 a3 a4 a5 S = some (r, S1) ∧ f_X11_plan a1 a2 a3 a4 a5 S1 = some (r, S2) ∧ Rel S2 := by
  have hR0 := hR
  obtain ⟨n', s, L, M, hT, ⟨⟨n1, n2, n3, n4, n5, n6⟩, ⟨b1, b2, b3, b4, b5⟩, ⟨m1, m2, m3, m4⟩, d⟩, hL, hM⟩ := hR
  have h8 := n5.1
  have i1 : f_X10_isFrom a3 0 120 S = some (if ((0 : Nat) : Int) ≤ a3.toInt ∧ a3.toInt ≤ ((120 : Nat) : Int) then 1 else 0) := from_c (a := 0) (b := 120) (by omega) (by omega)
  have i2 : f_X10_isFrom a5 0 2 S = some (if ((0 : Nat) : Int) ≤ a5.toInt ∧ a5.toInt ≤ ((2 : Nat) : Int) then 1 else 0) := from_c (a := 0) (b := 2) (by omega) (by omega)
  have j1 : ∀ T : fS, f_X11_in (Int32.toInt64 a3) 0 120 T = some (if ((0 : Nat) : Int) ≤ a3.toInt ∧ a3.toInt ≤ ((120 : Nat) : Int) then 1 else 0) := fun T => in_c (a := 0) (b := 120) (by omega) (by omega)
  have j2 : ∀ T : fS, f_X11_in (Int32.toInt64 a5) 0 2 T = some (if ((0 : Nat) : Int) ≤ a5.toInt ∧ a5.toInt ≤ ((2 : Nat) : Int) then 1 else 0) := fun T => in_c (a := 0) (b := 2) (by omega) (by omega)
  have no : f_X10_plan a1 a2 a3 a4 a5 S = some (-1, S) → f_X11_plan a1 a2 a3 a4 a5 S = some (-1, S) → ∃ r S1 S2, f_X10_plan a1 a2 a3 a4 a5 S = some (r, S1) ∧ f_X11_plan a1 a2 a3 a4 a5 S1 = some (r, S2) ∧ Rel S2 := fun h g => ⟨-1, S, S, h, g, hR0⟩
  by_cases h1 : ¬ (0 ≤ a1.toInt ∧ a1.toInt < s.2.2.1.1)
  · refine no ?_ ?_
    · unfold f_X10_plan f_X10_isStanding; rw [ci_thing b3.1 (by omega), bd_some, if_neg h1, if_pos rfl, bd_some, if_pos rfl]
    · unfold f_X11_plan; rw [mi_thing m2.1 (by omega), bd_some, if_neg h1, if_pos rfl]
  have h1 := Decidable.not_not.mp h1
  obtain ⟨th, e1, e2⟩ := o3_ex h1.1
  have hth : th < s.2.2.1.1 := by omega
  have cStand : f_X10_isStanding (o3 th) S = some (if s.2.2.1.2.2.1 th < 0 then 0 else 1) := by
    unfold f_X10_isStanding f_X0_isStanding
    rw [ci_thing b3.1 (by omega), bd_some, ← e1, if_pos h1, if_neg (show ¬ (1 : Int32) = 0 by decide), e1, gI_o (by omega) (by omega), bd_some, show S.1 (11 + 1) th = _ from (b3.2.2 th hth).1]
    by_cases z : s.2.2.1.2.2.1 th < 0
    · rw [if_pos z, if_pos z, bd_some, if_pos rfl]
    · rw [if_neg z, if_neg z, bd_some, if_neg (by decide)]
  have mTh : ∀ T : fS, T.1 = S.1 → f_X11_thingOf (o3 th) 0 T = some (s.2.2.1.2.2.1 th) := fun T hTT => (mw_thing (a := 0) (by omega) (by omega)).trans (congrArg some (by rw [hTT]; exact (m2.2.2 th hth).1))
  have mIs : ∀ T : fS, T.1 = S.1 → f_X11_isThing (o3 th) T = some 1 := fun T hTT => by rw [mi_thing (m := s.2.2.1.1) (by rw [hTT]; exact m2.1) (by omega), ← e1, if_pos h1]
  by_cases h0 : s.2.2.1.2.2.1 th < 0
  · refine no ?_ ?_
    · unfold f_X10_plan; rw [e1, cStand, if_pos h0, bd_some, if_pos rfl]
    · unfold f_X11_plan; rw [e1, mIs S rfl, bd_some, if_neg (show ¬ (1 : Int32) = 0 by decide), mTh S rfl, bd_some, if_pos h0]
  obtain ⟨f, f1, f2⟩ := okT_nn (n5.2.2 th hth).1 n1 h0
  by_cases h2 : ¬ (0 ≤ a2.toInt ∧ a2.toInt < s.1.length)
  · refine no ?_ ?_
    · unfold f_X10_plan; rw [e1, cStand, if_neg h0, bd_some, if_neg (show ¬ (1 : Int32) = 0 by decide), ci_floor b1.1 (by omega), bd_some, if_neg h2, if_pos rfl]
    · unfold f_X11_plan; rw [e1, mIs S rfl, bd_some, if_neg (show ¬ (1 : Int32) = 0 by decide), mTh S rfl, bd_some, if_neg h0, mi_floor m1.1 (by omega), bd_some, if_neg h2, if_pos rfl]
  have h2 := Decidable.not_not.mp h2
  by_cases h3 : ¬ (((0 : Nat) : Int) ≤ a3.toInt ∧ a3.toInt ≤ ((120 : Nat) : Int))
  · refine no ?_ ?_
    · unfold f_X10_plan; rw [e1, cStand, if_neg h0, bd_some, if_neg (show ¬ (1 : Int32) = 0 by decide), ci_floor b1.1 (by omega), bd_some, if_pos h2, if_neg (show ¬ (1 : Int32) = 0 by decide), i1, bd_some, if_neg h3, if_pos rfl]
    · unfold f_X11_plan; rw [e1, mIs S rfl, bd_some, if_neg (show ¬ (1 : Int32) = 0 by decide), mTh S rfl, bd_some, if_neg h0, mi_floor m1.1 (by omega), bd_some, if_pos h2, if_neg (show ¬ (1 : Int32) = 0 by decide), j1, bd_some, if_neg h3, if_pos rfl]
  have h3 := Decidable.not_not.mp h3
  by_cases h5 : ¬ (((0 : Nat) : Int) ≤ a5.toInt ∧ a5.toInt ≤ ((2 : Nat) : Int))
  · refine no ?_ ?_
    · unfold f_X10_plan; rw [e1, cStand, if_neg h0, bd_some, if_neg (show ¬ (1 : Int32) = 0 by decide), ci_floor b1.1 (by omega), bd_some, if_pos h2, if_neg (show ¬ (1 : Int32) = 0 by decide), i1, bd_some, if_pos h3, if_neg (show ¬ (1 : Int32) = 0 by decide), i2, bd_some, if_neg h5, if_pos rfl]
    · unfold f_X11_plan; rw [e1, mIs S rfl, bd_some, if_neg (show ¬ (1 : Int32) = 0 by decide), mTh S rfl, bd_some, if_neg h0, mi_floor m1.1 (by omega), bd_some, if_pos h2, if_neg (show ¬ (1 : Int32) = 0 by decide), j1, bd_some, if_pos h3, if_neg (show ¬ (1 : Int32) = 0 by decide), j2, bd_some, if_neg h5, if_pos rfl]
  have h5 := Decidable.not_not.mp h5
  obtain ⟨tg, e3, e4⟩ := o3_ex h2.1
  have htg : tg < s.1.length := by omega
  obtain ⟨n, e5, e6⟩ := o3_ex (x := a3) (by omega)
  have hn : n ≤ 120 := by omega
  obtain ⟨S1, c1, c2, c3⟩ := c_meas (mx := a4) b1 n4 n1 n2 hn htg
  obtain ⟨ag, g1, g2⟩ := age_o n5 hth
  have hnb := GG_nb (tg := tg) (mx := a4) n3 n4 n1 n f hn f1
  have gc : gL S1 16 8 (o3 th) = some (o6 ag) := (gL_o (by omega) (by omega)).trans (congrArg some ((c3.2 16 th (by omega)).trans (((b3.2.2 th hth).2.2.2.2).trans g1)))
  /- the reference's table -/
  have mtab : ∀ K : fS → Option (Int64 × fS), ∃ T, lp_X11_plan_57 (o3 th) (o3 tg) (o3 n) a4 a5 (fun S29 => lp_X11_plan_100 (o3 th) (o3 n) a4 a5 K FU (o3 n - (1 : Int32)) S29) FU (0 : Int32) S1 = K T ∧ tbM s.1 s.2.1 tg a4 n T 0 ∧ e162 S1 T := fun K => by
    obtain ⟨T1, t1, t2, t3⟩ := pn_57 (tg := tg) (n := n) (p1 := o3 th) (p4 := a4) (p5 := a5) (by omega) hn (K := fun S29 => lp_X11_plan_100 (o3 th) (o3 n) a4 a5 K FU (o3 n - (1 : Int32)) S29) 10 0 FU S1 (by omega) (FU_lt (by omega)) (fun j hj => absurd hj (Nat.not_lt_zero _))
    obtain ⟨T, u1, u2, u3⟩ := pn_100 (F := s.1) (E := s.2.1) (tg := tg) (mx := a4) (n := n) (p1 := o3 th) (p5 := a5) n3 n4 n1 n2 hn (K := K) n FU T1 (Nat.le_refl _) (FU_lt (by omega)) (by rw [t3.1, c3.1]; exact m1) (fun j g h1 h2 h3 => by
      have : j = n := by omega
      subst this
      rw [t2 g (by omega), Nat.sub_self, GG_0])
    exact ⟨T, t1.trans u1, u2, t3.tr u3⟩
  have mPre : ∀ K' : fS → Option (Int64 × fS), K' = (fun S44 => (f_X11_thingOf (o3 th) (0 : Int32) S44).bind fun q46 =>
  (gL S44 162 1210 q46).bind fun a49 =>
  if (0 : Int64) ≤ a49 then (if (2 : Int32) ≤ a5 then (if o3 n = (0 : Int32) then (some ((-4 : Int64), S44)) else
  (lp_X11_plan_218 (o3 n) q46 a49 (fun u59 S60 => if (0 : Int32) ≤ u59 then (some ((Int32.toInt64 u59), S60)) else
  (some ((-3 : Int64), S60))) FU (-1 : Int32) S44)) else
  ((gL S44 158 8 (o3 th)).bind fun a63 =>
  (f_X11_lowest (a63 + a49) (232792560 : Int64) a5 S44).bind fun q66 =>
  some (q66, S44))) else
  (some ((-2 : Int64), S44))) → f_X11_plan a1 a2 a3 a4 a5 S1 = lp_X11_plan_57 (o3 th) (o3 tg) (o3 n) a4 a5 (fun S29 => lp_X11_plan_100 (o3 th) (o3 n) a4 a5 K' FU (o3 n - (1 : Int32)) S29) FU (0 : Int32) S1 := fun K' hK => by
    subst hK
    unfold f_X11_plan
    rw [e1, mIs S1 c3.1, bd_some, if_neg (show ¬ (1 : Int32) = 0 by decide), mTh S1 c3.1, bd_some, if_neg h0, mi_floor (m := s.1.length) (by rw [c3.1]; exact m1.1) (by omega), bd_some, if_pos h2, if_neg (show ¬ (1 : Int32) = 0 by decide), j1, bd_some, if_pos h3, if_neg (show ¬ (1 : Int32) = 0 by decide), j2, bd_some, if_pos h5, if_neg (show ¬ (1 : Int32) = 0 by decide), e3, e5]
  obtain ⟨S2, t1, t2, t3⟩ := mtab _
  have mFin := (mPre _ rfl).trans t1
  clear mPre mtab
  have e157 : S2.1 = S.1 := t3.1.trans c3.1
  have g162 : gL S2 162 1210 (o3 f) = some (GG s.1 s.2.1 tg a4 n f) := by
    have := t2 0 f (by omega) (by omega) f1
    rw [show 10 * 0 + f = f by omega, Nat.sub_zero] at this
    exact (gL_o (by omega) (by omega)).trans (congrArg some this)
  have gm : gL S2 158 8 (o3 th) = some (o6 ag) := (gL_o (by omega) (by omega)).trans (congrArg some ((t3.2 158 th (by omega)).trans ((c3.2 158 th (by omega)).trans (((m2.2.2 th hth).2.2.2.2).trans g1))))
  rw [mTh S2 e157, bd_some, f2, g162, bd_some] at mFin
  have hrel := meas_rel hR0 c3 t3
  have cFin : f_X10_plan a1 a2 a3 a4 a5 S = (if (0 : Int64) ≤ GG s.1 s.2.1 tg a4 n f then (if a5 = (2 : Int32) then ((f_X1_firstStep 4 (o3 n) (o3 f) S1).bind fun q34 => some ((Int32.toInt64 q34), S1)) else ((gL S1 16 8 (o3 th)).bind fun a28 => (f_X10_lowest (a28 + GG s.1 s.2.1 tg a4 n f) (232792560 : Int64) a5 S1).bind fun q31 => some (q31, S1))) else (some ((-2 : Int64), S1))) := by
    unfold f_X10_plan
    rw [e1, cStand, if_neg h0, bd_some, if_neg (show ¬ (1 : Int32) = 0 by decide), ci_floor b1.1 (by omega), bd_some, if_pos h2, if_neg (show ¬ (1 : Int32) = 0 by decide), i1, bd_some, if_pos h3, if_neg (show ¬ (1 : Int32) = 0 by decide), i2, bd_some, if_pos h5, if_neg (show ¬ (1 : Int32) = 0 by decide), gI_o (by omega) (by omega), bd_some, show S.1 12 th = s.2.2.1.2.2.1 th from (b3.2.2 th hth).1, f2, e3, e5, c1, bd_some, cg_of c2 (Nat.le_refl _) hn f1 n1, bd_some]
  rw [cFin]
  rcases hnb with e | ⟨g, q1, q2⟩
  · rw [e] at mFin ⊢
    rw [if_neg (show ¬ (0 : Int64) ≤ -1 by decide)] at mFin ⊢
    exact ⟨-2, S1, S2, rfl, mFin, hrel⟩
  · have hpos : (0 : Int64) ≤ GG s.1 s.2.1 tg a4 n f := by rw [q1]; exact o6_0le (by omega)
    rw [if_pos hpos] at mFin ⊢
    by_cases z2 : a5 = 2
    · rw [if_pos (show (2 : Int32) ≤ a5 by rw [z2]; decide)] at mFin
      rw [if_pos z2]
      unfold f_X1_firstStep
      by_cases zn : n = 0
      · rw [if_pos (show o3 n = (0 : Int32) by rw [zn]; rfl)] at mFin ⊢
        exact ⟨_, S1, S2, rfl, mFin, hrel⟩
      · have zn' : ¬ o3 n = (0 : Int32) := fun q => zn ((o3_inj (b := 0) (by omega) (by omega)).mp q)
        rw [if_neg zn'] at mFin ⊢
        obtain ⟨h, hh⟩ : ∃ h, n = h + 1 := ⟨n - 1, by omega⟩
        have b1' : twC S1 4 s.1 s.2.1 := twC_44 b1 c3
        have c2' : tbC s.1 s.2.1 tg a4 S1 h := fun j g h1 h2 => c2 j g (by omega) h2
        have hT' : tbM s.1 s.2.1 tg a4 n S2 (0 + 1) := fun j g h1 h2 h3 => t2 j g (by omega) h2 h3
        have m1' : twM (S2.1 157) s.1 s.2.1 := by rw [e157]; exact m1
        obtain ⟨fu, hfu⟩ : ∃ z, FU = z + 1 := ⟨FU - 1, by have := FU_lt (d := 1) (by omega); omega⟩
        have hfu2 : s.2.1.length < fu := by have := FU_lt (d := s.2.1.length + 1) (by omega); omega
        have hst : stv (GG s.1 s.2.1 tg a4 (n - 0 - 1) f) (pc (s.1.getD f (0, 0))) = stv (GG s.1 s.2.1 tg a4 h f) (pc (s.1.getD f (0, 0))) := by rw [show n - 0 - 1 = h by omega]
        have mby : f_X11_by (o3 f) 0 (-1) (o3 n) S2 = some (stv (GG s.1 s.2.1 tg a4 h f) (pc (s.1.getD f (0, 0)))) := (mg_stay (t := 0) m1' n3 hT' hn (by omega) f1 n1).trans (congrArg some hst)
        rw [hfu, lp_X11_plan_218.eq_2, mby, bd_some] at mFin
        rw [cg_of c2 (Nat.le_refl _) hn f1 n1, bd_some]
        have hcs : f_X1_gainByStaying 4 (o3 n) (o3 f) S1 = some (stv (GG s.1 s.2.1 tg a4 h f) (pc (s.1.getD f (0, 0)))) := by rw [hh]; exact cg_stay b1' c2' (by omega) f1 n1
        rw [hcs, bd_some]
        by_cases zs : stv (GG s.1 s.2.1 tg a4 h f) (pc (s.1.getD f (0, 0))) = GG s.1 s.2.1 tg a4 n f
        · rw [if_pos zs] at mFin ⊢
          rw [if_neg (show ¬ (0 : Int32) ≤ -1 by decide)] at mFin
          exact ⟨_, S1, S2, rfl, mFin, hrel⟩
        · rw [if_neg zs] at mFin ⊢
          rw [show (-1 : Int32) + 1 = o3 0 from rfl] at mFin
          have hmem : ∃ j, 0 ≤ j ∧ j < 0 + s.2.1.length ∧ gsv s.2.1 (GG s.1 s.2.1 tg a4) n f j = GG s.1 s.2.1 tg a4 n f := by
            have hg : GG s.1 s.2.1 tg a4 n f = bs (gsv s.2.1 (GG s.1 s.2.1 tg a4) n f) a4 s.2.1.length 0 (stv (GG s.1 s.2.1 tg a4 h f) (pc (s.1.getD f (0, 0)))) := by rw [hh]; exact GG_s n4
            rcases bs_mem (v := gsv s.2.1 (GG s.1 s.2.1 tg a4) n f) (mx := a4) s.2.1.length 0 (stv (GG s.1 s.2.1 tg a4 h f) (pc (s.1.getD f (0, 0)))) with w | ⟨j, w1, w2, w3⟩
            · exact absurd (w.symm.trans hg.symm) zs
            · exact ⟨j, w1, w2, by rw [hg]; exact w3.symm⟩
          obtain ⟨i, p1, p2⟩ := pf_ex s.2.1.length 0 hmem
          have hc34 : lp_X1_firstStep_34 4 (o3 n) (o3 f) (GG s.1 s.2.1 tg a4 n f) S1 (fun _ => some (-2)) FU (0 : Int32) = some (o3 i) := cf_34 (F := s.1) (E := s.2.1) (tg := tg) (mx := a4) b1'.2.1 n2 (fun k hk => by rw [hh]; exact cg_stair b1' n4 c2' (by omega) f1 n1 n2 hk) s.2.1.length 0 FU (by omega) (FU_lt (by omega)) p1
          rw [hc34, bd_some]
          rw [pn_218 (F := s.1) (E := s.2.1) (tg := tg) (mx := a4) (n := n) (S := S2) (f := f) (q := GG s.1 s.2.1 tg a4 n f) (i := i) (fun k hk => (mg_stair (t := 0) m1' n4 hT' hn (by omega) f1 n1 n2 hk).trans (by rw [Nat.sub_zero])) s.2.1.length 0 fu (by omega) hfu2 p1, if_pos (o3_0le (by omega))] at mFin
          exact ⟨_, S1, S2, rfl, mFin, hrel⟩
    · have z2' : ¬ (2 : Int32) ≤ a5 := fun q => z2 (ni_eq.mpr (by have q := ni_le.mp q; rw [show (2 : Int32).toInt = 2 from rfl] at q ⊢; omega))
      rw [if_neg z2', gm, bd_some, q1, o6_add, show (232792560 : Int64) = o6 232792560 from rfl, m_low (by omega) (by omega) (by omega), bd_some] at mFin
      rw [if_neg z2, gc, bd_some, q1, o6_add, show (232792560 : Int64) = o6 232792560 from rfl, c_low (by omega) (by omega) (by omega), bd_some]
      exact ⟨_, S1, S2, rfl, mFin, hrel⟩
end
section
/-! waiting() -/
/-- is the new one taken? -/
def tk1 (mx : Int32) (x y : Int64) : Bool := decide (¬ x < 0 ∧ (y < 0 ∨ (mx = 0 ∧ ¬ y ≤ x) ∨ (¬ mx = 0 ∧ ¬ x ≤ y)))
theorem c_tk {mx : Int32} {x y : Int64} {S : fS} : f_X1_isBetter x y mx S = some (if tk1 mx x y = true then 1 else 0) := by
  unfold f_X1_isBetter tk1
  by_cases h1 : x < 0
  · rw [if_pos h1, if_pos h1, if_neg (by rw [decide_eq_true_eq]; exact fun q => q.1 h1)]
  · rw [if_neg h1]
    by_cases h2 : y < 0
    · rw [if_neg (show ¬ (0 : Int64) ≤ y by rw [nl_lt] at h2; rw [nl_le]; omega), if_neg h1, if_pos (by rw [decide_eq_true_eq]; exact ⟨h1, Or.inl h2⟩)]
    · rw [if_pos (show (0 : Int64) ≤ y by rw [nl_lt] at h2; rw [nl_le]; omega)]
      by_cases h3 : mx = 0
      · rw [if_pos h3]
        by_cases h4 : y ≤ x
        · rw [if_pos h4, if_neg (by rw [decide_eq_true_eq]; rintro ⟨_, q | q | q⟩; exact h2 q; exact q.2 h4; exact q.1 h3)]
        · rw [if_neg h4, if_pos (by rw [decide_eq_true_eq]; exact ⟨h1, Or.inr (Or.inl ⟨h3, h4⟩)⟩)]
      · rw [if_neg h3]
        by_cases h4 : x ≤ y
        · rw [if_pos h4, if_neg (by rw [decide_eq_true_eq]; rintro ⟨_, q | q | q⟩; exact h2 q; exact h3 q.1; exact q.2 h4)]
        · rw [if_neg h4, if_pos (by rw [decide_eq_true_eq]; exact ⟨h1, Or.inr (Or.inr ⟨h3, h4⟩)⟩)]
theorem m_tk {mx : Int32} {x y : Int64} {S : fS} {β : Type} {A B : Option β} : (if x < (0 : Int64) then A else ((f_X11_isBetter x y mx S).bind fun q49 => if q49 = (0 : Int32) then A else B)) = if tk1 mx x y = true then B else A := by
  unfold f_X11_isBetter tk1
  by_cases h1 : x < 0
  · rw [if_pos h1, if_neg (by rw [decide_eq_true_eq]; exact fun q => q.1 h1)]
  · rw [if_neg h1]
    by_cases h2 : y < 0
    · rw [if_pos h2, bd_some, if_neg (by decide), if_pos (by rw [decide_eq_true_eq]; exact ⟨h1, Or.inl h2⟩)]
    · rw [if_neg h2]
      by_cases h3 : mx = 0
      · rw [if_pos h3]
        by_cases h4 : y ≤ x
        · rw [if_pos h4, bd_some, if_pos rfl, if_neg (by rw [decide_eq_true_eq]; rintro ⟨_, q | q | q⟩; exact h2 q; exact q.2 h4; exact q.1 h3)]
        · rw [if_neg h4, bd_some, if_neg (by decide), if_pos (by rw [decide_eq_true_eq]; exact ⟨h1, Or.inr (Or.inl ⟨h3, h4⟩)⟩)]
      · rw [if_neg h3]
        by_cases h4 : x ≤ y
        · rw [if_pos h4, bd_some, if_pos rfl, if_neg (by rw [decide_eq_true_eq]; rintro ⟨_, q | q | q⟩; exact h2 q; exact h3 q.1; exact q.2 h4)]
        · rw [if_neg h4, bd_some, if_neg (by decide), if_pos (by rw [decide_eq_true_eq]; exact ⟨h1, Or.inr (Or.inr ⟨h3, h4⟩)⟩)]
/-- the class's choice: from floor k on, i held -/
def bc (v : Nat → Int64) (mx : Int32) : Nat → Nat → Nat → Nat
  | 0, _, i => i
  | d + 1, k, i => bc v mx d (k + 1) (if tk1 mx (v k) (v i) = true then k else i)
/-- the reference's choice: floor held (or -1) and its worth -/
def bm (v : Nat → Int64) (mx : Int32) : Nat → Nat → Int32 → Int64 → Int32
  | 0, _, i, _ => i
  | d + 1, k, i, y => if tk1 mx (v k) y = true then bm v mx d (k + 1) (o3 k) (v k) else bm v mx d (k + 1) i y
theorem bm_bc {v : Nat → Int64} {mx : Int32} : ∀ d k i, bm v mx d k (o3 i) (v i) = o3 (bc v mx d k i) := by
  intro d
  induction d with
  | zero => intro k i; rfl
  | succ d ih =>
    intro k i
    show (if tk1 mx (v k) (v i) = true then bm v mx d (k + 1) (o3 k) (v k) else bm v mx d (k + 1) (o3 i) (v i)) = o3 (bc v mx d (k + 1) (if tk1 mx (v k) (v i) = true then k else i))
    by_cases h : tk1 mx (v k) (v i) = true
    · rw [if_pos h, if_pos h]; exact ih (k + 1) k
    · rw [if_neg h, if_neg h]; exact ih (k + 1) i
theorem tk_m1 {mx : Int32} {x y z : Int64} (hy : y < 0) (hz : z < 0) : tk1 mx x y = tk1 mx x z := by
  unfold tk1
  by_cases h1 : x < 0
  · rw [decide_eq_false (fun q => q.1 h1), decide_eq_false (fun q => q.1 h1)]
  · rw [decide_eq_true (show ¬ x < 0 ∧ _ from ⟨h1, Or.inl hy⟩), decide_eq_true (show ¬ x < 0 ∧ _ from ⟨h1, Or.inl hz⟩)]
/-- where some floor can be come to, both choose alike -/
theorem bm_eq {v : Nat → Int64} {mx : Int32} : ∀ d k, (∃ j, k ≤ j ∧ j < k + d ∧ ¬ v j < 0) → ∀ i, v i < 0 → bm v mx d k (-1) (-1) = o3 (bc v mx d k i) := by
  intro d
  induction d with
  | zero => intro k ⟨j, h1, h2, _⟩; omega
  | succ d ih =>
    intro k ⟨j, h1, h2, h3⟩ i hi
    show (if tk1 mx (v k) (-1) = true then bm v mx d (k + 1) (o3 k) (v k) else bm v mx d (k + 1) (-1) (-1)) = o3 (bc v mx d (k + 1) (if tk1 mx (v k) (v i) = true then k else i))
    rw [tk_m1 (y := -1) (z := v i) (by decide) hi]
    by_cases h : tk1 mx (v k) (v i) = true
    · rw [if_pos h, if_pos h]; exact bm_bc d (k + 1) k
    · rw [if_neg h, if_neg h]
      have hk : v k < 0 := by
        refine Decidable.byContradiction fun q => h ?_
        unfold tk1
        rw [decide_eq_true_eq]
        exact ⟨q, Or.inl hi⟩
      have : j ≠ k := fun z => h3 (z ▸ hk)
      exact ih (k + 1) ⟨j, by omega, by omega, h3⟩ i hi
section WT
variable {F : List (Nat × Nat)} {E : List St5} {tg : Nat} {mx : Int32} {n : Nat}
theorem c_bf {S : fS} (b1 : twC S 4 F E) (hT : tbC F E tg mx S n) (hn : n ≤ 120) (hm : F.length ≤ 10) (h1 : 0 < F.length) : f_X1_bestFloor 4 (o3 n) mx S = some (o3 (bc (fun f => GG F E tg mx n f) mx (F.length - 1) 1 0)) := by
  have key : ∀ d k nn i, k + d = F.length → d < nn → i < F.length → lp_X1_bestFloor_6 4 (o3 n) mx S (fun u12 => some u12) nn (o3 i) (o3 k) = some (o3 (bc (fun f => GG F E tg mx n f) mx d k i)) := by
    intro d
    induction d with
    | zero =>
      intro k nn i hk hnn hi
      obtain ⟨nn, rfl⟩ : ∃ z, nn = z + 1 := ⟨nn - 1, by omega⟩
      rw [lp_X1_bestFloor_6.eq_2, b1.1, if_pos ((o3_le (by omega) (by omega)).mpr (by omega))]
      rfl
    | succ d ih =>
      intro k nn i hk hnn hi
      obtain ⟨nn, rfl⟩ : ∃ z, nn = z + 1 := ⟨nn - 1, by omega⟩
      have he : bc (fun f => GG F E tg mx n f) mx (d + 1) k i = bc (fun f => GG F E tg mx n f) mx d (k + 1) (if tk1 mx (GG F E tg mx n k) (GG F E tg mx n i) = true then k else i) := rfl
      rw [lp_X1_bestFloor_6.eq_2, b1.1, if_neg (fun q => by have := (o3_le (by omega) (by omega)).mp q; omega), cg_of hT (Nat.le_refl _) hn (by omega) hm, bd_some, cg_of hT (Nat.le_refl _) hn hi hm, bd_some, c_tk, bd_some, o3_s, he]
      by_cases h : tk1 mx (GG F E tg mx n k) (GG F E tg mx n i) = true
      · rw [if_pos h, if_pos h, if_neg (by decide)]
        exact ih (k + 1) nn k (by omega) (by omega) (by omega)
      · rw [if_neg h, if_neg h, if_pos rfl]
        exact ih (k + 1) nn i (by omega) (by omega) hi
  exact key (F.length - 1) 1 FU 0 (by omega) (FU_lt (by omega)) h1
theorem wn_56 {p1 p3 p4 : Int32} {p5 : Int64} (htg : tg < 2147483648) (hn : n ≤ 120) {K : fS → Option (Int32 × fS)} : ∀ d k nn (S : fS), k + d = 10 → d < nn → (∀ j, j < k → S.2 162 (10 * n + j) = if j = tg then 0 else -1) → ∃ T, lp_X11_waiting_56 p1 (o3 n) p3 p4 p5 (o3 tg) K nn (o3 k) S = K T ∧ (∀ j, j < 10 → T.2 162 (10 * n + j) = if j = tg then 0 else -1) ∧ e162 S T := by
  intro d
  induction d with
  | zero =>
    intro k nn S hk hnn hj
    obtain ⟨nn, rfl⟩ : ∃ z, nn = z + 1 := ⟨nn - 1, by omega⟩
    rw [lp_X11_waiting_56.eq_2, if_pos (show (10 : Int32) ≤ o3 k from (o3_le (a := 10) (by omega) (by omega)).mpr (by omega))]
    exact ⟨S, rfl, fun j h => hj j (by omega), e162.rf⟩
  | succ d ih =>
    intro k nn S hk hnn hj
    obtain ⟨nn, rfl⟩ : ∃ z, nn = z + 1 := ⟨nn - 1, by omega⟩
    have key : ∀ x, x = (if k = tg then (0 : Int64) else -1) → ∃ T, lp_X11_waiting_56 p1 (o3 n) p3 p4 p5 (o3 tg) K nn (o3 (k + 1)) (pL S 162 (10 * n + k) x) = K T ∧ (∀ j, j < 10 → T.2 162 (10 * n + j) = if j = tg then 0 else -1) ∧ e162 S T := fun x hx => by
      obtain ⟨T, t1, t2, t3⟩ := ih (k + 1) nn (pL S 162 (10 * n + k) x) (by omega) (by omega) (fun j h => by
        by_cases e : j = k
        · subst e; rw [pL_eq, hx]
        · rw [pL_ne (by omega)]; exact hj j (by omega))
      exact ⟨T, t1, t2, e162_p.tr t3⟩
    rw [lp_X11_waiting_56.eq_2, if_neg (show ¬ (10 : Int32) ≤ o3 k from fun q => by have := (o3_le (a := 10) (by omega) (by omega)).mp q; omega), show (10 : Int32) = o3 10 from rfl, o3_mul, o3_add, sL_o (by omega) (by omega), sL_o (by omega) (by omega), bd_some, bd_some, o3_s]
    by_cases e : k = tg
    · rw [if_pos ((o3_inj (by omega) htg).mpr e)]
      exact key 0 (by rw [if_pos e])
    · rw [if_neg (fun q => e ((o3_inj (by omega) htg).mp q))]
      exact key (-1) (by rw [if_neg e])
theorem wn_108 {p1 p4 p7 : Int32} {p5 : Int64} (hF : ∀ q ∈ F, okF q) (hE : ∀ q ∈ E, okS F.length q) (hm : F.length ≤ 10) (hl : E.length ≤ 12) (hn : n ≤ 120) {t : Nat} (ht : t < n) {K : fS → Option (Int32 × fS)} : ∀ d k nn (S : fS), k + d = F.length → d < nn → twM (S.1 157) F E → tbM F E tg mx n S (t + 1) → (∀ f, f < k → S.2 162 (10 * t + f) = GG F E tg mx (n - t) f) → ∃ T, lp_X11_waiting_108 p1 (o3 n) mx p4 p5 p7 (o3 t) K nn (o3 k) S = K T ∧ tbM F E tg mx n T t ∧ e162 S T := by
  intro d
  induction d with
  | zero =>
    intro k nn S hk hnn m1 hT hj
    obtain ⟨nn, rfl⟩ : ∃ z, nn = z + 1 := ⟨nn - 1, by omega⟩
    rw [lp_X11_waiting_108.eq_2, show gI S 157 158 0 = some (o3 F.length) from (gI_o (k := 0) (by omega) (by omega)).trans (congrArg some m1.1), bd_some, if_pos ((o3_le (by omega) (by omega)).mpr (by omega))]
    exact ⟨S, rfl, tbM_s hT (fun f hf => hj f (by omega)), e162.rf⟩
  | succ d ih =>
    intro k nn S hk hnn m1 hT hj
    obtain ⟨nn, rfl⟩ : ∃ z, nn = z + 1 := ⟨nn - 1, by omega⟩
    rw [lp_X11_waiting_108.eq_2, show gI S 157 158 0 = some (o3 F.length) from (gI_o (k := 0) (by omega) (by omega)).trans (congrArg some m1.1), bd_some, if_neg (fun q => by have := (o3_le (by omega) (by omega)).mp q; omega), mg_best m1 hF hE hT hn ht (by omega) hm hl, bd_some, show (10 : Int32) = o3 10 from rfl, o3_mul, o3_add, sL_o (by omega) (by omega), bd_some, o3_s]
    obtain ⟨T, t1, t2, t3⟩ := ih (k + 1) nn (pL S 162 (10 * t + k) (GG F E tg mx (n - t) k)) (by omega) (by omega) m1 (fun j f h1 h2 h3 => by rw [pL_ne (by omega)]; exact hT j f h1 h2 h3) (fun f hf => by
      by_cases e : f = k
      · subst e; rw [pL_eq]
      · rw [pL_ne (by omega)]; exact hj f (by omega))
    exact ⟨T, t1, t2, e162_p.tr t3⟩
theorem wn_100 {p1 p4 p7 : Int32} {p5 : Int64} (hF : ∀ q ∈ F, okF q) (hE : ∀ q ∈ E, okS F.length q) (hm : F.length ≤ 10) (hl : E.length ≤ 12) (hn : n ≤ 120) {K : fS → Option (Int32 × fS)} : ∀ t nn (S : fS), t ≤ n → t < nn → twM (S.1 157) F E → tbM F E tg mx n S t → ∃ T, lp_X11_waiting_100 p1 (o3 n) mx p4 p5 p7 K nn (o3 t - 1) S = K T ∧ tbM F E tg mx n T 0 ∧ e162 S T := by
  intro t
  induction t with
  | zero =>
    intro nn S htn hnn m1 hT
    obtain ⟨nn, rfl⟩ : ∃ z, nn = z + 1 := ⟨nn - 1, by omega⟩
    rw [lp_X11_waiting_100.eq_2, if_pos (show o3 0 - 1 < (0 : Int32) by decide)]
    exact ⟨S, rfl, hT, e162.rf⟩
  | succ t ih =>
    intro nn S htn hnn m1 hT
    obtain ⟨nn, rfl⟩ : ∃ z, nn = z + 1 := ⟨nn - 1, by omega⟩
    rw [lp_X11_waiting_100.eq_2, show o3 (t + 1) - 1 = o3 t from by rw [show (1 : Int32) = o3 1 from rfl, o3_sub (by omega)]; rfl, if_neg (o3_nn (by omega))]
    obtain ⟨T1, a1, a2, a3⟩ := wn_108 (tg := tg) (mx := mx) (p1 := p1) (p4 := p4) (p5 := p5) (p7 := p7) hF hE hm hl hn (t := t) (by omega) (K := fun S38 => lp_X11_waiting_100 p1 (o3 n) mx p4 p5 p7 K nn (o3 t + (-1 : Int32)) S38) F.length 0 FU S (by omega) (FU_lt (by omega)) m1 hT (fun f hf => absurd hf (Nat.not_lt_zero _))
    obtain ⟨T, t1, t2, t3⟩ := ih nn T1 (by omega) (by omega) (by rw [a3.1]; exact m1) a2
    refine ⟨T, a1.trans ?_, t2, a3.tr t3⟩
    rw [show o3 t + (-1 : Int32) = o3 t - 1 from (Int32.sub_eq_add_neg _ _).symm]
    exact t1
theorem wn_42 {th f0 : Nat} (hth : th < 8) (hF : ∀ q ∈ F, okF q) (hE : ∀ q ∈ E, okS F.length q) (hm : F.length ≤ 10) (hl : E.length ≤ 12) (hn : n ≤ 120) (hf0 : f0 < F.length) : ∀ d k nn (S : fS) (i : Int32) (y : Int64), k + d = F.length → d < nn → twM (S.1 157) F E → S.1 157 (90 + 4 * th) = o3 f0 → ∃ T, lp_X11_waiting_42 (o3 th) (o3 n) mx (fun u53 S54 => some (u53, S54)) nn i y (o3 k) S = some (bm (fun p => GG F E p mx n f0) mx d k i y, T) ∧ e162 S T := by
  intro d
  induction d with
  | zero =>
    intro k nn S i y hk hnn m1 hp
    obtain ⟨nn, rfl⟩ : ∃ z, nn = z + 1 := ⟨nn - 1, by omega⟩
    rw [lp_X11_waiting_42.eq_2, show gI S 157 158 0 = some (o3 F.length) from (gI_o (k := 0) (by omega) (by omega)).trans (congrArg some m1.1), bd_some, if_pos ((o3_le (by omega) (by omega)).mpr (by omega))]
    exact ⟨S, rfl, e162.rf⟩
  | succ d ih =>
    intro k nn S i y hk hnn m1 hp
    obtain ⟨nn, rfl⟩ : ∃ z, nn = z + 1 := ⟨nn - 1, by omega⟩
    rw [lp_X11_waiting_42.eq_2, show gI S 157 158 0 = some (o3 F.length) from (gI_o (k := 0) (by omega) (by omega)).trans (congrArg some m1.1), bd_some, if_neg (fun q => by have := (o3_le (by omega) (by omega)).mp q; omega), o3_s]
    obtain ⟨T1, t1, t2, t3⟩ := wn_56 (tg := k) (n := n) (p1 := o3 th) (p3 := mx) (p4 := i) (p5 := y) (by omega) hn (K := fun S25 => lp_X11_waiting_100 (o3 th) (o3 n) mx i y (o3 k) (fun S40 => (f_X11_thingOf (o3 th) (0 : Int32) S40).bind fun q42 => (gL S40 162 1210 q42).bind fun a45 => if a45 < (0 : Int64) then (lp_X11_waiting_42 (o3 th) (o3 n) mx (fun u53 S54 => some (u53, S54)) nn i y (o3 (k + 1)) S40) else ((f_X11_isBetter a45 y mx S40).bind fun q49 => if q49 = (0 : Int32) then (lp_X11_waiting_42 (o3 th) (o3 n) mx (fun u53 S54 => some (u53, S54)) nn i y (o3 (k + 1)) S40) else (lp_X11_waiting_42 (o3 th) (o3 n) mx (fun u53 S54 => some (u53, S54)) nn (o3 k) a45 (o3 (k + 1)) S40))) FU (o3 n - (1 : Int32)) S25) 10 0 FU S (by omega) (FU_lt (by omega)) (fun j hj => absurd hj (Nat.not_lt_zero _))
    obtain ⟨T2, u1, u2, u3⟩ := wn_100 (F := F) (E := E) (tg := k) (mx := mx) (n := n) (p1 := o3 th) (p4 := i) (p5 := y) (p7 := o3 k) hF hE hm hl hn (K := fun S40 => (f_X11_thingOf (o3 th) (0 : Int32) S40).bind fun q42 => (gL S40 162 1210 q42).bind fun a45 => if a45 < (0 : Int64) then (lp_X11_waiting_42 (o3 th) (o3 n) mx (fun u53 S54 => some (u53, S54)) nn i y (o3 (k + 1)) S40) else ((f_X11_isBetter a45 y mx S40).bind fun q49 => if q49 = (0 : Int32) then (lp_X11_waiting_42 (o3 th) (o3 n) mx (fun u53 S54 => some (u53, S54)) nn i y (o3 (k + 1)) S40) else (lp_X11_waiting_42 (o3 th) (o3 n) mx (fun u53 S54 => some (u53, S54)) nn (o3 k) a45 (o3 (k + 1)) S40))) n FU T1 (Nat.le_refl _) (FU_lt (by omega)) (by rw [t3.1]; exact m1) (fun j g h1 h2 h3 => by
      have : j = n := by omega
      subst this
      rw [t2 g (by omega), Nat.sub_self, GG_0])
    have e12 := t3.tr u3
    have m1' : twM (T2.1 157) F E := by rw [e12.1]; exact m1
    have hp' : T2.1 157 (90 + 4 * th) = o3 f0 := by rw [e12.1]; exact hp
    have g162 : gL T2 162 1210 (o3 f0) = some (GG F E k mx n f0) := by
      have := u2 0 f0 (by omega) (by omega) hf0
      rw [show 10 * 0 + f0 = f0 by omega, Nat.sub_zero] at this
      exact (gL_o (by omega) (by omega)).trans (congrArg some this)
    have hb : bm (fun p => GG F E p mx n f0) mx (d + 1) k i y = if tk1 mx (GG F E k mx n f0) y = true then bm (fun p => GG F E p mx n f0) mx d (k + 1) (o3 k) (GG F E k mx n f0) else bm (fun p => GG F E p mx n f0) mx d (k + 1) i y := rfl
    have step : lp_X11_waiting_56 (o3 th) (o3 n) mx i y (o3 k) (fun S25 => lp_X11_waiting_100 (o3 th) (o3 n) mx i y (o3 k) (fun S40 => (f_X11_thingOf (o3 th) (0 : Int32) S40).bind fun q42 => (gL S40 162 1210 q42).bind fun a45 => if a45 < (0 : Int64) then (lp_X11_waiting_42 (o3 th) (o3 n) mx (fun u53 S54 => some (u53, S54)) nn i y (o3 (k + 1)) S40) else ((f_X11_isBetter a45 y mx S40).bind fun q49 => if q49 = (0 : Int32) then (lp_X11_waiting_42 (o3 th) (o3 n) mx (fun u53 S54 => some (u53, S54)) nn i y (o3 (k + 1)) S40) else (lp_X11_waiting_42 (o3 th) (o3 n) mx (fun u53 S54 => some (u53, S54)) nn (o3 k) a45 (o3 (k + 1)) S40))) FU (o3 n - (1 : Int32)) S25) FU (0 : Int32) S = if tk1 mx (GG F E k mx n f0) y = true then lp_X11_waiting_42 (o3 th) (o3 n) mx (fun u53 S54 => some (u53, S54)) nn (o3 k) (GG F E k mx n f0) (o3 (k + 1)) T2 else lp_X11_waiting_42 (o3 th) (o3 n) mx (fun u53 S54 => some (u53, S54)) nn i y (o3 (k + 1)) T2 := by
      refine (t1.trans u1).trans ?_
      rw [show f_X11_thingOf (o3 th) 0 T2 = some (o3 f0) from (mw_thing (a := 0) hth (by omega)).trans (congrArg some hp'), bd_some, g162, bd_some, m_tk]
    rw [step, hb]
    by_cases h : tk1 mx (GG F E k mx n f0) y = true
    · rw [if_pos h, if_pos h]
      obtain ⟨T, w1, w2⟩ := ih (k + 1) nn T2 (o3 k) (GG F E k mx n f0) (by omega) (by omega) m1' hp'
      exact ⟨T, w1, e12.tr w2⟩
    · rw [if_neg h, if_neg h]
      obtain ⟨T, w1, w2⟩ := ih (k + 1) nn T2 i y (by omega) (by omega) m1' hp'
      exact ⟨T, w1, e12.tr w2⟩
end WT
end
section
/-- waiting: both answer; what each answers -/
theorem t_21 (a1 a2 a3 : Int32) (S : fS) (hR : Rel S) : ∃ r r' S1 S2, f_X10_waiting a1 a2 a3 S = some (r, S1) ∧ f_X11_waiting a1 a2 a3 S1 = some (r', S2) ∧ Rel S2 ∧ (r = r' ∨ ∃ (F : List (Nat × Nat)) (E : List St5) (n f : Nat), (∀ q ∈ F, okF q) ∧ (∀ q ∈ E, okS F.length q) ∧ F.length ≤ 10 ∧ E.length ≤ 12 ∧ n ≤ 120 ∧ f < F.length ∧ r = o3 (bc (fun g => GG F E f a3 n g) a3 (F.length - 1) 1 0) ∧ r' = bm (fun p => GG F E p a3 n f) a3 F.length 0 (-1) (-1)) := by
  have hR0 := hR
  obtain ⟨n', s, L, M, hT, ⟨⟨n1, n2, n3, n4, n5, n6⟩, ⟨b1, b2, b3, b4, b5⟩, ⟨m1, m2, m3, m4⟩, d⟩, hL, hM⟩ := hR
  have h8 := n5.1
  have i1 : f_X10_isFrom a2 0 120 S = some (if ((0 : Nat) : Int) ≤ a2.toInt ∧ a2.toInt ≤ ((120 : Nat) : Int) then 1 else 0) := from_c (a := 0) (b := 120) (by omega) (by omega)
  have j1 : ∀ T : fS, f_X11_in (Int32.toInt64 a2) 0 120 T = some (if ((0 : Nat) : Int) ≤ a2.toInt ∧ a2.toInt ≤ ((120 : Nat) : Int) then 1 else 0) := fun T => in_c (a := 0) (b := 120) (by omega) (by omega)
  have no : f_X10_waiting a1 a2 a3 S = some (-1, S) → f_X11_waiting a1 a2 a3 S = some (-1, S) → ∃ r r' S1 S2, f_X10_waiting a1 a2 a3 S = some (r, S1) ∧ f_X11_waiting a1 a2 a3 S1 = some (r', S2) ∧ Rel S2 ∧ (r = r' ∨ ∃ (F : List (Nat × Nat)) (E : List St5) (n f : Nat), (∀ q ∈ F, okF q) ∧ (∀ q ∈ E, okS F.length q) ∧ F.length ≤ 10 ∧ E.length ≤ 12 ∧ n ≤ 120 ∧ f < F.length ∧ r = o3 (bc (fun g => GG F E f a3 n g) a3 (F.length - 1) 1 0) ∧ r' = bm (fun p => GG F E p a3 n f) a3 F.length 0 (-1) (-1)) := fun h g => ⟨-1, -1, S, S, h, g, hR0, Or.inl rfl⟩
  by_cases h1 : ¬ (0 ≤ a1.toInt ∧ a1.toInt < s.2.2.1.1)
  · refine no ?_ ?_
    · unfold f_X10_waiting f_X10_isStanding; rw [ci_thing b3.1 (by omega), bd_some, if_neg h1, if_pos rfl, bd_some, if_pos rfl]
    · unfold f_X11_waiting; rw [mi_thing m2.1 (by omega), bd_some, if_neg h1, if_pos rfl]
  have h1 := Decidable.not_not.mp h1
  obtain ⟨th, e1, e2⟩ := o3_ex h1.1
  have hth : th < s.2.2.1.1 := by omega
  have cStand : f_X10_isStanding (o3 th) S = some (if s.2.2.1.2.2.1 th < 0 then 0 else 1) := by
    unfold f_X10_isStanding f_X0_isStanding
    rw [ci_thing b3.1 (by omega), bd_some, ← e1, if_pos h1, if_neg (show ¬ (1 : Int32) = 0 by decide), e1, gI_o (by omega) (by omega), bd_some, show S.1 (11 + 1) th = _ from (b3.2.2 th hth).1]
    by_cases z : s.2.2.1.2.2.1 th < 0
    · rw [if_pos z, if_pos z, bd_some, if_pos rfl]
    · rw [if_neg z, if_neg z, bd_some, if_neg (by decide)]
  have mTh : ∀ T : fS, T.1 = S.1 → f_X11_thingOf (o3 th) 0 T = some (s.2.2.1.2.2.1 th) := fun T hTT => (mw_thing (a := 0) (by omega) (by omega)).trans (congrArg some (by rw [hTT]; exact (m2.2.2 th hth).1))
  have mIs : ∀ T : fS, T.1 = S.1 → f_X11_isThing (o3 th) T = some 1 := fun T hTT => by rw [mi_thing (m := s.2.2.1.1) (by rw [hTT]; exact m2.1) (by omega), ← e1, if_pos h1]
  by_cases h0 : s.2.2.1.2.2.1 th < 0
  · refine no ?_ ?_
    · unfold f_X10_waiting; rw [e1, cStand, if_pos h0, bd_some, if_pos rfl]
    · unfold f_X11_waiting; rw [e1, mIs S rfl, bd_some, if_neg (show ¬ (1 : Int32) = 0 by decide), mTh S rfl, bd_some, if_pos h0]
  obtain ⟨f, f1, f2⟩ := okT_nn (n5.2.2 th hth).1 n1 h0
  by_cases h3 : ¬ (((0 : Nat) : Int) ≤ a2.toInt ∧ a2.toInt ≤ ((120 : Nat) : Int))
  · refine no ?_ ?_
    · unfold f_X10_waiting; rw [e1, cStand, if_neg h0, bd_some, if_neg (show ¬ (1 : Int32) = 0 by decide), i1, bd_some, if_neg h3, if_pos rfl]
    · unfold f_X11_waiting; rw [e1, mIs S rfl, bd_some, if_neg (show ¬ (1 : Int32) = 0 by decide), mTh S rfl, bd_some, if_neg h0, j1, bd_some, if_neg h3, if_pos rfl]
  have h3 := Decidable.not_not.mp h3
  obtain ⟨n, e5, e6⟩ := o3_ex (x := a2) (by omega)
  have hn : n ≤ 120 := by omega
  obtain ⟨S1, c1, c2, c3⟩ := c_meas (mx := a3) b1 n4 n1 n2 hn f1
  have hp : S1.1 157 (90 + 4 * th) = o3 f := by
    rw [c3.1]
    exact ((m2.2.2 th hth).1).trans f2
  obtain ⟨S2, w1, w2⟩ := wn_42 (F := s.1) (E := s.2.1) (mx := a3) (n := n) (th := th) (f0 := f) (by omega) n3 n4 n1 n2 hn f1 s.1.length 0 FU S1 (-1) (-1) (by omega) (FU_lt (by omega)) (by rw [c3.1]; exact m1) hp
  refine ⟨_, _, S1, S2, ?_, ?_, meas_rel hR0 c3 w2, Or.inr ⟨s.1, s.2.1, n, f, n3, n4, n1, n2, hn, f1, rfl, rfl⟩⟩
  · unfold f_X10_waiting
    rw [e1, cStand, if_neg h0, bd_some, if_neg (show ¬ (1 : Int32) = 0 by decide), i1, bd_some, if_pos h3, if_neg (show ¬ (1 : Int32) = 0 by decide), gI_o (by omega) (by omega), bd_some, show S.1 12 th = s.2.2.1.2.2.1 th from (b3.2.2 th hth).1, f2, e5, c1, bd_some, c_bf (twC_44 b1 c3) c2 hn n1 (by omega), bd_some]
  · unfold f_X11_waiting
    rw [e1, mIs S1 c3.1, bd_some, if_neg (show ¬ (1 : Int32) = 0 by decide), mTh S1 c3.1, bd_some, if_neg h0, j1, bd_some, if_pos h3, if_neg (show ¬ (1 : Int32) = 0 by decide), e5]
    exact w1
end
section
/-! needed() -/
/-- a set of floors, spread along one stair; along all but one; so many rounds -/
def nst (q : St5) (s : Nat → Bool) : Nat → Bool := if s q.1 = true ∨ s q.2.1 = true then fun j => s j || decide (j = q.1) || decide (j = q.2.1) else s
def nro (E : List St5) (v : Nat) : Nat → Nat → (Nat → Bool) → (Nat → Bool)
  | 0, _, s => s
  | d + 1, k, s => nro E v d (k + 1) (if k = v then s else nst (E.getD k d5) s)
def nit (E : List St5) (v : Nat) : Nat → (Nat → Bool) → (Nat → Bool)
  | 0, s => s
  | r + 1, s => nit E v r (nro E v E.length 0 s)
theorem nst_le {q : St5} {s : Nat → Bool} {j : Nat} (h : s j = true) : nst q s j = true := by
  unfold nst
  split
  · show (s j || decide (j = q.1) || decide (j = q.2.1)) = true
    rw [h]; rfl
  · exact h
theorem nst_in {m : Nat} {q : St5} {s : Nat → Bool} (hq : okS m q) (hs : ∀ j, s j = true → j < m) : ∀ j, nst q s j = true → j < m := by
  intro j h
  unfold nst at h
  split at h
  · replace h : (s j || decide (j = q.1) || decide (j = q.2.1)) = true := h
    rw [Bool.or_eq_true, Bool.or_eq_true, decide_eq_true_eq, decide_eq_true_eq] at h
    rcases h with (h | h) | h
    · exact hs j h
    · rw [h]; exact hq.1
    · rw [h]; exact hq.2.1
  · exact hs j h
section NE
variable {E : List St5} {v m : Nat}
theorem nro_le : ∀ d k (s : Nat → Bool) j, s j = true → nro E v d k s j = true := by
  intro d
  induction d with
  | zero => intro k s j h; exact h
  | succ d ih =>
    intro k s j h
    refine ih (k + 1) _ j ?_
    split
    · exact h
    · exact nst_le h
theorem nro_in (hE : ∀ q ∈ E, okS m q) : ∀ d k (s : Nat → Bool), k + d ≤ E.length → (∀ j, s j = true → j < m) → ∀ j, nro E v d k s j = true → j < m := by
  intro d
  induction d with
  | zero => intro k s _ h; exact h
  | succ d ih =>
    intro k s hk h
    refine ih (k + 1) _ (by omega) ?_
    split
    · exact h
    · exact nst_in (hE _ (gd_mem (by omega))) h
/-- how many of the first ones are in -/
def ct (s : Nat → Bool) : Nat → Nat
  | 0 => 0
  | k + 1 => ct s k + (if s k = true then 1 else 0)
theorem ct_le {s : Nat → Bool} : ∀ k, ct s k ≤ k := by
  intro k
  induction k with
  | zero => exact Nat.le_refl 0
  | succ k ih =>
    show ct s k + (if s k = true then 1 else 0) ≤ k + 1
    split <;> omega
theorem ct_mo {s t : Nat → Bool} (h : ∀ j, s j = true → t j = true) : ∀ k, ct s k ≤ ct t k := by
  intro k
  induction k with
  | zero => exact Nat.le_refl 0
  | succ k ih =>
    show ct s k + (if s k = true then 1 else 0) ≤ ct t k + (if t k = true then 1 else 0)
    by_cases z : s k = true
    · rw [if_pos z, if_pos (h k z)]; omega
    · rw [if_neg z]; split <;> omega
theorem ct_st {s t : Nat → Bool} (h : ∀ j, s j = true → t j = true) : ∀ k, ct t k ≤ ct s k → ∀ j, j < k → t j = true → s j = true := by
  intro k
  induction k with
  | zero => intro _ j hj; omega
  | succ k ih =>
    intro hc j hj ht
    have hc : ct t k + (if t k = true then 1 else 0) ≤ ct s k + (if s k = true then 1 else 0) := hc
    have hm := ct_mo h k
    by_cases z : s k = true
    · rw [if_pos z, if_pos (h k z)] at hc
      by_cases e : j = k
      · rw [e]; exact z
      · exact ih (by omega) j (by omega) ht
    · rw [if_neg z] at hc
      by_cases e : j = k
      · subst e
        rw [if_pos ht] at hc
        omega
      · exact ih (by omega) j (by omega) ht
theorem nit_fx {s : Nat → Bool} (h : nro E v E.length 0 s = s) : ∀ r, nit E v r s = s := by
  intro r
  induction r with
  | zero => rfl
  | succ r ih => show nit E v r (nro E v E.length 0 s) = s; rw [h]; exact ih
theorem nit_ad : ∀ a b (s : Nat → Bool), nit E v (a + b) s = nit E v b (nit E v a s) := by
  intro a
  induction a with
  | zero => intro b s; rw [Nat.zero_add]; rfl
  | succ a ih => intro b s; rw [show a + 1 + b = (a + b) + 1 by omega]; exact ih b _
theorem nit_cl (hE : ∀ q ∈ E, okS m q) : ∀ r (s : Nat → Bool), (∀ j, s j = true → j < m) → m ≤ ct s m + r → nro E v E.length 0 (nit E v r s) = nit E v r s := by
  intro r
  have one : ∀ (s : Nat → Bool), (∀ j, s j = true → j < m) → ct (nro E v E.length 0 s) m ≤ ct s m → nro E v E.length 0 s = s := fun s hs hc => by
    refine funext fun j => ?_
    have h1 := nro_le (E := E) (v := v) E.length 0 s j
    have h2 : nro E v E.length 0 s j = true → s j = true := fun q => ct_st (fun j => nro_le (E := E) (v := v) E.length 0 s j) m hc j (nro_in hE E.length 0 s (by omega) hs j q) q
    cases e : s j with
    | true => exact h1 e
    | false =>
      cases e2 : nro E v E.length 0 s j with
      | true => rw [h2 e2] at e; exact e
      | false => rfl
  induction r with
  | zero =>
    intro s hs hc
    exact one s hs (by have := ct_le (s := nro E v E.length 0 s) m; omega)
  | succ r ih =>
    intro s hs hc
    show nro E v E.length 0 (nit E v r (nro E v E.length 0 s)) = nit E v r (nro E v E.length 0 s)
    by_cases z : ct (nro E v E.length 0 s) m ≤ ct s m
    · have := one s hs z
      rw [this, nit_fx this, this]
    · exact ih _ (nro_in hE E.length 0 s (by omega) hs) (by omega)
theorem nit_10 (hE : ∀ q ∈ E, okS m q) (hm : m ≤ 10) {s : Nat → Bool} (hs : ∀ j, s j = true → j < m) : nit E v 10 s = nit E v m s := by
  rw [show (10 : Nat) = m + (10 - m) by omega, nit_ad, nit_fx (nit_cl hE m s hs (by omega))]
/-- bits -/
def bi (x : Int32) (s : Nat → Bool) : Prop := ∀ j, j < 10 → x.toBitVec.getLsbD j = s j
theorem sh_tp : ∀ a, a < 10 → ((1 : Int32) <<< (o3 a &&& 31)).toBitVec = BitVec.twoPow 32 a := by decide
theorem tp_g {a j : Nat} (ha : a < 10) : (BitVec.twoPow 32 a).getLsbD j = decide (j = a) := by
  rw [BitVec.getLsbD_twoPow, decide_eq_true (show a < 32 by omega), Bool.true_and]
  by_cases h : a = j
  · rw [decide_eq_true h, decide_eq_true h.symm]
  · rw [decide_eq_false h, decide_eq_false (fun q => h q.symm)]
theorem bi_or {x : Int32} {s : Nat → Bool} {a b : Nat} (ha : a < 10) (hb : b < 10) (h : bi x s) : bi (x ||| (((1 : Int32) <<< (o3 a &&& 31)) ||| ((1 : Int32) <<< (o3 b &&& 31)))) (fun j => s j || decide (j = a) || decide (j = b)) := by
  intro j hj
  rw [Int32.toBitVec_or, Int32.toBitVec_or, sh_tp a ha, sh_tp b hb, BitVec.getLsbD_or, BitVec.getLsbD_or, tp_g ha, tp_g hb, h j hj]; exact (Bool.or_assoc _ _ _).symm
theorem bi_and {x y : Int32} {s : Nat → Bool} (h : bi x s) (hy : ∀ j, y.toBitVec.getLsbD j = true → j < 10) : x &&& y = 0 ↔ ∀ j, y.toBitVec.getLsbD j = true → s j = false := by
  rw [← Int32.toBitVec_inj, Int32.toBitVec_and]
  constructor
  · intro q j hj
    have := congrArg (fun z => BitVec.getLsbD z j) q
    replace this : (x.toBitVec &&& y.toBitVec).getLsbD j = (0#32).getLsbD j := this
    rw [BitVec.getLsbD_and, hj, Bool.and_true, BitVec.getLsbD_zero, h j (hy j hj)] at this
    exact this
  · intro q
    refine BitVec.eq_of_getLsbD_eq fun j hj => ?_
    show (x.toBitVec &&& y.toBitVec).getLsbD j = (0#32).getLsbD j
    rw [BitVec.getLsbD_and, BitVec.getLsbD_zero]
    cases e : y.toBitVec.getLsbD j with
    | false => rw [Bool.and_false]
    | true => rw [Bool.and_true, h j (hy j e), q j e]
theorem bi_2 {x : Int32} {s : Nat → Bool} {a b : Nat} (ha : a < 10) (hb : b < 10) (h : bi x s) : x &&& (((1 : Int32) <<< (o3 a &&& 31)) ||| ((1 : Int32) <<< (o3 b &&& 31))) = 0 ↔ ¬ (s a = true ∨ s b = true) := by
  have e : ∀ j, (((1 : Int32) <<< (o3 a &&& 31)) ||| ((1 : Int32) <<< (o3 b &&& 31))).toBitVec.getLsbD j = (decide (j = a) || decide (j = b)) := fun j => by rw [Int32.toBitVec_or, sh_tp a ha, sh_tp b hb, BitVec.getLsbD_or, tp_g ha, tp_g hb]
  rw [bi_and h (fun j q => by
    rw [e, Bool.or_eq_true, decide_eq_true_eq, decide_eq_true_eq] at q
    omega)]
  constructor
  · intro q w
    rcases w with w | w
    · rw [q a (by rw [e, decide_eq_true rfl]; rfl)] at w; exact nomatch w
    · rw [q b (by rw [e, decide_eq_true (show b = b from rfl), Bool.or_true])] at w; exact nomatch w
  · intro q j hj
    rw [e, Bool.or_eq_true, decide_eq_true_eq, decide_eq_true_eq] at hj
    cases w : s j with
    | false => rfl
    | true => exact absurd (hj.imp (fun z => z ▸ w) (fun z => z ▸ w)) q
theorem bi_1 {x : Int32} {s : Nat → Bool} {a : Nat} (ha : a < 10) (h : bi x s) : x &&& ((1 : Int32) <<< (o3 a &&& 31)) = 0 ↔ ¬ s a = true := by
  have e : ∀ j, ((1 : Int32) <<< (o3 a &&& 31)).toBitVec.getLsbD j = decide (j = a) := fun j => by rw [sh_tp a ha, tp_g ha]
  rw [bi_and h (fun j q => by
    rw [e, decide_eq_true_eq] at q
    omega)]
  constructor
  · intro q w
    rw [q a (by rw [e, decide_eq_true rfl])] at w; exact nomatch w
  · intro q j hj
    rw [e, decide_eq_true_eq] at hj
    cases w : s j with
    | false => rfl
    | true => exact absurd (hj ▸ w) q
theorem bi_s {a : Nat} (ha : a < 10) : bi ((1 : Int32) <<< (o3 a &&& 31)) (fun j => decide (j = a)) := fun j _ => by rw [sh_tp a ha, tp_g ha]
variable {F : List (Nat × Nat)}
theorem cn_22 {S : fS} {p3 : Int32} (b1 : twC S 4 F E) (hE : ∀ q ∈ E, okS F.length q) (hm : F.length ≤ 10) (hl : E.length ≤ 12) (hv : v < E.length) {K : Int32 → Option Int32} : ∀ d k nn x s, k + d = E.length → d < nn → bi x s → ∃ y, bi y (nro E v d k s) ∧ lp_X8_isWayAround_22 4 (o3 v) p3 S K nn x (o3 k) = K y := by
  intro d
  induction d with
  | zero =>
    intro k nn x s hk hnn h
    obtain ⟨nn, rfl⟩ : ∃ z, nn = z + 1 := ⟨nn - 1, by omega⟩
    refine ⟨x, h, ?_⟩
    rw [lp_X8_isWayAround_22.eq_2, b1.2.1, if_pos ((o3_le (by omega) (by omega)).mpr (by omega))]
  | succ d ih =>
    intro k nn x s hk hnn h
    obtain ⟨nn, rfl⟩ : ∃ z, nn = z + 1 := ⟨nn - 1, by omega⟩
    have hq := hE _ (gd_mem (d := d5) (show k < E.length by omega))
    have h1 := hq.1
    have h2 := hq.2.1
    obtain ⟨z1, z2, _, _⟩ := b1.2.2.2 k (by omega)
    rw [lp_X8_isWayAround_22.eq_2, b1.2.1, if_neg (fun q => by have := (o3_le (by omega) (by omega)).mp q; omega), gI_o (by omega) (by omega), bd_some, z1, gI_o (by omega) (by omega), bd_some, z2, o3_s]
    have hn : nro E v (d + 1) k s = nro E v d (k + 1) (if k = v then s else nst (E.getD k d5) s) := rfl
    rw [hn]
    by_cases e : k = v
    · rw [if_pos ((o3_inj (by omega) (by omega)).mpr e), if_pos e]
      exact ih (k + 1) nn x s (by omega) (by omega) h
    · rw [if_neg (fun q => e ((o3_inj (by omega) (by omega)).mp q)), if_neg e]
      unfold nst
      by_cases w : s (E.getD k d5).1 = true ∨ s (E.getD k d5).2.1 = true
      · rw [if_neg (fun q => (bi_2 (by omega) (by omega) h).mp q w), if_pos w]
        exact ih (k + 1) nn _ _ (by omega) (by omega) (bi_or (by omega) (by omega) h)
      · rw [if_pos ((bi_2 (by omega) (by omega) h).mpr w), if_neg w]
        exact ih (k + 1) nn x s (by omega) (by omega) h
theorem cn_11 {S : fS} (b1 : twC S 4 F E) (hE : ∀ q ∈ E, okS F.length q) (hm : F.length ≤ 10) (hl : E.length ≤ 12) (hv : v < E.length) {K : Int32 → Option Int32} : ∀ d k nn x s, k + d = F.length → d < nn → bi x s → ∃ y, bi y (nit E v d s) ∧ lp_X8_isWayAround_11 4 (o3 v) S K nn x (o3 k) = K y := by
  intro d
  induction d with
  | zero =>
    intro k nn x s hk hnn h
    obtain ⟨nn, rfl⟩ : ∃ z, nn = z + 1 := ⟨nn - 1, by omega⟩
    refine ⟨x, h, ?_⟩
    rw [lp_X8_isWayAround_11.eq_2, b1.1, if_pos ((o3_le (by omega) (by omega)).mpr (by omega))]
  | succ d ih =>
    intro k nn x s hk hnn h
    obtain ⟨nn, rfl⟩ : ∃ z, nn = z + 1 := ⟨nn - 1, by omega⟩
    rw [lp_X8_isWayAround_11.eq_2, b1.1, if_neg (fun q => by have := (o3_le (by omega) (by omega)).mp q; omega)]
    obtain ⟨y, y1, y2⟩ := cn_22 (p3 := o3 k) b1 hE hm hl hv (K := fun u14 => lp_X8_isWayAround_11 4 (o3 v) S K nn u14 (o3 k + (1 : Int32))) E.length 0 FU x s (by omega) (FU_lt (by omega)) h
    obtain ⟨y', w1, w2⟩ := ih (k + 1) nn y _ (by omega) (by omega) y1
    refine ⟨y', w1, y2.trans ?_⟩
    rw [o3_s]
    exact w2
/-- is there a way around? -/
def wA (F : List (Nat × Nat)) (E : List St5) (v : Nat) : Int32 := if nit E v F.length (fun j => decide (j = (E.getD v d5).1)) (E.getD v d5).2.1 = true then 1 else 0
theorem c_wa {S : fS} (b1 : twC S 4 F E) (hE : ∀ q ∈ E, okS F.length q) (hm : F.length ≤ 10) (hl : E.length ≤ 12) (hv : v < E.length) : f_X8_isWayAround 4 (o3 v) S = some (wA F E v) := by
  have hq := hE _ (gd_mem (d := d5) hv)
  have h1 := hq.1
  have h2 := hq.2.1
  obtain ⟨z1, z2, _, _⟩ := b1.2.2.2 v hv
  unfold f_X8_isWayAround wA
  rw [gI_o (by omega) (by omega), bd_some, z1]
  obtain ⟨y, y1, y2⟩ := cn_11 b1 hE hm hl hv (K := fun u16 => (gI S (4 + 3) 12 (o3 v)).bind fun a18 => if (u16 &&& ((1 : Int32) <<< (a18 &&& 31))) = (0 : Int32) then (some (0 : Int32)) else (some (1 : Int32))) F.length 0 FU _ _ (by omega) (FU_lt (by omega)) (bi_s (a := (E.getD v d5).1) (by omega))
  refine y2.trans ?_
  show (gI S (4 + 3) 12 (o3 v)).bind _ = _
  rw [gI_o (by omega) (by omega), bd_some, z2]
  by_cases w : nit E v F.length (fun j => decide (j = (E.getD v d5).1)) (E.getD v d5).2.1 = true
  · rw [if_neg (fun q => (bi_1 (by omega) y1).mp q w), if_pos w]
  · rw [if_pos ((bi_1 (by omega) y1).mpr w), if_neg w]
/-- the reference's row of booleans -/
def bo (S : fS) (s : Nat → Bool) : Prop := ∀ j, j < 10 → S.1 163 j = if s j = true then 1 else 0
def e163 (S T : fS) : Prop := T.2 = S.2 ∧ ∀ a k, a ≠ 163 → T.1 a k = S.1 a k
theorem e163.rf {S : fS} : e163 S S := ⟨rfl, fun _ _ _ => rfl⟩
theorem e163.tr {S T U : fS} (h : e163 S T) (g : e163 T U) : e163 S U := ⟨g.1.trans h.1, fun a k n => (g.2 a k n).trans (h.2 a k n)⟩
theorem e163_p {S : fS} {k : Nat} {x : Int32} : e163 S (pI S 163 k x) := ⟨rfl, fun a j h => pI_ne (by omega)⟩
theorem twM_163 {S T : fS} (m1 : twM (S.1 157) F E) (h : e163 S T) : twM (T.1 157) F E := by
  rw [show T.1 157 = S.1 157 from funext fun k => h.2 157 k (by omega)]; exact m1
theorem bo_p {S : fS} {s : Nat → Bool} {a b : Nat} (h : bo S s) : bo (pI (pI S 163 a 1) 163 b 1) (fun j => s j || decide (j = a) || decide (j = b)) := by
  intro j hj
  show _ = if (s j || decide (j = a) || decide (j = b)) = true then (1 : Int32) else 0
  by_cases e : j = b
  · rw [e, pI_eq, decide_eq_true (show b = b from rfl), Bool.or_true, if_pos rfl]
  · rw [pI_ne (by omega), decide_eq_false e, Bool.or_false]
    by_cases e : j = a
    · rw [e, pI_eq, decide_eq_true (show a = a from rfl), Bool.or_true, if_pos rfl]
    · rw [pI_ne (by omega), decide_eq_false e, Bool.or_false]
      exact h j hj
theorem nar1 : vp_nar .boolean (1 : Int32) = 1 := by decide
theorem nar0 : vp_nar .boolean (0 : Int32) = 0 := by decide
theorem mn_45 {p2 : Int32} (hE : ∀ q ∈ E, okS F.length q) (hm : F.length ≤ 10) (hl : E.length ≤ 12) (hv : v < E.length) {K : fS → Option (Int32 × fS)} : ∀ d k nn (S : fS) s, k + d = E.length → d < nn → twM (S.1 157) F E → bo S s → ∃ T, lp_X11_isSpare_45 (o3 v) p2 K nn (o3 k) S = K T ∧ bo T (nro E v d k s) ∧ e163 S T := by
  intro d
  induction d with
  | zero =>
    intro k nn S s hk hnn m1 h
    obtain ⟨nn, rfl⟩ : ∃ z, nn = z + 1 := ⟨nn - 1, by omega⟩
    refine ⟨S, ?_, h, e163.rf⟩
    rw [lp_X11_isSpare_45.eq_2, show gI S 157 158 1 = some (o3 E.length) from (gI_o (k := 1) (by omega) (by omega)).trans (congrArg some m1.2.1), bd_some, if_pos ((o3_le (by omega) (by omega)).mpr (by omega))]
  | succ d ih =>
    intro k nn S s hk hnn m1 h
    obtain ⟨nn, rfl⟩ : ∃ z, nn = z + 1 := ⟨nn - 1, by omega⟩
    have hq := hE _ (gd_mem (d := d5) (show k < E.length by omega))
    have h1 := hq.1
    have h2 := hq.2.1
    have h1' : (E.getD k d5).1 < 10 := by omega
    have h2' : (E.getD k d5).2.1 < 10 := by omega
    have z1 : ∀ T : fS, e163 S T → f_X11_stairOf (o3 k) 0 T = some (o3 (E.getD k d5).1) := fun T hT => (m_stairOf (k := 0) (by omega) (by omega)).trans (congrArg some ((twM_163 m1 hT).2.2.2 k (by omega)).1)
    have z2 : ∀ T : fS, e163 S T → f_X11_stairOf (o3 k) 1 T = some (o3 (E.getD k d5).2.1) := fun T hT => (m_stairOf (k := 1) (by omega) (by omega)).trans (congrArg some ((twM_163 m1 hT).2.2.2 k (by omega)).2.1)
    rw [lp_X11_isSpare_45.eq_2, show gI S 157 158 1 = some (o3 E.length) from (gI_o (k := 1) (by omega) (by omega)).trans (congrArg some m1.2.1), bd_some, if_neg (fun q => by have := (o3_le (by omega) (by omega)).mp q; omega), o3_s]
    have hn : nro E v (d + 1) k s = nro E v d (k + 1) (if k = v then s else nst (E.getD k d5) s) := rfl
    rw [hn]
    by_cases e : k = v
    · rw [if_pos ((o3_inj (by omega) (by omega)).mpr e), if_pos e]
      exact ih (k + 1) nn S s (by omega) (by omega) m1 h
    · rw [if_neg (fun q => e ((o3_inj (by omega) (by omega)).mp q)), if_neg e, z1 S e163.rf, bd_some, gI_o h1' (by omega), bd_some, h _ h1', z2 S e163.rf, bd_some, gI_o h2' (by omega), bd_some, h _ h2', bd_some, nar1, sI_o h1' (by omega), bd_some, z2 _ e163_p, bd_some, sI_o h2' (by omega), bd_some]
      obtain ⟨T, t1, t2, t3⟩ := ih (k + 1) nn _ _ (by omega) (by omega) (twM_163 m1 (e163_p.tr e163_p)) (bo_p (a := (E.getD k d5).1) (b := (E.getD k d5).2.1) h)
      have e13 := (e163_p.tr e163_p).tr t3
      unfold nst
      by_cases w1 : s (E.getD k d5).1 = true
      · rw [if_pos w1, if_neg (show ¬ (1 : Int32) = 0 by decide), if_pos (Or.inl w1)]
        exact ⟨T, t1, t2, e13⟩
      · rw [if_neg w1, if_pos rfl]
        by_cases w2 : s (E.getD k d5).2.1 = true
        · rw [if_pos w2, if_neg (show ¬ (1 : Int32) = 0 by decide), if_pos (Or.inr w2)]
          exact ⟨T, t1, t2, e13⟩
        · rw [if_neg w2, if_pos rfl, if_neg (fun q => q.elim w1 w2)]
          exact ih (k + 1) nn S s (by omega) (by omega) m1 h
theorem mn_37 (hE : ∀ q ∈ E, okS F.length q) (hm : F.length ≤ 10) (hl : E.length ≤ 12) (hv : v < E.length) {K : fS → Option (Int32 × fS)} : ∀ d k nn (S : fS) s, k + d = 10 → d < nn → twM (S.1 157) F E → bo S s → ∃ T, lp_X11_isSpare_37 (o3 v) K nn (o3 k) S = K T ∧ bo T (nit E v d s) ∧ e163 S T := by
  intro d
  induction d with
  | zero =>
    intro k nn S s hk hnn m1 h
    obtain ⟨nn, rfl⟩ : ∃ z, nn = z + 1 := ⟨nn - 1, by omega⟩
    refine ⟨S, ?_, h, e163.rf⟩
    rw [lp_X11_isSpare_37.eq_2, if_pos (show (10 : Int32) ≤ o3 k from (o3_le (a := 10) (by omega) (by omega)).mpr (by omega))]
  | succ d ih =>
    intro k nn S s hk hnn m1 h
    obtain ⟨nn, rfl⟩ : ∃ z, nn = z + 1 := ⟨nn - 1, by omega⟩
    rw [lp_X11_isSpare_37.eq_2, if_neg (show ¬ (10 : Int32) ≤ o3 k from fun q => by have := (o3_le (a := 10) (by omega) (by omega)).mp q; omega)]
    obtain ⟨T, t1, t2, t3⟩ := mn_45 (p2 := o3 k) hE hm hl hv (K := fun S58 => lp_X11_isSpare_37 (o3 v) K nn (o3 k + (1 : Int32)) S58) E.length 0 FU S s (by omega) (FU_lt (by omega)) m1 h
    obtain ⟨U, u1, u2, u3⟩ := ih (k + 1) nn T _ (by omega) (by omega) (twM_163 m1 t3) t2
    refine ⟨U, t1.trans ?_, u2, t3.tr u3⟩
    rw [o3_s]
    exact u1
theorem mn_2 (hE : ∀ q ∈ E, okS F.length q) (hm : F.length ≤ 10) (hl : E.length ≤ 12) (hv : v < E.length) {K : fS → Option (Int32 × fS)} : ∀ d k nn (S : fS), k + d = 10 → d < nn → twM (S.1 157) F E → (∀ j, j < k → S.1 163 j = if decide (j = (E.getD v d5).1) = true then 1 else 0) → ∃ T, lp_X11_isSpare_2 (o3 v) K nn (o3 k) S = K T ∧ bo T (fun j => decide (j = (E.getD v d5).1)) ∧ e163 S T := by
  intro d
  induction d with
  | zero =>
    intro k nn S hk hnn m1 h
    obtain ⟨nn, rfl⟩ : ∃ z, nn = z + 1 := ⟨nn - 1, by omega⟩
    refine ⟨S, ?_, fun j hj => h j (by omega), e163.rf⟩
    rw [lp_X11_isSpare_2.eq_2, if_pos (show (10 : Int32) ≤ o3 k from (o3_le (a := 10) (by omega) (by omega)).mpr (by omega))]
  | succ d ih =>
    intro k nn S hk hnn m1 h
    obtain ⟨nn, rfl⟩ : ∃ z, nn = z + 1 := ⟨nn - 1, by omega⟩
    have h1 := (hE _ (gd_mem (d := d5) hv)).1
    rw [lp_X11_isSpare_2.eq_2, if_neg (show ¬ (10 : Int32) ≤ o3 k from fun q => by have := (o3_le (a := 10) (by omega) (by omega)).mp q; omega), show f_X11_stairOf (o3 v) 0 S = some (o3 (E.getD v d5).1) from (m_stairOf (k := 0) (by omega) (by omega)).trans (congrArg some (m1.2.2.2 v hv).1), bd_some, nar1, nar0, sI_o (by omega) (by omega), sI_o (by omega) (by omega), bd_some, bd_some, o3_s]
    have key : ∀ x, x = (if decide (k = (E.getD v d5).1) = true then (1 : Int32) else 0) → ∃ T, lp_X11_isSpare_2 (o3 v) K nn (o3 (k + 1)) (pI S 163 k x) = K T ∧ bo T (fun j => decide (j = (E.getD v d5).1)) ∧ e163 S T := fun x hx => by
      obtain ⟨T, t1, t2, t3⟩ := ih (k + 1) nn (pI S 163 k x) (by omega) (by omega) (twM_163 m1 e163_p) (fun j hj => by
        by_cases e : j = k
        · rw [e, pI_eq, hx]
        · rw [pI_ne (by omega)]; exact h j (by omega))
      exact ⟨T, t1, t2, e163_p.tr t3⟩
    by_cases e : k = (E.getD v d5).1
    · rw [if_pos ((o3_inj (by omega) (by omega)).mpr e)]
      exact key 1 (by rw [decide_eq_true e, if_pos rfl])
    · rw [if_neg (fun q => e ((o3_inj (by omega) (by omega)).mp q))]
      exact key 0 (by rw [decide_eq_false e, if_neg (by decide)])
theorem m_sp {S : fS} (m1 : twM (S.1 157) F E) (hE : ∀ q ∈ E, okS F.length q) (hm : F.length ≤ 10) (hl : E.length ≤ 12) (hv : v < E.length) : ∃ T, f_X11_isSpare (o3 v) S = some (wA F E v, T) ∧ e163 S T := by
  have h1 := (hE _ (gd_mem (d := d5) hv)).1
  have h2 := (hE _ (gd_mem (d := d5) hv)).2.1
  unfold f_X11_isSpare
  obtain ⟨T, t1, t2, t3⟩ := mn_2 hE hm hl hv (K := fun S12 => lp_X11_isSpare_37 (o3 v) (fun S60 => (f_X11_stairOf (o3 v) (1 : Int32) S60).bind fun q62 => (gI S60 163 10 q62).bind fun a65 => (bZ a65).bind fun z68 => some (z68, S60)) FU (0 : Int32) S12) 10 0 FU S (by omega) (FU_lt (by omega)) m1 (fun j hj => absurd hj (Nat.not_lt_zero _))
  obtain ⟨U, u1, u2, u3⟩ := mn_37 hE hm hl hv (K := fun S60 => (f_X11_stairOf (o3 v) (1 : Int32) S60).bind fun q62 => (gI S60 163 10 q62).bind fun a65 => (bZ a65).bind fun z68 => some (z68, S60)) 10 0 FU T _ (by omega) (FU_lt (by omega)) (twM_163 m1 t3) t2
  have e2 := t3.tr u3
  refine ⟨U, (t1.trans u1).trans ?_, e2⟩
  show (f_X11_stairOf (o3 v) 1 U).bind _ = _
  rw [show f_X11_stairOf (o3 v) 1 U = some (o3 (E.getD v d5).2.1) from (m_stairOf (k := 1) (by omega) (by omega)).trans (congrArg some ((twM_163 m1 e2).2.2.2 v hv).2.1), bd_some, gI_o (by omega) (by omega), bd_some, u2 _ (by omega), nit_10 hE hm (fun j hj => by rw [decide_eq_true_eq] at hj; omega)]
  unfold wA bZ
  by_cases w : nit E v F.length (fun j => decide (j = (E.getD v d5).1)) (E.getD v d5).2.1 = true
  · rw [if_pos w, if_pos (Or.inr rfl), bd_some]
  · rw [if_neg w, if_pos (Or.inl rfl), bd_some]
end NE
def nd (F : List (Nat × Nat)) (E : List St5) : Nat → Nat → Int32 → Int32
  | 0, _, x => x
  | d + 1, k, x => nd F E d (k + 1) (if wA F E k = 0 then x ||| ((1 : Int32) <<< (o3 k &&& 31)) else x)
theorem t_26 (S : fS) (hR : Rel S) : ∃ r S2, f_X10_needed S = some r ∧ f_X11_needed S = some (r, S2) ∧ Rel S2 := by
  obtain ⟨n', s, L, M, hT, hS, hL, hM⟩ := hR
  have hS0 := hS
  obtain ⟨⟨n1, n2, n3, n4, n5, n6⟩, ⟨b1, b2, b3, b4, b5⟩, ⟨m1, m2, m3, m4⟩, d⟩ := hS
  have hc : ∀ d k nn x, k + d = s.2.1.length → d < nn → lp_X10_needed_4 S (fun u6 => some u6) nn x (o3 k) = some (nd s.1 s.2.1 d k x) := by
    intro d
    induction d with
    | zero =>
      intro k nn x hk hnn
      obtain ⟨nn, rfl⟩ : ∃ z, nn = z + 1 := ⟨nn - 1, by omega⟩
      rw [lp_X10_needed_4.eq_2, b1.2.1, if_pos ((o3_le (by omega) (by omega)).mpr (by omega))]
      rfl
    | succ d ih =>
      intro k nn x hk hnn
      obtain ⟨nn, rfl⟩ : ∃ z, nn = z + 1 := ⟨nn - 1, by omega⟩
      rw [lp_X10_needed_4.eq_2, b1.2.1, if_neg (fun q => by have := (o3_le (by omega) (by omega)).mp q; omega), c_wa b1 n4 n1 n2 (by omega), bd_some, o3_s]
      show _ = some (nd s.1 s.2.1 d (k + 1) (if wA s.1 s.2.1 k = 0 then x ||| ((1 : Int32) <<< (o3 k &&& 31)) else x))
      by_cases w : wA s.1 s.2.1 k = 0
      · rw [if_pos w, if_pos w]; exact ih (k + 1) nn _ (by omega) (by omega)
      · rw [if_neg w, if_neg w]; exact ih (k + 1) nn _ (by omega) (by omega)
  have hm : ∀ d k nn x (T : fS), k + d = s.2.1.length → d < nn → twM (T.1 157) s.1 s.2.1 → ∃ U, lp_X11_needed_4 (fun u9 S10 => some (u9, S10)) nn x (o3 k) T = some (nd s.1 s.2.1 d k x, U) ∧ e163 T U := by
    intro d
    induction d with
    | zero =>
      intro k nn x T hk hnn m1
      obtain ⟨nn, rfl⟩ : ∃ z, nn = z + 1 := ⟨nn - 1, by omega⟩
      rw [lp_X11_needed_4.eq_2, show gI T 157 158 1 = some (o3 s.2.1.length) from (gI_o (k := 1) (by omega) (by omega)).trans (congrArg some m1.2.1), bd_some, if_pos ((o3_le (by omega) (by omega)).mpr (by omega))]
      exact ⟨T, rfl, e163.rf⟩
    | succ d ih =>
      intro k nn x T hk hnn m1
      obtain ⟨nn, rfl⟩ : ∃ z, nn = z + 1 := ⟨nn - 1, by omega⟩
      obtain ⟨U, u1, u2⟩ := m_sp m1 n4 n1 n2 (v := k) (by omega)
      rw [lp_X11_needed_4.eq_2, show gI T 157 158 1 = some (o3 s.2.1.length) from (gI_o (k := 1) (by omega) (by omega)).trans (congrArg some m1.2.1), bd_some, if_neg (fun q => by have := (o3_le (by omega) (by omega)).mp q; omega), u1, bd_some, o3_s, Int32.or_zero]
      have hnd : nd s.1 s.2.1 (d + 1) k x = nd s.1 s.2.1 d (k + 1) (if wA s.1 s.2.1 k = 0 then x ||| ((1 : Int32) <<< (o3 k &&& 31)) else x) := rfl
      rw [hnd]
      obtain ⟨V, v1, v2⟩ := ih (k + 1) nn (if wA s.1 s.2.1 k = 0 then x ||| ((1 : Int32) <<< (o3 k &&& 31)) else x) U (by omega) (by omega) (twM_163 m1 u2)
      refine ⟨V, ?_, u2.tr v2⟩
      by_cases w : wA s.1 s.2.1 k = 0
      · rw [if_pos w] at v1 ⊢; rw [if_pos w]; exact v1
      · rw [if_neg w] at v1 ⊢; rw [if_neg w]; exact v1
  obtain ⟨U, u1, u2⟩ := hm s.2.1.length 0 FU 0 S (by omega) (FU_lt (by omega)) m1
  refine ⟨_, U, hc s.2.1.length 0 FU 0 (by omega) (FU_lt (by omega)), u1, n', s, L, M, ?_, ?_, ?_, ?_⟩
  · exact rTp_eq hT (u2.2 _ _ (by omega)) (u2.2 _ _ (by omega)) (fun k => u2.2 _ _ (by omega)) (fun k => u2.2 _ _ (by omega))
  · exact rSc_eq hS0 (fun a k _ _ => u2.2 a k (by omega)) (fun a k _ _ => by rw [u2.1]) (by rw [u2.2 3 3 (by omega)]; exact hS0.2.1.2.2.2.2) (fun k => u2.2 _ _ (by omega)) (fun a k _ => by rw [u2.1])
  · exact rRu_eq hL (u2.2 _ _ (by omega)) (u2.2 _ _ (by omega)) (fun a k _ _ _ => u2.2 a k (by omega)) (fun a k _ => u2.2 a k (by omega))
  · exact rIm_eq hM (fun a k _ _ => u2.2 a k (by omega)) (fun a k _ _ => by rw [u2.1]) (fun k => u2.2 _ _ (by omega)) (fun k => by rw [u2.1]) (fun k => u2.2 _ _ (by omega))
end
section
/-! meetings(): the class goes on -/
theorem and31 (y : Int64) : ∃ x, x < 2147483648 ∧ Int64.toInt32 (y &&& 2147483647) = o3 x := by
  have h1 : (y &&& 2147483647).toBitVec.toNat < 2147483648 := by
    rw [Int64.toBitVec_and, BitVec.toNat_and]
    have : (2147483647 : Int64).toBitVec.toNat = 2147483647 := by decide
    rw [this]
    exact Nat.lt_of_le_of_lt Nat.and_le_right (by omega)
  have h2 : (y &&& 2147483647).toInt = ((y &&& 2147483647).toBitVec.toNat : Int) := BitVec.toInt_eq_toNat_of_lt (by omega)
  generalize y &&& 2147483647 = w at h1 h2
  refine ⟨w.toBitVec.toNat, h1, ?_⟩
  rw [← o6_to3 h1]
  exact congrArg Int64.toInt32 (nl_eq.mpr (by rw [h2, o6_int (by omega)]))
theorem c_draw {S : fS} : ∃ a x, a < 2147483648 ∧ x < 2147483648 ∧ f_X6_draw 3 S = some (o3 a, pI S 3 3 (o3 x)) := by
  obtain ⟨x, x1, x2⟩ := and31 ((((Int32.toInt64 (S.1 3 3)) * (1103515245 : Int64)) + (12345 : Int64)))
  unfold f_X6_draw
  rw [x2, bd_some, pI_eq, show (65536 : Int32) = o3 65536 from rfl, o3_dI x1 (by omega) (by omega), bd_some]
  exact ⟨x / 65536, x, by omega, x1, rfl⟩
def eMt (S T : fS) : Prop := (∀ a k, ¬ (31 ≤ a ∧ a ≤ 36) → ¬ (a = 3 ∧ k = 3) → T.1 a k = S.1 a k) ∧ (∀ a k, ¬ (31 ≤ a ∧ a ≤ 36) → T.2 a k = S.2 a k)
theorem eMt.rf {S : fS} : eMt S S := ⟨fun _ _ _ _ => rfl, fun _ _ _ => rfl⟩
theorem eMt.tr {S T U : fS} (h : eMt S T) (g : eMt T U) : eMt S U := ⟨fun a k x y => (g.1 a k x y).trans (h.1 a k x y), fun a k x => (g.2 a k x).trans (h.2 a k x)⟩
theorem eMt_G {S T : fS} (h : ∀ p, eG 31 p S T) : eMt S T := ⟨fun a k x _ => (h (a + 1)).1 a k (by omega) (by omega) (by omega), fun a k x => (h a).2 a k (by omega) (by omega)⟩
theorem eMt_p {S : fS} {x : Int32} : eMt S (pI S 3 3 x) := ⟨fun a k _ y => pI_ne y, fun _ _ _ => rfl⟩
def mI (F : List (Nat × Nat)) (E : List St5) (n h : Nat) (T : fS) : Prop := twC T 4 F E ∧ 0 ≤ (T.1 3 3).toInt ∧ ∃ C : Cw, C.1 = n ∧ C.2.1 = h ∧ okD F.length E C ∧ cwC T 31 C
theorem oe_ok {m : Nat} {E : List St5} {C : Cw} {th s f : Nat} (hC : okD m E C) (hE : ∀ q ∈ E, okS m q) (hs : s < E.length) (h : oeI (E.getD s d5) f ≠ -1) : okD m E (cOff C th s (oeI (E.getD s d5) f)) := by
  have hq := hE _ (gd_mem (d := d5) hs)
  refine cOff_ok (D := fun x _ => if x = f then (E.getD s d5).2.2.1 else 0) (b := 0) hC hE hs ?_
  by_cases e : (E.getD s d5).1 = f
  · refine Or.inl ⟨e, ?_, ?_⟩
    · show (if (E.getD s d5).2.1 = f then (E.getD s d5).2.2.1 else 0) < 99999
      have := hq.2.2.2.2.1
      split <;> omega
    · show (E.getD s d5).2.2.1 + (if (E.getD s d5).2.1 = f then (E.getD s d5).2.2.1 else 0) = if f = f then (E.getD s d5).2.2.1 else 0
      rw [if_pos rfl, if_neg (fun z => hq.2.2.1 (e.trans z.symm))]; rfl
  · by_cases e2 : (E.getD s d5).2.1 = f
    · refine Or.inr ⟨e, e2, ?_, ?_⟩
      · show (if (E.getD s d5).1 = f then (E.getD s d5).2.2.1 else 0) < 99999
        rw [if_neg e]; omega
      · show (E.getD s d5).2.2.1 + (if (E.getD s d5).1 = f then (E.getD s d5).2.2.1 else 0) = if f = f then (E.getD s d5).2.2.1 else 0
        rw [if_pos rfl, if_neg e]; rfl
    · exfalso
      apply h
      unfold oeI
      rw [if_neg e, if_neg e2]
section CMT
variable {F : List (Nat × Nat)} {E : List St5}
theorem mI_p {n h : Nat} {T : fS} {x : Nat} (hx : x < 2147483648) (hI : mI F E n h T) : mI F E n h (pI T 3 3 (o3 x)) := by
  obtain ⟨a, b, C, c1, c2, c3, c4⟩ := hI
  refine ⟨twC_eq a (fun a k _ _ => pI_ne (by omega)) (fun _ _ _ _ => rfl), by rw [pI_eq, o3_int hx]; omega, C, c1, c2, c3, cwC_eq c4 (fun a k _ _ => pI_ne (by omega)) (fun _ => rfl)⟩
theorem cm_at {S : fS} (hT : twC S 4 F E) (hE : ∀ q ∈ E, okS F.length q) (hm : F.length ≤ 10) (hl : E.length ≤ 12) {f : Nat} (hf : f < F.length) : ∃ c, c ≤ 12 ∧ f_X8_stairsAt 4 (o3 f) S = some (o3 c) := by
  have key : ∀ d k nn c, k + d = E.length → d < nn → ∃ c', c' ≤ c + d ∧ lp_X8_stairsAt_4 4 (o3 f) S (fun u6 => some u6) nn (o3 c) (o3 k) = some (o3 c') := by
    intro d
    induction d with
    | zero =>
      intro k nn c hk hnn
      obtain ⟨nn, rfl⟩ : ∃ z, nn = z + 1 := ⟨nn - 1, by omega⟩
      rw [lp_X8_stairsAt_4.eq_2, hT.2.1, if_pos ((o3_le (by omega) (by omega)).mpr (by omega))]
      exact ⟨c, by omega, rfl⟩
    | succ d ih =>
      intro k nn c hk hnn
      obtain ⟨nn, rfl⟩ : ∃ z, nn = z + 1 := ⟨nn - 1, by omega⟩
      rw [lp_X8_stairsAt_4.eq_2, hT.2.1, if_neg (fun q => by have := (o3_le (by omega) (by omega)).mp q; omega), ch_other hT hE hm hl (by omega) (by omega), bd_some, o3_s, o3_s, show (0 : Int32) = o3 0 from rfl, o3_add]
      split
      · obtain ⟨c', c1, c2⟩ := ih (k + 1) nn (c + 1) (by omega) (by omega)
        exact ⟨c', by omega, c2⟩
      · obtain ⟨c', c1, c2⟩ := ih (k + 1) nn (c + 0) (by omega) (by omega)
        exact ⟨c', by omega, c2⟩
  obtain ⟨c, c1, c2⟩ := key E.length 0 FU 0 (by omega) (FU_lt (by omega))
  exact ⟨c, by omega, c2⟩
theorem cm_pl {S : fS} (hT : twC S 4 F E) (hE : ∀ q ∈ E, okS F.length q) (hm : F.length ≤ 10) (hl : E.length ≤ 12) {f : Nat} (hf : f < F.length) {v : Int32} : f_X8_stairInPlace 4 (o3 f) v S = some (-1) ∨ ∃ k, k < E.length ∧ f_X8_stairInPlace 4 (o3 f) v S = some (o3 k) := by
  have key : ∀ d k nn (c : Int32), k + d = E.length → d < nn → lp_X8_stairInPlace_5 4 (o3 f) v S (fun (_ : Unit) => some (-1 : Int32)) nn c (o3 k) = some (-1) ∨ ∃ i, i < E.length ∧ lp_X8_stairInPlace_5 4 (o3 f) v S (fun (_ : Unit) => some (-1 : Int32)) nn c (o3 k) = some (o3 i) := by
    intro d
    induction d with
    | zero =>
      intro k nn c hk hnn
      obtain ⟨nn, rfl⟩ : ∃ z, nn = z + 1 := ⟨nn - 1, by omega⟩
      rw [lp_X8_stairInPlace_5.eq_2, hT.2.1, if_pos ((o3_le (by omega) (by omega)).mpr (by omega))]
      exact Or.inl rfl
    | succ d ih =>
      intro k nn c hk hnn
      obtain ⟨nn, rfl⟩ : ∃ z, nn = z + 1 := ⟨nn - 1, by omega⟩
      rw [lp_X8_stairInPlace_5.eq_2, hT.2.1, if_neg (fun q => by have := (o3_le (by omega) (by omega)).mp q; omega), ch_other hT hE hm hl (by omega) (by omega), bd_some, o3_s]
      split
      · split
        · exact Or.inr ⟨k, by omega, rfl⟩
        · exact ih (k + 1) nn _ (by omega) (by omega)
      · exact ih (k + 1) nn _ (by omega) (by omega)
  exact key E.length 0 FU 0 (by omega) (FU_lt (by omega))
theorem cm_off {n h : Nat} {T : fS} (hE : ∀ q ∈ E, okS F.length q) (hm : F.length ≤ 10) (hl : E.length ≤ 12) {th f : Nat} {v : Int32} (hth : th < n) (hf : f < F.length) (hv : v = -1 ∨ ∃ k, k < E.length ∧ v = o3 k) (hI : mI F E n h T) (hp : T.1 32 th = o3 f) : ∃ r U, f_X0_setOff 31 4 (o3 th) v T = some (r, U) ∧ mI F E n h U ∧ eMt T U := by
  have hI0 := hI
  obtain ⟨a, b, C, c1, c2, c3, c4⟩ := hI
  rcases hv with hv | ⟨k, k1, k2⟩
  · refine ⟨0, T, ?_, hI0, eMt.rf⟩
    unfold f_X0_setOff
    rw [hv, if_neg (show ¬ (0 : Int32) ≤ -1 by decide), if_neg (show ¬ (0 : Int32) ≤ -1 by decide)]
  · obtain ⟨U, u1, u2, u3⟩ := ch_off c4 c3.1 a hE hm hl (th := th) (k := k) (a := f) (by omega) k1 hf ((c4.2.2 th (by omega)).1.symm.trans hp)
    rw [k2, u1]
    by_cases z : oeI (E.getD k d5) f = -1
    · rw [if_pos z]; exact ⟨0, T, rfl, hI0, eMt.rf⟩
    · rw [if_neg z]
      have eq := eMt_G u3
      refine ⟨1, U, rfl, ⟨twC_eq a (fun a k _ _ => eq.1 a k (by omega) (by omega)) (fun a k _ _ => eq.2 a k (by omega)), ?_, cOff C th k (oeI (E.getD k d5) f), c1, c2, oe_ok c3 hE k1 z, u2⟩, eq⟩
      have := (u3 1000).1 3 3 (by omega) (by omega) (by omega)
      rw [this]; exact b
theorem cm_wan {n h : Nat} (hE : ∀ q ∈ E, okS F.length q) (hm : F.length ≤ 10) (hl : E.length ≤ 12) {K : fS → Option fS} : ∀ d k nn T, k + d = n → d < nn → mI F E n h T → ∃ U, lp_X10_wander_2 K nn (o3 k) T = K U ∧ mI F E n h U ∧ eMt T U := by
  intro d
  induction d with
  | zero =>
    intro k nn T hk hnn hI
    obtain ⟨nn, rfl⟩ : ∃ z, nn = z + 1 := ⟨nn - 1, by omega⟩
    refine ⟨T, ?_, hI, eMt.rf⟩
    obtain ⟨a, b, C, c1, c2, c3, c4⟩ := hI
    have h8 := c3.1
    rw [lp_X10_wander_2.eq_2, c4.1, if_pos ((o3_le (by omega) (by omega)).mpr (by omega))]
  | succ d ih =>
    intro k nn T hk hnn hI
    obtain ⟨nn, rfl⟩ : ∃ z, nn = z + 1 := ⟨nn - 1, by omega⟩
    have hI0 := hI
    obtain ⟨a, b, C, c1, c2, c3, c4⟩ := hI
    have h8 := c3.1
    have st : f_X0_isStanding 31 (o3 k) T = some (if C.2.2.1 k < 0 then 0 else 1) := by
      unfold f_X0_isStanding
      rw [gI_o (by omega) (by omega), bd_some, show T.1 (31 + 1) k = _ from (c4.2.2 k (by omega)).1]
      by_cases z : C.2.2.1 k < 0
      · rw [if_pos z, if_pos z]
      · rw [if_neg z, if_neg z]
    rw [lp_X10_wander_2.eq_2, c4.1, if_neg (fun q => by have := (o3_le (by omega) (by omega)).mp q; omega), st, bd_some, o3_s]
    by_cases z : C.2.2.1 k < 0
    · rw [if_pos z, if_pos rfl]
      exact ih (k + 1) nn T (by omega) (by omega) hI0
    · rw [if_neg z, if_neg (show ¬ (1 : Int32) = 0 by decide)]
      obtain ⟨f, f1, f2⟩ := okT_nn (c3.2.2 k (by omega)).1 hm z
      have hp : T.1 32 k = o3 f := ((c4.2.2 k (by omega)).1).trans f2
      obtain ⟨q, x, q1, x1, dr⟩ := c_draw (S := T)
      have hI1 := mI_p (x := x) x1 hI0
      obtain ⟨c, cc1, cc2⟩ := cm_at hI1.1 hE hm hl f1
      rw [gI_o (by omega) (by omega), bd_some, hp, dr, bd_some, show (4 : Int32) = o3 4 from rfl, o3_rI q1 (by omega) (by omega), bd_some]
      dsimp only
      rw [cc2, bd_some, bd_some]
      obtain ⟨U0, u1, u2, u3⟩ := ih (k + 1) nn (pI T 3 3 (o3 x)) (by omega) (by omega) hI1
      by_cases z4 : o3 (q % 4) = (0 : Int32)
      · rw [if_pos z4, if_neg (show ¬ (1 : Int32) = 0 by decide)]
        by_cases zc : o3 c ≤ (0 : Int32)
        · rw [if_pos zc]; exact ⟨U0, u1, u2, eMt_p.tr u3⟩
        · rw [if_neg zc]
          have hc0 : c ≠ 0 := fun e => zc (by rw [e]; decide)
          obtain ⟨q', x', q1', x1', dr'⟩ := c_draw (S := pI T 3 3 (o3 x))
          rw [dr', bd_some]
          dsimp only
          rw [o3_rI q1' (by omega) hc0, bd_some]
          have hI2 := mI_p (x := x') x1' hI1
          have hv := cm_pl hI2.1 hE hm hl f1 (v := o3 (q' % c))
          have hv' : ∃ v, f_X8_stairInPlace 4 (o3 f) (o3 (q' % c)) (pI (pI T 3 3 (o3 x)) 3 3 (o3 x')) = some v ∧ (v = -1 ∨ ∃ k, k < E.length ∧ v = o3 k) := by
            rcases hv with hv | ⟨i, i1, i2⟩
            · exact ⟨_, hv, Or.inl rfl⟩
            · exact ⟨_, i2, Or.inr ⟨i, i1, rfl⟩⟩
          obtain ⟨v, v1, v2⟩ := hv'
          obtain ⟨r, W, w1, w2, w3⟩ := cm_off (th := k) (f := f) (v := v) hE hm hl (by omega) f1 v2 hI2 (by rw [pI_ne (by omega), pI_ne (by omega)]; exact hp)
          obtain ⟨U, y1, y2, y3⟩ := ih (k + 1) nn W (by omega) (by omega) w2
          refine ⟨U, ?_, y2, ((eMt_p.tr eMt_p).tr w3).tr y3⟩
          rw [v1, bd_some, show (4 : Nat) = 4 from rfl, w1, bd_some]
          exact y1
      · rw [if_neg z4, if_pos rfl]; exact ⟨U0, u1, u2, eMt_p.tr u3⟩
theorem cm_hrs {n : Nat} {p1 p2 : Int32} (hF : ∀ q ∈ F, okF q) (hE : ∀ q ∈ E, okS F.length q) (hm : F.length ≤ 10) (hl : E.length ≤ 12) {i j m : Nat} (hi : i < n) (hj : j < n) (hm2 : m < 2147483648) {K : Int32 → fS → Option (Int32 × fS)} : ∀ d k nn (c : Int32) h T, k + d = m → d < nn → h + d ≤ 10199 → mI F E n h T → ∃ r U, lp_X10_hoursMet_20 (o3 i) (o3 j) (o3 m) K nn c (o3 k) T = K r U ∧ (∃ h', mI F E n h' U) ∧ eMt T U := by
  intro d
  induction d with
  | zero =>
    intro k nn c h T hk hnn hh hI
    obtain ⟨nn, rfl⟩ : ∃ z, nn = z + 1 := ⟨nn - 1, by omega⟩
    refine ⟨c, T, ?_, ⟨h, hI⟩, eMt.rf⟩
    rw [lp_X10_hoursMet_20.eq_2, if_pos ((o3_le (by omega) (by omega)).mpr (by omega))]
  | succ d ih =>
    intro k nn c h T hk hnn hh hI
    obtain ⟨nn, rfl⟩ : ∃ z, nn = z + 1 := ⟨nn - 1, by omega⟩
    have h8 : n ≤ 8 := by
      obtain ⟨_, _, C, c1, _, c3, _⟩ := hI
      rw [← c1]; exact c3.1
    obtain ⟨U, u1, u2, u3⟩ := cm_wan (K := fun S50 => some S50) hE hm hl n 0 FU T (by omega) (FU_lt (by omega)) hI
    obtain ⟨a, b, C, c1, c2, c3, c4⟩ := u2
    obtain ⟨V, v1, v2, v3⟩ := c_pass (t := 4) (c := 31) (by omega) hF hE hm hl c3 c4 a
    have eq := eMt_G v3
    have hIV : mI F E n (h + 1) V := ⟨twC_eq a (fun a k _ _ => eq.1 a k (by omega) (by omega)) (fun a k _ _ => eq.2 a k (by omega)), by rw [(v3 1000).1 3 3 (by omega) (by omega) (by omega)]; exact b, cPs F E C, c1, by show C.2.1 + 1 = h + 1; omega, cPs_ok c3 hF hE hm hl (by omega), v2⟩
    have tog : ∃ r, f_X0_isTogether 31 (o3 i) (o3 j) V = some r := by
      unfold f_X0_isTogether f_X0_isStanding
      rw [gI_o (by omega) (by omega), gI_o (by omega) (by omega), bd_some, bd_some, bd_some]
      by_cases z : V.1 (31 + 1) i < 0
      · rw [if_pos z, bd_some, if_pos rfl]; exact ⟨_, rfl⟩
      · rw [if_neg z, bd_some, if_neg (by decide)]
        split
        · exact ⟨_, rfl⟩
        · exact ⟨_, rfl⟩
    obtain ⟨r, r1⟩ := tog
    have w1 : f_X10_wander T = some U := u1
    rw [lp_X10_hoursMet_20.eq_2, if_neg (fun q => by have := (o3_le (by omega) (by omega)).mp q; omega), w1, bd_some, v1, bd_some, r1, bd_some, o3_s]
    split
    · obtain ⟨r', W, y1, y2, y3⟩ := ih (k + 1) nn c (h + 1) V (by omega) (by omega) (by omega) hIV
      exact ⟨r', W, y1, y2, (u3.tr eq).tr y3⟩
    · obtain ⟨r', W, y1, y2, y3⟩ := ih (k + 1) nn (c + 1) (h + 1) V (by omega) (by omega) (by omega) hIV
      exact ⟨r', W, y1, y2, (u3.tr eq).tr y3⟩
theorem cm_met {n h : Nat} (hF : ∀ q ∈ F, okF q) (hE : ∀ q ∈ E, okS F.length q) (hm : F.length ≤ 10) (hl : E.length ≤ 12) {i j m : Nat} (hi : i < n) (hj : j < n) (hm2 : m ≤ 200) {C : Cw} {T : fS} (c1 : C.1 = n) (c2 : C.2.1 = h) (h9 : h ≤ 9999) (c3 : okD F.length E C) (c4 : cwC T 11 C) (hT : twC T 4 F E) (hx : 0 ≤ (T.1 3 3).toInt) : ∃ r U, f_X10_hoursMet (o3 i) (o3 j) (o3 m) T = some (r, U) ∧ cwC U 11 C ∧ twC U 4 F E ∧ 0 ≤ (U.1 3 3).toInt ∧ eMt T U := by
  obtain ⟨Y, y1, y2, y3, y4, y5⟩ := c_copyC (S := T) (b := 31) (c := 11) (by omega)
  have h8 := c3.1
  have eq : eMt T Y := ⟨fun a k x _ => (y5 a k (by omega)).1, fun a k x => (y5 a k (by omega)).2⟩
  have hI : mI F E n h Y := ⟨twC_eq hT (fun a k _ _ => eq.1 a k (by omega) (by omega)) (fun a k _ _ => eq.2 a k (by omega)), by rw [(y5 3 3 (by omega)).1]; exact hx, C, c1, c2, c3, y2.trans c4.1, y3.trans c4.2.1, fun k hk => by
    obtain ⟨z1, z2, z3, z4, z5⟩ := c4.2.2 k hk
    obtain ⟨w1, w2, w3, w4, w5⟩ := y4 k (by omega)
    exact ⟨w1.trans z1, w2.trans z2, w3.trans z3, w4.trans z4, w5.trans z5⟩⟩
  obtain ⟨r, U, u1, ⟨h', u2⟩, u3⟩ := cm_hrs (n := n) (p1 := 0) (p2 := 0) hF hE hm hl hi hj (m := m) (by omega) (K := fun u15 S16 => some (u15, S16)) m 0 FU 0 h Y (by omega) (FU_lt (by omega)) (by omega) hI
  have e2 := eq.tr u3
  refine ⟨r, U, ?_, cwC_eq c4 (fun a k _ _ => e2.1 a k (by omega) (by omega)) (fun k => e2.2 _ k (by omega)), u2.1, u2.2.1, e2⟩
  unfold f_X10_hoursMet
  rw [y1, bd_some]
  exact u1
end CMT
end
section
/-! meetings(): the reference goes on -/
def eMm (S T : fS) : Prop := (∀ a k, ¬ (a = 157 ∧ (k = 3 ∨ (90 ≤ k ∧ k < 122))) → ¬ (a = 145 ∧ k = 23) → T.1 a k = S.1 a k) ∧ (∀ a k, a ≠ 155 → a ≠ 156 → a ≠ 158 → ¬ (a = 145 ∧ k = 37) → T.2 a k = S.2 a k)
theorem eMm.rf {S : fS} : eMm S S := ⟨fun _ _ _ _ => rfl, fun _ _ _ _ _ _ => rfl⟩
theorem eMm.tr {S T U : fS} (h : eMm S T) (g : eMm T U) : eMm S U := ⟨fun a k x y => (g.1 a k x y).trans (h.1 a k x y), fun a k x y z w => (g.2 a k x y z w).trans (h.2 a k x y z w)⟩
theorem eMm_I {S T : fS} (h : eI S T) : eMm S T := ⟨h.1, fun a k x y z _ => h.2 a k x y z⟩
theorem eMm_p {S : fS} {x : Int64} : eMm S (pL S 145 37 x) := ⟨fun _ _ _ _ => rfl, fun a k _ _ _ w => pL_ne w⟩
def mJ (F : List (Nat × Nat)) (E : List St5) (n h : Nat) (T : fS) : Prop := twM (T.1 157) F E ∧ (∃ x, x < 2147483648 ∧ T.2 145 37 = o6 x) ∧ ∃ C : Cw, C.1 = n ∧ C.2.1 = h ∧ okD F.length E C ∧ cwM (T.1 157) (T.2 158) C
section MMT
variable {F : List (Nat × Nat)} {E : List St5}
theorem mJ_p {n h : Nat} {T : fS} {x : Nat} (hx : x < 2147483648) (hI : mJ F E n h T) : mJ F E n h (pL T 145 37 (o6 x)) := by
  obtain ⟨a, b, C, c1, c2, c3, c4⟩ := hI
  exact ⟨a, ⟨x, hx, pL_eq⟩, C, c1, c2, c3, c4⟩
theorem mJ_I {n h : Nat} {T U : fS} {C : Cw} (hm : F.length ≤ 10) (hl : E.length ≤ 12) (hI : mJ F E n h T) {h' : Nat} (c1 : C.1 = n) (c2 : C.2.1 = h') (c3 : okD F.length E C) (c4 : cwM (U.1 157) (U.2 158) C) (e : eI T U) : mJ F E n h' U := by
  obtain ⟨a, ⟨x, x1, x2⟩, _⟩ := hI
  exact ⟨twM_eq hm hl a (fun k hk => e.1 _ _ (by omega) (by omega)), ⟨x, x1, (e.2 _ _ (by omega) (by omega) (by omega)).trans x2⟩, C, c1, c2, c3, c4⟩
theorem m_draw {S : fS} {x : Nat} (hx : x < 2147483648) (h : S.2 145 37 = o6 x) : ∃ a y, a < 2147483648 ∧ y < 2147483648 ∧ f_X11_draw S = some (o6 a, pL S 145 37 (o6 y)) := by
  unfold f_X11_draw
  have hb : x * 1103515245 + 12345 < 9223372036854775808 := by omega
  rw [h, show (1103515245 : Int64) = o6 1103515245 from rfl, show (12345 : Int64) = o6 12345 from rfl, show (2147483648 : Int64) = o6 2147483648 from rfl, show (65536 : Int64) = o6 65536 from rfl, o6_mul, o6_add, o6_rL hb (by omega) (by omega), bd_some, bd_some, pL_eq]
  have hy : (x * 1103515245 + 12345) % 2147483648 < 2147483648 := Nat.mod_lt _ (by omega)
  generalize (x * 1103515245 + 12345) % 2147483648 = y at hy
  rw [o6_dL (by omega) (by omega) (by omega), bd_some]
  exact ⟨y / 65536, y, by omega, hy, rfl⟩
/-- how many stairs from k on are at f -/
def ca (E : List St5) (f : Nat) : Nat → Nat → Nat
  | 0, _ => 0
  | d + 1, k => (if oeI (E.getD k d5) f < 0 then 0 else 1) + ca E f d (k + 1)
theorem ca_le {f : Nat} : ∀ d k, ca E f d k ≤ d := by
  intro d
  induction d with
  | zero => intro k; exact Nat.le_refl 0
  | succ d ih =>
    intro k
    have := ih (k + 1)
    show (if oeI (E.getD k d5) f < 0 then 0 else 1) + ca E f d (k + 1) ≤ d + 1
    split <;> omega
theorem mm_30 {T : fS} {p1 : Int32} (hT : twM (T.1 157) F E) (hE : ∀ q ∈ E, okS F.length q) (hm : F.length ≤ 10) (hl : E.length ≤ 12) {f : Nat} (hf : f < F.length) {K : Int32 → fS → Option fS} : ∀ d k nn c, k + d = E.length → d < nn → lp_X11_wanders_30 p1 (o3 f) K nn (o3 c) (o3 k) T = K (o3 (c + ca E f d k)) T := by
  have h1 : gI T 157 158 1 = some (o3 E.length) := (gI_o (k := 1) (by omega) (by omega)).trans (congrArg some hT.2.1)
  intro d
  induction d with
  | zero =>
    intro k nn c hk hnn
    obtain ⟨nn, rfl⟩ : ∃ z, nn = z + 1 := ⟨nn - 1, by omega⟩
    rw [lp_X11_wanders_30.eq_2, h1, bd_some, if_pos ((o3_le (by omega) (by omega)).mpr (by omega))]
    rfl
  | succ d ih =>
    intro k nn c hk hnn
    obtain ⟨nn, rfl⟩ : ∃ z, nn = z + 1 := ⟨nn - 1, by omega⟩
    rw [lp_X11_wanders_30.eq_2, h1, bd_some, if_neg (fun q => by have := (o3_le (by omega) (by omega)).mp q; omega), mh_other hT hE hm hl (by omega) (by omega), bd_some, o3_s, o3_s]
    have e : ca E f (d + 1) k = (if oeI (E.getD k d5) f < 0 then 0 else 1) + ca E f d (k + 1) := rfl
    rw [e]
    by_cases z : oeI (E.getD k d5) f < 0
    · rw [if_pos z, if_pos z, show o3 c + (0 : Int32) = o3 c from by rw [show (0 : Int32) = o3 0 from rfl, o3_add]; rfl, ih (k + 1) nn c (by omega) (by omega), Nat.zero_add]
    · rw [if_neg z, if_neg z, ih (k + 1) nn (c + 1) (by omega) (by omega), Nat.add_assoc]
theorem mm_83 {T : fS} {p1 : Int32} (hT : twM (T.1 157) F E) (hE : ∀ q ∈ E, okS F.length q) (hm : F.length ≤ 10) (hl : E.length ≤ 12) {f : Nat} (hf : f < F.length) {K : Int32 → fS → Option fS} : ∀ d k nn j, k + d = E.length → d < nn → j < ca E f d k → ∃ i, i < E.length ∧ ¬ oeI (E.getD i d5) f < 0 ∧ lp_X11_wanders_83 p1 (o3 f) K nn (o3 j) (o3 k) T = K (o3 i) T := by
  intro d
  induction d with
  | zero => intro k nn j _ _ h; exact absurd h (Nat.not_lt_zero _)
  | succ d ih =>
    intro k nn j hk hnn h
    obtain ⟨nn, rfl⟩ : ∃ z, nn = z + 1 := ⟨nn - 1, by omega⟩
    have hc := ca_le (E := E) (f := f) d (k + 1)
    have e : ca E f (d + 1) k = (if oeI (E.getD k d5) f < 0 then 0 else 1) + ca E f d (k + 1) := rfl
    rw [e] at h
    rw [lp_X11_wanders_83.eq_2, mh_other hT hE hm hl (by omega) (by omega), bd_some, bd_some, o3_s]
    by_cases z : oeI (E.getD k d5) f < 0
    · rw [if_pos z] at h
      rw [if_pos z, if_pos z, show o3 j - (0 : Int32) = o3 j from by rw [show (0 : Int32) = o3 0 from rfl, o3_sub (by omega)]; rfl]
      exact ih (k + 1) nn j (by omega) (by omega) (by omega)
    · rw [if_neg z] at h
      rw [if_neg z, if_neg z]
      by_cases zj : j = 0
      · rw [if_pos (show o3 j ≤ (0 : Int32) by rw [zj]; decide)]
        exact ⟨k, by omega, z, rfl⟩
      · rw [if_neg (show ¬ o3 j ≤ (0 : Int32) from fun q => zj (by have := (o3_le (b := 0) (by omega) (by omega)).mp q; omega)), show o3 j - (1 : Int32) = o3 (j - 1) from by rw [show (1 : Int32) = o3 1 from rfl, o3_sub (by omega)]]
        exact ih (k + 1) nn (j - 1) (by omega) (by omega) (by omega)
theorem mm_wan {n h : Nat} (hE : ∀ q ∈ E, okS F.length q) (hm : F.length ≤ 10) (hl : E.length ≤ 12) {k : Nat} (hk : k < n) {T : fS} (hI : mJ F E n h T) : ∃ U, f_X11_wanders (o3 k) T = some U ∧ mJ F E n h U ∧ eMm T U := by
  have hI0 := hI
  obtain ⟨a, ⟨x, x1, x2⟩, C, c1, c2, c3, c4⟩ := hI
  have h8 := c3.1
  have th : f_X11_thingOf (o3 k) 0 T = some (C.2.2.1 k) := (mw_thing (a := 0) (by omega) (by omega)).trans (congrArg some (c4.2.2 k (by omega)).1)
  unfold f_X11_wanders
  rw [th, bd_some]
  by_cases z : C.2.2.1 k < 0
  · rw [if_pos z]; exact ⟨T, rfl, hI0, eMm.rf⟩
  · rw [if_neg z]
    obtain ⟨f, f1, f2⟩ := okT_nn (c3.2.2 k (by omega)).1 hm z
    obtain ⟨q, y, q1, y1, dr⟩ := m_draw x1 x2
    have hI1 := mJ_p y1 hI0
    rw [dr, bd_some]
    dsimp only
    rw [show (4 : Int64) = o6 4 from rfl, o6_rL (by omega) (by omega) (by omega), bd_some]
    by_cases z4 : o6 (q % 4) = (0 : Int64)
    · rw [if_pos z4, f2, show (0 : Int32) = o3 0 from rfl, mm_30 hI1.1 hE hm hl f1 E.length 0 FU 0 (by omega) (FU_lt (by omega)), Nat.zero_add]
      have hc := ca_le (E := E) (f := f) E.length 0
      by_cases zc : o3 (ca E f E.length 0) = o3 0
      · rw [if_pos zc]; exact ⟨_, rfl, hI1, eMm_p⟩
      · rw [if_neg zc]
        have hc0 : ca E f E.length 0 ≠ 0 := fun e => zc (by rw [e])
        obtain ⟨q', y', q1', y1', dr'⟩ := m_draw (S := pL T 145 37 (o6 y)) y1 pL_eq
        have hI2 := mJ_p y1' hI1
        rw [dr', bd_some]
        dsimp only
        have hmd : q' % ca E f E.length 0 < ca E f E.length 0 := Nat.mod_lt _ (by omega)
        rw [o6_of3 (by omega), o6_rL (by omega) (by omega) hc0, bd_some, o6_to3 (by omega)]
        obtain ⟨i, i1, i2, i3⟩ := mm_83 (p1 := o3 k) hI2.1 hE hm hl f1 (K := fun u43 S44 => (f_X11_setsOff (o3 k) u43 S44).bind fun q46 => some q46) E.length 0 FU (q' % ca E f E.length 0) (by omega) (FU_lt (by omega)) (Nat.mod_lt _ (by omega))
        have i2' : oeI (E.getD i d5) f ≠ -1 := fun e => i2 (by rw [e]; decide)
        obtain ⟨U, u1, u2, u3⟩ := mh_off (S := pL (pL T 145 37 (o6 y)) 145 37 (o6 y')) c4 c3.1 hI2.1 hE hm hl (th := k) (k := i) (a := f) (by omega) i1 f1 f2
        refine ⟨U, i3.trans ?_, mJ_I hm hl hI2 (C := cOff C k i (oeI (E.getD i d5) f)) c1 c2 (oe_ok c3 hE i1 i2') u2 u3, (eMm_p.tr eMm_p).tr (eMm_I u3)⟩
        show (f_X11_setsOff (o3 k) (o3 i) _).bind _ = _
        rw [u1, bd_some]
    · rw [if_neg z4]; exact ⟨_, rfl, hI1, eMm_p⟩
theorem mm_105 {n h : Nat} {p1 p2 p3 p4 p5 p6 p7 p8 p9 p10 : Int32} (hE : ∀ q ∈ E, okS F.length q) (hm : F.length ≤ 10) (hl : E.length ≤ 12) {K : fS → Option (Int32 × fS)} : ∀ d k nn T, k + d = n → d < nn → mJ F E n h T → ∃ U, lp_X11_meetings_105 p1 p2 p3 p4 p5 p6 p7 p8 p9 p10 K nn (o3 k) T = K U ∧ mJ F E n h U ∧ eMm T U := by
  intro d
  induction d with
  | zero =>
    intro k nn T hk hnn hI
    obtain ⟨nn, rfl⟩ : ∃ z, nn = z + 1 := ⟨nn - 1, by omega⟩
    refine ⟨T, ?_, hI, eMm.rf⟩
    obtain ⟨a, b, C, c1, c2, c3, c4⟩ := hI
    have h8 := c3.1
    rw [lp_X11_meetings_105.eq_2, show gI T 157 158 2 = some (o3 C.1) from (gI_o (k := 2) (by omega) (by omega)).trans (congrArg some c4.1), bd_some, if_pos ((o3_le (by omega) (by omega)).mpr (by omega))]
  | succ d ih =>
    intro k nn T hk hnn hI
    obtain ⟨nn, rfl⟩ : ∃ z, nn = z + 1 := ⟨nn - 1, by omega⟩
    have hI0 := hI
    obtain ⟨a, b, C, c1, c2, c3, c4⟩ := hI
    have h8 := c3.1
    obtain ⟨U, u1, u2, u3⟩ := mm_wan hE hm hl (k := k) (by omega) hI0
    obtain ⟨V, v1, v2, v3⟩ := ih (k + 1) nn U (by omega) (by omega) u2
    refine ⟨V, ?_, v2, u3.tr v3⟩
    rw [lp_X11_meetings_105.eq_2, show gI T 157 158 2 = some (o3 C.1) from (gI_o (k := 2) (by omega) (by omega)).trans (congrArg some c4.1), bd_some, if_neg (fun q => by have := (o3_le (by omega) (by omega)).mp q; omega), u1, bd_some, o3_s]
    exact v1
theorem mm_95 {n : Nat} {p3 p5 p6 p7 p8 : Int32} (hF : ∀ q ∈ F, okF q) (hE : ∀ q ∈ E, okS F.length q) (hm : F.length ≤ 10) (hl : E.length ≤ 12) {i j m : Nat} (hi : i < n) (hj : j < n) (hm2 : m < 2147483648) {K : Int32 → fS → Option (Int32 × fS)} : ∀ d k nn (c : Int32) h T, k + d = m → d < nn → h + d ≤ 10199 → mJ F E n h T → ∃ r U, lp_X11_meetings_95 (o3 i) (o3 j) p3 (o3 m) p5 p6 p7 p8 K nn c (o3 k) T = K r U ∧ (∃ h', mJ F E n h' U) ∧ eMm T U := by
  intro d
  induction d with
  | zero =>
    intro k nn c h T hk hnn hh hI
    obtain ⟨nn, rfl⟩ : ∃ z, nn = z + 1 := ⟨nn - 1, by omega⟩
    refine ⟨c, T, ?_, ⟨h, hI⟩, eMm.rf⟩
    rw [lp_X11_meetings_95.eq_2, if_pos ((o3_le (by omega) (by omega)).mpr (by omega))]
  | succ d ih =>
    intro k nn c h T hk hnn hh hI
    obtain ⟨nn, rfl⟩ : ∃ z, nn = z + 1 := ⟨nn - 1, by omega⟩
    have h8 : n ≤ 8 := by
      obtain ⟨_, _, C, c1, _, c3, _⟩ := hI
      rw [← c1]; exact c3.1
    rw [lp_X11_meetings_95.eq_2, if_neg (fun q => by have := (o3_le (by omega) (by omega)).mp q; omega), o3_s]
    obtain ⟨U, u1, u2, u3⟩ := mm_105 (p1 := o3 i) (p2 := o3 j) (p3 := p3) (p4 := o3 m) (p5 := p5) (p6 := p6) (p7 := p7) (p8 := p8) (p9 := c) (p10 := o3 k) hE hm hl (K := (fun S40 => (f_X11_ageAll  S40).bind fun q42 =>
    (f_X11_thingOf (o3 i) (0 : Int32) q42).bind fun q45 =>
    if q45 < (0 : Int32) then (lp_X11_meetings_95 (o3 i) (o3 j) p3 (o3 m) p5 p6 p7 p8 K nn (c + (0 : Int32)) (o3 (k + 1)) q42) else
    ((f_X11_thingOf (o3 i) (0 : Int32) q42).bind fun q49 =>
    (f_X11_thingOf (o3 j) (0 : Int32) q42).bind fun q52 =>
    if q49 = q52 then (lp_X11_meetings_95 (o3 i) (o3 j) p3 (o3 m) p5 p6 p7 p8 K nn (c + (1 : Int32)) (o3 (k + 1)) q42) else
    (lp_X11_meetings_95 (o3 i) (o3 j) p3 (o3 m) p5 p6 p7 p8 K nn (c + (0 : Int32)) (o3 (k + 1)) q42)))) n 0 FU T (by omega) (FU_lt (by omega)) hI
    have u2' := u2
    obtain ⟨a, b, C, c1, c2, c3, c4⟩ := u2
    obtain ⟨V, v1, v2, v3⟩ := m_pass hF hE hm hl c3 c4 a
    have hIV : mJ F E n (h + 1) V := mJ_I hm hl u2' (C := cPs F E C) c1 (by show C.2.1 + 1 = h + 1; omega) (cPs_ok c3 hF hE hm hl (by omega)) v2 v3
    have t1 : f_X11_thingOf (o3 i) 0 V = some _ := mw_thing (a := 0) (by omega) (by omega)
    have t2 : f_X11_thingOf (o3 j) 0 V = some _ := mw_thing (a := 0) (by omega) (by omega)
    have fin : ∀ c', ∃ r W, lp_X11_meetings_95 (o3 i) (o3 j) p3 (o3 m) p5 p6 p7 p8 K nn c' (o3 (k + 1)) V = K r W ∧ (∃ h', mJ F E n h' W) ∧ eMm T W := fun c' => by
      obtain ⟨r', W, y1, y2, y3⟩ := ih (k + 1) nn c' (h + 1) V (by omega) (by omega) (by omega) hIV
      exact ⟨r', W, y1, y2, (u3.tr (eMm_I v3)).tr y3⟩
    have u1 := (show lp_X11_meetings_105 (o3 i) (o3 j) p3 (o3 m) p5 p6 p7 p8 c (o3 k) _ FU (0 : Int32) T = _ from u1)
    rw [u1, v1, bd_some, t1, bd_some, bd_some, t2, bd_some]
    split
    · exact fin _
    · split
      · exact fin _
      · exact fin _
theorem mk_2 {K : fS → Option fS} : ∀ d k nn (S : fS), k + d = 158 → d < nn → (∀ j, j < k → S.1 159 j = S.1 157 j) → ∃ T, lp_X11_keeps_2 K nn (o3 k) S = K T ∧ (∀ j, j < 158 → T.1 159 j = S.1 157 j) ∧ (∀ a j, a ≠ 159 → T.1 a j = S.1 a j) ∧ T.2 = S.2 := by
  intro d
  induction d with
  | zero =>
    intro k nn S hk hnn h
    obtain ⟨nn, rfl⟩ : ∃ z, nn = z + 1 := ⟨nn - 1, by omega⟩
    rw [lp_X11_keeps_2.eq_2, if_pos (show (158 : Int32) ≤ o3 k from (o3_le (a := 158) (by omega) (by omega)).mpr (by omega))]
    exact ⟨S, rfl, fun j hj => h j (by omega), fun _ _ _ => rfl, rfl⟩
  | succ d ih =>
    intro k nn S hk hnn h
    obtain ⟨nn, rfl⟩ : ∃ z, nn = z + 1 := ⟨nn - 1, by omega⟩
    rw [lp_X11_keeps_2.eq_2, if_neg (show ¬ (158 : Int32) ≤ o3 k from fun q => by have := (o3_le (a := 158) (by omega) (by omega)).mp q; omega), gI_o (by omega) (by omega), bd_some, sI_o (by omega) (by omega), bd_some, o3_s]
    obtain ⟨T, t1, t2, t3, t4⟩ := ih (k + 1) nn (pI S 159 k (S.1 157 k)) (by omega) (by omega) (fun j hj => by
      rw [pI_ne (a := 159) (b := 157) (by omega)]
      by_cases e : j = k
      · rw [e, pI_eq]
      · rw [pI_ne (by omega)]; exact h j (by omega))
    exact ⟨T, t1, fun j hj => by rw [t2 j hj, pI_ne (by omega)], fun a j ha => by rw [t3 a j ha, pI_ne (by omega)], t4⟩
theorem mk_29 {K : fS → Option fS} : ∀ d k nn (S : fS), k + d = 8 → d < nn → (∀ j, j < k → S.2 160 j = S.2 158 j) → ∃ T, lp_X11_keeps_29 K nn (o3 k) S = K T ∧ (∀ j, j < 8 → T.2 160 j = S.2 158 j) ∧ (∀ a j, a ≠ 160 → T.2 a j = S.2 a j) ∧ T.1 = S.1 := by
  intro d
  induction d with
  | zero =>
    intro k nn S hk hnn h
    obtain ⟨nn, rfl⟩ : ∃ z, nn = z + 1 := ⟨nn - 1, by omega⟩
    rw [lp_X11_keeps_29.eq_2, if_pos (show (8 : Int32) ≤ o3 k from (o3_le (a := 8) (by omega) (by omega)).mpr (by omega))]
    exact ⟨S, rfl, fun j hj => h j (by omega), fun _ _ _ => rfl, rfl⟩
  | succ d ih =>
    intro k nn S hk hnn h
    obtain ⟨nn, rfl⟩ : ∃ z, nn = z + 1 := ⟨nn - 1, by omega⟩
    rw [lp_X11_keeps_29.eq_2, if_neg (show ¬ (8 : Int32) ≤ o3 k from fun q => by have := (o3_le (a := 8) (by omega) (by omega)).mp q; omega), gL_o (by omega) (by omega), bd_some, sL_o (by omega) (by omega), bd_some, o3_s]
    obtain ⟨T, t1, t2, t3, t4⟩ := ih (k + 1) nn (pL S 160 k (S.2 158 k)) (by omega) (by omega) (fun j hj => by
      rw [pL_ne (a := 160) (b := 158) (by omega)]
      by_cases e : j = k
      · rw [e, pL_eq]
      · rw [pL_ne (by omega)]; exact h j (by omega))
    exact ⟨T, t1, fun j hj => by rw [t2 j hj, pL_ne (by omega)], fun a j ha => by rw [t3 a j ha, pL_ne (by omega)], t4⟩
theorem mb_2 {K : fS → Option fS} : ∀ d k nn (S : fS), k + d = 158 → d < nn → (∀ j, j < k → S.1 157 j = S.1 159 j) → ∃ T, lp_X11_putsBack_2 K nn (o3 k) S = K T ∧ (∀ j, j < 158 → T.1 157 j = S.1 159 j) ∧ (∀ a j, a ≠ 157 → T.1 a j = S.1 a j) ∧ T.2 = S.2 := by
  intro d
  induction d with
  | zero =>
    intro k nn S hk hnn h
    obtain ⟨nn, rfl⟩ : ∃ z, nn = z + 1 := ⟨nn - 1, by omega⟩
    rw [lp_X11_putsBack_2.eq_2, if_pos (show (158 : Int32) ≤ o3 k from (o3_le (a := 158) (by omega) (by omega)).mpr (by omega))]
    exact ⟨S, rfl, fun j hj => h j (by omega), fun _ _ _ => rfl, rfl⟩
  | succ d ih =>
    intro k nn S hk hnn h
    obtain ⟨nn, rfl⟩ : ∃ z, nn = z + 1 := ⟨nn - 1, by omega⟩
    rw [lp_X11_putsBack_2.eq_2, if_neg (show ¬ (158 : Int32) ≤ o3 k from fun q => by have := (o3_le (a := 158) (by omega) (by omega)).mp q; omega), gI_o (by omega) (by omega), bd_some, sI_o (by omega) (by omega), bd_some, o3_s]
    obtain ⟨T, t1, t2, t3, t4⟩ := ih (k + 1) nn (pI S 157 k (S.1 159 k)) (by omega) (by omega) (fun j hj => by
      rw [pI_ne (a := 157) (b := 159) (by omega)]
      by_cases e : j = k
      · rw [e, pI_eq]
      · rw [pI_ne (by omega)]; exact h j (by omega))
    exact ⟨T, t1, fun j hj => by rw [t2 j hj, pI_ne (by omega)], fun a j ha => by rw [t3 a j ha, pI_ne (by omega)], t4⟩
theorem mb_29 {K : fS → Option fS} : ∀ d k nn (S : fS), k + d = 8 → d < nn → (∀ j, j < k → S.2 158 j = S.2 160 j) → ∃ T, lp_X11_putsBack_29 K nn (o3 k) S = K T ∧ (∀ j, j < 8 → T.2 158 j = S.2 160 j) ∧ (∀ a j, a ≠ 158 → T.2 a j = S.2 a j) ∧ T.1 = S.1 := by
  intro d
  induction d with
  | zero =>
    intro k nn S hk hnn h
    obtain ⟨nn, rfl⟩ : ∃ z, nn = z + 1 := ⟨nn - 1, by omega⟩
    rw [lp_X11_putsBack_29.eq_2, if_pos (show (8 : Int32) ≤ o3 k from (o3_le (a := 8) (by omega) (by omega)).mpr (by omega))]
    exact ⟨S, rfl, fun j hj => h j (by omega), fun _ _ _ => rfl, rfl⟩
  | succ d ih =>
    intro k nn S hk hnn h
    obtain ⟨nn, rfl⟩ : ∃ z, nn = z + 1 := ⟨nn - 1, by omega⟩
    rw [lp_X11_putsBack_29.eq_2, if_neg (show ¬ (8 : Int32) ≤ o3 k from fun q => by have := (o3_le (a := 8) (by omega) (by omega)).mp q; omega), gL_o (by omega) (by omega), bd_some, sL_o (by omega) (by omega), bd_some, o3_s]
    obtain ⟨T, t1, t2, t3, t4⟩ := ih (k + 1) nn (pL S 158 k (S.2 160 k)) (by omega) (by omega) (fun j hj => by
      rw [pL_ne (a := 158) (b := 160) (by omega)]
      by_cases e : j = k
      · rw [e, pL_eq]
      · rw [pL_ne (by omega)]; exact h j (by omega))
    exact ⟨T, t1, fun j hj => by rw [t2 j hj, pL_ne (by omega)], fun a j ha => by rw [t3 a j ha, pL_ne (by omega)], t4⟩
theorem m_keep {S : fS} : ∃ T, f_X11_keeps S = some T ∧ (∀ j, j < 158 → T.1 159 j = S.1 157 j) ∧ (∀ j, j < 8 → T.2 160 j = S.2 158 j) ∧ (∀ a j, a ≠ 159 → T.1 a j = S.1 a j) ∧ (∀ a j, a ≠ 160 → T.2 a j = S.2 a j) := by
  obtain ⟨T, t1, t2, t3, t4⟩ := mk_2 (K := fun S8 => lp_X11_keeps_29 (fun S17 => some S17) FU (0 : Int32) S8) 158 0 FU S (by omega) (FU_lt (by omega)) (fun j hj => absurd hj (Nat.not_lt_zero _))
  obtain ⟨U, u1, u2, u3, u4⟩ := mk_29 (K := fun S17 => some S17) 8 0 FU T (by omega) (FU_lt (by omega)) (fun j hj => absurd hj (Nat.not_lt_zero _))
  exact ⟨U, t1.trans u1, fun j hj => by rw [u4]; exact t2 j hj, fun j hj => by rw [u2 j hj, t4], fun a j ha => by rw [u4]; exact t3 a j ha, fun a j ha => by rw [u3 a j ha, t4]⟩
theorem m_putb {S : fS} : ∃ T, f_X11_putsBack S = some T ∧ (∀ j, j < 158 → T.1 157 j = S.1 159 j) ∧ (∀ j, j < 8 → T.2 158 j = S.2 160 j) ∧ (∀ a j, a ≠ 157 → T.1 a j = S.1 a j) ∧ (∀ a j, a ≠ 158 → T.2 a j = S.2 a j) := by
  obtain ⟨T, t1, t2, t3, t4⟩ := mb_2 (K := fun S8 => lp_X11_putsBack_29 (fun S17 => some S17) FU (0 : Int32) S8) 158 0 FU S (by omega) (FU_lt (by omega)) (fun j hj => absurd hj (Nat.not_lt_zero _))
  obtain ⟨U, u1, u2, u3, u4⟩ := mb_29 (K := fun S17 => some S17) 8 0 FU T (by omega) (FU_lt (by omega)) (fun j hj => absurd hj (Nat.not_lt_zero _))
  exact ⟨U, t1.trans u1, fun j hj => by rw [u4]; exact t2 j hj, fun j hj => by rw [u2 j hj, t4], fun a j ha => by rw [u4]; exact t3 a j ha, fun a j ha => by rw [u3 a j ha, t4]⟩
/-- kept, and what stays as it was -/
def eMk (S T : fS) : Prop := (∀ j, j < 158 → T.1 157 j = S.1 157 j) ∧ (∀ j, j < 8 → T.2 158 j = S.2 158 j) ∧ (∀ j, j < 158 → T.1 159 j = S.1 157 j) ∧ (∀ j, j < 8 → T.2 160 j = S.2 158 j) ∧ (∀ a k, a ≠ 157 → a ≠ 159 → ¬ (a = 145 ∧ k = 23) → T.1 a k = S.1 a k) ∧ (∀ a k, a ≠ 155 → a ≠ 156 → a ≠ 158 → a ≠ 160 → ¬ (a = 145 ∧ k = 37) → T.2 a k = S.2 a k)
theorem cwM_k {I J : Nat → Int32} {A B : Nat → Int64} {C : Cw} (h8 : C.1 ≤ 8) (h : cwM I A C) (h1 : ∀ k, k < 158 → J k = I k) (h2 : ∀ k, k < 8 → B k = A k) : cwM J B C := by
  refine ⟨(h1 _ (by omega)).trans h.1, (h1 _ (by omega)).trans h.2.1, fun k hk => ?_⟩
  obtain ⟨a, b, c, d, e⟩ := h.2.2 k hk
  exact ⟨(h1 _ (by omega)).trans a, (h1 _ (by omega)).trans b, (h1 _ (by omega)).trans c, (h1 _ (by omega)).trans d, (h2 _ (by omega)).trans e⟩
theorem mm_83r {S : fS} {n h : Nat} {p5 : Int32} (hF : ∀ q ∈ F, okF q) (hE : ∀ q ∈ E, okS F.length q) (hm : F.length ≤ 10) (hl : E.length ≤ 12) {i j m r : Nat} (hi : i < n) (hj : j < n) (hm2 : m ≤ 200) (hr : r < 2147483648) (h9 : h ≤ 9999) {C : Cw} (c1 : C.1 = n) (c2 : C.2.1 = h) (c3 : okD F.length E C) (c4 : cwM (S.1 157) (S.2 158) C) (c5 : twM (S.1 157) F E) {K : Int32 → Int32 → fS → Option (Int32 × fS)} : ∀ d k nn (x y : Int32) T, k + d = r → d < nn → (∃ x, x < 2147483648 ∧ T.2 145 37 = o6 x) → eMk S T → ∃ x' y' U, lp_X11_meetings_83 (o3 i) (o3 j) (o3 r) (o3 m) p5 K nn x y (o3 k) T = K x' y' U ∧ eMk S U := by
  intro d
  induction d with
  | zero =>
    intro k nn x y T hk hnn hx hT
    obtain ⟨nn, rfl⟩ : ∃ z, nn = z + 1 := ⟨nn - 1, by omega⟩
    rw [lp_X11_meetings_83.eq_2, if_pos ((o3_le (by omega) (by omega)).mpr (by omega))]
    exact ⟨x, y, T, rfl, hT⟩
  | succ d ih =>
    intro k nn x y T hk hnn hx hT
    obtain ⟨nn, rfl⟩ : ∃ z, nn = z + 1 := ⟨nn - 1, by omega⟩
    have h8 := c3.1
    rw [lp_X11_meetings_83.eq_2, if_neg (fun q => by have := (o3_le (by omega) (by omega)).mp q; omega), o3_s]
    have hI : mJ F E n h T := ⟨twM_eq hm hl c5 (fun k hk => hT.1 k (by omega)), hx, C, c1, c2, c3, cwM_k c3.1 c4 hT.1 hT.2.1⟩
    obtain ⟨u, U, u1, ⟨h', u2⟩, u3⟩ := mm_95 (p3 := o3 r) (p5 := p5) (p6 := x) (p7 := y) (p8 := o3 k) hF hE hm hl hi hj (m := m) (by omega) (K := (fun u56 S57 => if u56 ≤ (0 : Int32) then ((f_X11_putsBack  S57).bind fun q60 =>
    lp_X11_meetings_83 (o3 i) (o3 j) (o3 r) (o3 m) p5 K nn (x + u56) (y + (0 : Int32)) (o3 (k + 1)) q60) else
    ((f_X11_putsBack  S57).bind fun q63 =>
    lp_X11_meetings_83 (o3 i) (o3 j) (o3 r) (o3 m) p5 K nn (x + u56) (y + (1 : Int32)) (o3 (k + 1)) q63))) m 0 FU 0 h T (by omega) (FU_lt (by omega)) (by omega) hI
    obtain ⟨V, v1, v2, v3, v4, v5⟩ := m_putb (S := U)
    have k1 : ∀ j, j < 158 → U.1 159 j = S.1 157 j := fun j hj => (u3.1 _ _ (by omega) (by omega)).trans (hT.2.2.1 j hj)
    have k2 : ∀ j, j < 8 → U.2 160 j = S.2 158 j := fun j hj => (u3.2 _ _ (by omega) (by omega) (by omega) (by omega)).trans (hT.2.2.2.1 j hj)
    have hV : eMk S V := ⟨fun j hj => (v2 j hj).trans (k1 j hj), fun j hj => (v3 j hj).trans (k2 j hj), fun j hj => (v4 _ _ (by omega)).trans (k1 j hj), fun j hj => (v5 _ _ (by omega)).trans (k2 j hj), fun a k x y z => (v4 a k x).trans ((u3.1 a k (by omega) z).trans (hT.2.2.2.2.1 a k x y z)), fun a k x y z w q => (v5 a k z).trans ((u3.2 a k x y z q).trans (hT.2.2.2.2.2 a k x y z w q))⟩
    have hxV : ∃ x, x < 2147483648 ∧ V.2 145 37 = o6 x := by
      obtain ⟨x, x1, x2⟩ := u2.2.1
      exact ⟨x, x1, (v5 _ _ (by omega)).trans x2⟩
    have u1 := (show lp_X11_meetings_95 (o3 i) (o3 j) (o3 r) (o3 m) p5 x y (o3 k) _ FU (0 : Int32) (0 : Int32) T = _ from u1)
    rw [u1, v1, bd_some, bd_some]
    split
    · exact ih (k + 1) nn _ _ V (by omega) (by omega) hxV hV
    · exact ih (k + 1) nn _ _ V (by omega) (by omega) hxV hV
end MMT
end
section
theorem if1z {p : Prop} [Decidable p] {α : Type} {A B : α} : (if (if p then (1 : Int32) else 0) = 0 then A else B) = if p then B else A := by
  by_cases h : p
  · rw [if_pos h, if_pos h, if_neg (by decide)]
  · rw [if_neg h, if_neg h, if_pos rfl]
/-- the class: so many tries -/
theorem cm_66 {F : List (Nat × Nat)} {E : List St5} {n h : Nat} {p5 : Int32} (hF : ∀ q ∈ F, okF q) (hE : ∀ q ∈ E, okS F.length q) (hm : F.length ≤ 10) (hl : E.length ≤ 12) {i j m r : Nat} (hi : i < n) (hj : j < n) (hm2 : m ≤ 200) (hr : r < 2147483648) (h9 : h ≤ 9999) {C : Cw} (c1 : C.1 = n) (c2 : C.2.1 = h) (c3 : okD F.length E C) {K : Int32 → Int32 → fS → Option (Int32 × fS)} : ∀ d k nn (x y : Int32) T, k + d = r → d < nn → cwC T 11 C → twC T 4 F E → 0 ≤ (T.1 3 3).toInt → ∃ x' y' U, lp_X10_meetings_66 (o3 i) (o3 j) (o3 r) (o3 m) p5 K nn x y (o3 k) T = K x' y' U ∧ 0 ≤ (U.1 3 3).toInt ∧ eMt T U := by
  intro d
  induction d with
  | zero =>
    intro k nn x y T hk hnn c4 hT hx
    obtain ⟨nn, rfl⟩ : ∃ z, nn = z + 1 := ⟨nn - 1, by omega⟩
    rw [lp_X10_meetings_66.eq_2, if_pos ((o3_le (by omega) (by omega)).mpr (by omega))]
    exact ⟨x, y, T, rfl, hx, eMt.rf⟩
  | succ d ih =>
    intro k nn x y T hk hnn c4 hT hx
    obtain ⟨nn, rfl⟩ : ∃ z, nn = z + 1 := ⟨nn - 1, by omega⟩
    obtain ⟨q, U, u1, u2, u3, u4, u5⟩ := cm_met hF hE hm hl hi hj hm2 c1 c2 h9 c3 c4 hT hx
    rw [lp_X10_meetings_66.eq_2, if_neg (fun q => by have := (o3_le (by omega) (by omega)).mp q; omega), u1, bd_some, o3_s]
    split
    · obtain ⟨x', y', V, v1, v2, v3⟩ := ih (k + 1) nn (x + q) (y + 0) U (by omega) (by omega) u2 u3 u4
      exact ⟨x', y', V, v1, v2, u5.tr v3⟩
    · obtain ⟨x', y', V, v1, v2, v3⟩ := ih (k + 1) nn (x + q) (y + 1) U (by omega) (by omega) u2 u3 u4
      exact ⟨x', y', V, v1, v2, u5.tr v3⟩
theorem t_33 (a1 a2 a3 a4 a5 : Int32) (S : fS) (hR : Rel S) : ∃ r r' S1 S2, f_X10_meetings a1 a2 a3 a4 a5 S = some (r, S1) ∧ f_X11_meetings a1 a2 a3 a4 a5 S1 = some (r', S2) ∧ Rel S2 := by
  have hR0 := hR
  obtain ⟨n', s, L, M, hT, hS, hL, hM⟩ := hR
  have hS0 := hS
  obtain ⟨⟨n1, n2, n3, n4, n5, n6⟩, ⟨b1, b2, b3, b4, b5⟩, ⟨m1, m2, m3, m4⟩, d⟩ := hS
  have h8 := n5.1
  have i1 : f_X10_isFrom a5 0 1 S = some (if ((0 : Nat) : Int) ≤ a5.toInt ∧ a5.toInt ≤ ((1 : Nat) : Int) then 1 else 0) := from_c (a := 0) (b := 1) (by omega) (by omega)
  have i2 : f_X10_isFrom a3 1 20 S = some (if ((1 : Nat) : Int) ≤ a3.toInt ∧ a3.toInt ≤ ((20 : Nat) : Int) then 1 else 0) := from_c (a := 1) (b := 20) (by omega) (by omega)
  have i3 : f_X10_isFrom a4 1 200 S = some (if ((1 : Nat) : Int) ≤ a4.toInt ∧ a4.toInt ≤ ((200 : Nat) : Int) then 1 else 0) := from_c (a := 1) (b := 200) (by omega) (by omega)
  have j1 : ∀ T : fS, f_X11_in (Int32.toInt64 a5) 0 1 T = some (if ((0 : Nat) : Int) ≤ a5.toInt ∧ a5.toInt ≤ ((1 : Nat) : Int) then 1 else 0) := fun T => in_c (a := 0) (b := 1) (by omega) (by omega)
  have j2 : ∀ T : fS, f_X11_in (Int32.toInt64 a3) 1 20 T = some (if ((1 : Nat) : Int) ≤ a3.toInt ∧ a3.toInt ≤ ((20 : Nat) : Int) then 1 else 0) := fun T => in_c (a := 1) (b := 20) (by omega) (by omega)
  have j3 : ∀ T : fS, f_X11_in (Int32.toInt64 a4) 1 200 T = some (if ((1 : Nat) : Int) ≤ a4.toInt ∧ a4.toInt ≤ ((200 : Nat) : Int) then 1 else 0) := fun T => in_c (a := 1) (b := 200) (by omega) (by omega)
  have no : f_X10_meetings a1 a2 a3 a4 a5 S = some (-1, S) → f_X11_meetings a1 a2 a3 a4 a5 S = some (-1, S) → ∃ r r' S1 S2, f_X10_meetings a1 a2 a3 a4 a5 S = some (r, S1) ∧ f_X11_meetings a1 a2 a3 a4 a5 S1 = some (r', S2) ∧ Rel S2 := fun h g => ⟨-1, -1, S, S, h, g, hR0⟩
  have n1z : ¬ (1 : Int32) = 0 := by decide
  by_cases h1 : ¬ (0 ≤ a1.toInt ∧ a1.toInt < s.2.2.1.1)
  · refine no ?_ ?_
    · unfold f_X10_meetings; rw [ci_thing b3.1 (by omega), bd_some, if_neg h1, if_pos rfl]
    · unfold f_X11_meetings; rw [mi_thing m2.1 (by omega), bd_some, if_neg h1, if_pos rfl]
  have h1 := Decidable.not_not.mp h1
  by_cases h2 : ¬ (0 ≤ a2.toInt ∧ a2.toInt < s.2.2.1.1)
  · refine no ?_ ?_
    · unfold f_X10_meetings; rw [ci_thing b3.1 (by omega), bd_some, if_pos h1, if_neg n1z, ci_thing b3.1 (by omega), bd_some, if_neg h2, if_pos rfl]
    · unfold f_X11_meetings; rw [mi_thing m2.1 (by omega), bd_some, if_pos h1, if_neg n1z, mi_thing m2.1 (by omega), bd_some, if_neg h2, if_pos rfl]
  have h2 := Decidable.not_not.mp h2
  by_cases h3 : a1 = a2
  · refine no ?_ ?_
    · unfold f_X10_meetings; rw [ci_thing b3.1 (by omega), bd_some, if_pos h1, if_neg n1z, ci_thing b3.1 (by omega), bd_some, if_pos h2, if_neg n1z, if_pos h3]
    · unfold f_X11_meetings; rw [mi_thing m2.1 (by omega), bd_some, if_pos h1, if_neg n1z, mi_thing m2.1 (by omega), bd_some, if_pos h2, if_neg n1z, if_pos h3]
  have cP : f_X10_meetings a1 a2 a3 a4 a5 S = if ((0 : Nat) : Int) ≤ a5.toInt ∧ a5.toInt ≤ ((1 : Nat) : Int) then (if ((1 : Nat) : Int) ≤ a3.toInt ∧ a3.toInt ≤ ((20 : Nat) : Int) then (if ((1 : Nat) : Int) ≤ a4.toInt ∧ a4.toInt ≤ ((200 : Nat) : Int) then (lp_X10_meetings_66 a1 a2 a3 a4 a5 (fun u27 u28 S29 => if a5 = (0 : Int32) then (some (u27, S29)) else (some (u28, S29))) FU (0 : Int32) (0 : Int32) (0 : Int32) S) else some (-1, S)) else some (-1, S)) else some (-1, S) := by
    unfold f_X10_meetings; rw [ci_thing b3.1 (by omega), bd_some, if_pos h1, if_neg n1z, ci_thing b3.1 (by omega), bd_some, if_pos h2, if_neg n1z, if_neg h3, i1, bd_some, i2, bd_some, i3, bd_some]
    rw [if1z, if1z, if1z]
  have mP : ∀ T : fS, T.1 157 2 = S.1 157 2 → f_X11_meetings a1 a2 a3 a4 a5 T = if ((1 : Nat) : Int) ≤ a3.toInt ∧ a3.toInt ≤ ((20 : Nat) : Int) then (if ((1 : Nat) : Int) ≤ a4.toInt ∧ a4.toInt ≤ ((200 : Nat) : Int) then (if ((0 : Nat) : Int) ≤ a5.toInt ∧ a5.toInt ≤ ((1 : Nat) : Int) then ((f_X11_keeps T).bind fun q22 => (gI q22 157 158 (5 : Int32)).bind fun a25 => (some (pL q22 145 37 (Int32.toInt64 a25))).bind fun S28 => lp_X11_meetings_83 a1 a2 a3 a4 a5 (fun u66 u67 S68 => if a5 = (0 : Int32) then (some (u66, S68)) else (some (u67, S68))) FU (0 : Int32) (0 : Int32) (0 : Int32) S28) else some (-1, T)) else some (-1, T)) else some (-1, T) := fun T hTT => by
    unfold f_X11_meetings; rw [mi_thing (hTT.trans m2.1) (by omega), bd_some, if_pos h1, if_neg n1z, mi_thing (hTT.trans m2.1) (by omega), bd_some, if_pos h2, if_neg n1z, if_neg h3, j2, bd_some, j3, bd_some, j1, bd_some]
    rw [if1z, if1z, if1z]
  by_cases g5 : ¬ (((0 : Nat) : Int) ≤ a5.toInt ∧ a5.toInt ≤ ((1 : Nat) : Int))
  · refine no (by rw [cP, if_neg g5]) ?_
    rw [mP S rfl, if_neg g5]
    split
    · split
      · rfl
      · rfl
    · rfl
  have g5 := Decidable.not_not.mp g5
  by_cases g3 : ¬ (((1 : Nat) : Int) ≤ a3.toInt ∧ a3.toInt ≤ ((20 : Nat) : Int))
  · exact no (by rw [cP, if_pos g5, if_neg g3]) (by rw [mP S rfl, if_neg g3])
  have g3 := Decidable.not_not.mp g3
  by_cases g4 : ¬ (((1 : Nat) : Int) ≤ a4.toInt ∧ a4.toInt ≤ ((200 : Nat) : Int))
  · exact no (by rw [cP, if_pos g5, if_pos g3, if_neg g4]) (by rw [mP S rfl, if_pos g3, if_neg g4])
  have g4 := Decidable.not_not.mp g4
  rw [if_pos g5, if_pos g3, if_pos g4] at cP
  obtain ⟨i, e1, e2⟩ := o3_ex h1.1
  obtain ⟨j, e3, e4⟩ := o3_ex h2.1
  obtain ⟨r, e5, e6⟩ := o3_ex (x := a3) (by omega)
  obtain ⟨m, e7, e8⟩ := o3_ex (x := a4) (by omega)
  obtain ⟨x', y', S1, u1, u2, u3⟩ := cm_66 (p5 := a5) (n := s.2.2.1.1) (h := s.2.2.1.2.1) n3 n4 n1 n2 (i := i) (j := j) (m := m) (r := r) (by omega) (by omega) (by omega) (by omega) n5.2.1 rfl rfl (okD_of n5) (K := fun u27 u28 S29 => if a5 = (0 : Int32) then (some (u27, S29)) else (some (u28, S29))) r 0 FU 0 0 S (by omega) (FU_lt (by omega)) b3 b1 b5
  have k157 : S1.1 157 = S.1 157 := funext fun k => u3.1 157 k (by omega) (by omega)
  have k158 : S1.2 158 = S.2 158 := funext fun k => u3.2 158 k (by omega)
  obtain ⟨T, t1, t2, t3, t4, t5⟩ := m_keep (S := S1)
  obtain ⟨x5, e9, e10⟩ := o3_ex (x := S.1 157 5) m4
  have hx5 : x5 < 2147483648 := by
    have := (S.1 157 5).toInt_lt
    omega
  have gk : gI T 157 158 5 = some (o3 x5) := (gI_o (k := 5) (by omega) (by omega)).trans (congrArg some ((t4 157 5 (by omega)).trans ((congrFun k157 5).trans e9)))
  have ek : eMk S1 (pL T 145 37 (o6 x5)) := ⟨fun j hj => t4 157 j (by omega), fun j hj => by rw [pL_ne (by omega)]; exact t5 158 j (by omega), t2, fun j hj => by rw [pL_ne (by omega)]; exact t3 j hj, fun a k x y _ => t4 a k y, fun a k _ _ _ y z => by rw [pL_ne z]; exact t5 a k y⟩
  obtain ⟨x'', y'', S2, w1, w2⟩ := mm_83r (S := S1) (p5 := a5) (n := s.2.2.1.1) (h := s.2.2.1.2.1) n3 n4 n1 n2 (i := i) (j := j) (m := m) (r := r) (by omega) (by omega) (by omega) (by omega) n5.2.1 rfl rfl (okD_of n5) (by rw [k157, k158]; exact m2) (by rw [k157]; exact m1) (K := fun u66 u67 S68 => if a5 = (0 : Int32) then (some (u66, S68)) else (some (u67, S68))) r 0 FU 0 0 (pL T 145 37 (o6 x5)) (by omega) (FU_lt (by omega)) ⟨x5, hx5, pL_eq⟩ ek
  have hc : ∃ q, f_X10_meetings a1 a2 a3 a4 a5 S = some (q, S1) := by
    rw [cP, e1, e3, e5, e7]
    by_cases z : a5 = 0
    · exact ⟨x', u1.trans (if_pos z)⟩
    · exact ⟨y', u1.trans (if_neg z)⟩
  have hmm : ∃ q, f_X11_meetings a1 a2 a3 a4 a5 S1 = some (q, S2) := by
    rw [mP S1 (congrFun k157 2), if_pos g3, if_pos g4, if_pos g5, t1, bd_some, gk, bd_some, bd_some, o6_of3 hx5, e1, e3, e5, e7]
    by_cases z : a5 = 0
    · exact ⟨x'', w1.trans (if_pos z)⟩
    · exact ⟨y'', w1.trans (if_neg z)⟩
  obtain ⟨q, hq⟩ := hc
  obtain ⟨q', hq'⟩ := hmm
  have f1 : ∀ a k, ¬ (31 ≤ a ∧ a ≤ 36) → ¬ (a = 3 ∧ k = 3) → a ≠ 157 → a ≠ 159 → ¬ (a = 145 ∧ k = 23) → S2.1 a k = S.1 a k := fun a k x y z w v => (w2.2.2.2.2.1 a k z w v).trans (u3.1 a k x y)
  have f2 : ∀ a k, ¬ (31 ≤ a ∧ a ≤ 36) → a ≠ 155 → a ≠ 156 → a ≠ 158 → a ≠ 160 → ¬ (a = 145 ∧ k = 37) → S2.2 a k = S.2 a k := fun a k x y z w v q => (w2.2.2.2.2.2 a k y z w v q).trans (u3.2 a k x)
  refine ⟨q, q', S1, S2, hq, hq', n', s, L, M, ?_, ⟨⟨n1, n2, n3, n4, n5, n6⟩, ?_, ?_, ?_⟩, ?_, ?_⟩
  · exact rTp_eq hT (f1 _ _ (by omega) (by omega) (by omega) (by omega) (by omega)) (f1 _ _ (by omega) (by omega) (by omega) (by omega) (by omega)) (fun k => f1 _ _ (by omega) (by omega) (by omega) (by omega) (by omega)) (fun k => f1 _ _ (by omega) (by omega) (by omega) (by omega) (by omega))
  · exact scC_eq hS0.2.1 (fun a k _ _ => f1 _ _ (by omega) (by omega) (by omega) (by omega) (by omega)) (fun a k _ _ => f2 _ _ (by omega) (by omega) (by omega) (by omega) (by omega) (by omega)) (by rw [w2.2.2.2.2.1 3 3 (by omega) (by omega) (by omega)]; exact u2)
  · exact scM_cg hS0.1 hS0.2.2.1 (fun k hk => (w2.1 k hk).trans (congrFun k157 k)) (fun k hk => (w2.2.1 k hk).trans (congrFun k158 k))
  · exact rHm_eq d (fun k => f2 _ _ (by omega) (by omega) (by omega) (by omega) (by omega) (by omega))
  · exact rRu_eq hL (f1 _ _ (by omega) (by omega) (by omega) (by omega) (by omega)) (f1 _ _ (by omega) (by omega) (by omega) (by omega) (by omega)) (fun a k _ _ _ => f1 _ _ (by omega) (by omega) (by omega) (by omega) (by omega)) (fun a k _ => f1 _ _ (by omega) (by omega) (by omega) (by omega) (by omega))
  · exact rIm_eq hM (fun a k _ _ => f1 _ _ (by omega) (by omega) (by omega) (by omega) (by omega)) (fun a k _ _ => f2 _ _ (by omega) (by omega) (by omega) (by omega) (by omega) (by omega)) (fun k => f1 _ _ (by omega) (by omega) (by omega) (by omega) (by omega)) (fun k => f2 _ _ (by omega) (by omega) (by omega) (by omega) (by omega) (by omega)) (fun k => f1 _ _ (by omega) (by omega) (by omega) (by omega) (by omega))
end
section
/-! ripe(): the class goes on -/
def eRp (S T : fS) : Prop := (∀ a k, ¬ (45 ≤ a ∧ a ≤ 50) → T.1 a k = S.1 a k) ∧ (∀ a k, ¬ (45 ≤ a ∧ a ≤ 50) → T.2 a k = S.2 a k)
theorem eRp.rf {S : fS} : eRp S S := ⟨fun _ _ _ => rfl, fun _ _ _ => rfl⟩
theorem eRp.tr {S T U : fS} (h : eRp S T) (g : eRp T U) : eRp S U := ⟨fun a k x => (g.1 a k x).trans (h.1 a k x), fun a k x => (g.2 a k x).trans (h.2 a k x)⟩
def okW (T : fS) (i : Nat) : Prop := ∀ j, j ≤ i → ∃ s, s ≤ 4000 ∧ T.1 47 j = o3 s
def okq (T : fS) : Prop := ∃ q, q ≤ 13 ∧ T.1 45 6 = o3 q ∧ ∀ k, k < q → ∃ a b, a ≤ 4000 ∧ b ≤ 4000 ∧ T.1 48 k = o3 a ∧ T.1 49 k = o3 b
def okr (T : fS) (c : Nat) : Prop := T.1 45 5 = o3 c ∧ c ≤ 4000
theorem okW_eq {T U : fS} {i : Nat} (h : okW T i) (g : ∀ k, U.1 47 k = T.1 47 k) : okW U i := fun j hj => by
  obtain ⟨s, s1, s2⟩ := h j hj
  exact ⟨s, s1, (g j).trans s2⟩
theorem k_keep {T : fS} {c st : Nat} {x : Int64} (hc : okr T c) (hs : st ≤ c) : ∃ r U c', f_X3_keep (o3 st) x T = some (r, U) ∧ okr U c' ∧ c ≤ c' ∧ (∀ a k, ¬ (a = 45 ∧ k = 5) → U.1 a k = T.1 a k) ∧ (∀ a k, a ≠ 46 → U.2 a k = T.2 a k) := by
  obtain ⟨hc, h4⟩ := hc
  have app : c < 4000 → ((sL T 46 4000 (o3 c) x).bind fun S3 => (some (pI S3 45 5 ((S3.1 45 5) + (1 : Int32)))).bind fun S6 => some ((1 : Int32), S6)) = some (1, pI (pL T 46 c x) 45 5 (o3 (c + 1))) := fun h => by
    rw [sL_o h (by omega), bd_some, bd_some, show (pL T 46 c x).1 45 5 = o3 c from hc, o3_s]
  have fin : ∃ r U c', (if o3 c < (4000 : Int32) then ((sL T 46 4000 (o3 c) x).bind fun S3 => (some (pI S3 45 5 ((S3.1 45 5) + (1 : Int32)))).bind fun S6 => some ((1 : Int32), S6)) else some (0, T)) = some (r, U) ∧ okr U c' ∧ c ≤ c' ∧ (∀ a k, ¬ (a = 45 ∧ k = 5) → U.1 a k = T.1 a k) ∧ (∀ a k, a ≠ 46 → U.2 a k = T.2 a k) := by
    by_cases h : c < 4000
    · rw [if_pos (show o3 c < (4000 : Int32) from (o3_lt (b := 4000) (by omega) (by omega)).mpr h), app h]
      exact ⟨1, _, c + 1, rfl, ⟨pI_eq, by omega⟩, by omega, fun a k h => pI_ne h, fun a k h => pL_ne (by omega)⟩
    · rw [if_neg (show ¬ o3 c < (4000 : Int32) from fun q => h ((o3_lt (b := 4000) (by omega) (by omega)).mp q))]
      exact ⟨0, T, c, rfl, ⟨hc, h4⟩, by omega, fun _ _ _ => rfl, fun _ _ _ => rfl⟩
  unfold f_X3_keep f_X3_ageOf
  rw [hc]
  by_cases h : c ≤ st
  · rw [if_pos ((o3_le (by omega) (by omega)).mpr h)]
    exact fin
  · rw [if_neg (fun q => h ((o3_le (by omega) (by omega)).mp q)), show o3 c - (1 : Int32) = o3 (c - 1) from by rw [show (1 : Int32) = o3 1 from rfl, o3_sub (by omega)], gL_o (by omega) (by omega), bd_some, bd_some, bd_some]
    split
    · exact ⟨1, T, c, rfl, ⟨hc, h4⟩, by omega, fun _ _ _ => rfl, fun _ _ _ => rfl⟩
    · exact fin
/-- sources: what stays -/
def eGs (S T : fS) : Prop := (∀ a k, ¬ (a = 45 ∧ k = 6) → a ≠ 48 → a ≠ 49 → T.1 a k = S.1 a k) ∧ (∀ a k, a ≠ 50 → T.2 a k = S.2 a k)
theorem eGs.rf {S : fS} : eGs S S := ⟨fun _ _ _ _ _ => rfl, fun _ _ _ => rfl⟩
theorem eGs.tr {S T U : fS} (h : eGs S T) (g : eGs T U) : eGs S U := ⟨fun a k x y z => (g.1 a k x y z).trans (h.1 a k x y z), fun a k x => (g.2 a k x).trans (h.2 a k x)⟩
theorem eRp_G {S T : fS} (h : eGs S T) : eRp S T := ⟨fun a k x => h.1 a k (by omega) (by omega) (by omega), fun a k x => h.2 a k (by omega)⟩
theorem k_add {T : fS} {i w : Nat} {x : Int64} (hW : okW T w) (hi : i + 1 ≤ w) (hw : w ≤ 170) (hq : okq T) : ∃ U, f_X3_addSource (o3 i) x T = some U ∧ okq U ∧ eGs T U := by
  obtain ⟨q, q1, q2, q3⟩ := id hq
  obtain ⟨s, s1, s2⟩ := hW i (by omega)
  obtain ⟨t, t1, t2⟩ := hW (i + 1) hi
  unfold f_X3_addSource
  rw [q2]
  by_cases h : 13 ≤ q
  · rw [if_pos (show (13 : Int32) ≤ o3 q from (o3_le (a := 13) (by omega) (by omega)).mpr h)]
    exact ⟨T, rfl, hq, eGs.rf⟩
  · rw [if_neg (show ¬ (13 : Int32) ≤ o3 q from fun z => h ((o3_le (a := 13) (by omega) (by omega)).mp z)), gI_o (by omega) (by omega), bd_some, o3_s, gI_o (by omega) (by omega), bd_some, s2, t2]
    by_cases h2 : t ≤ s
    · rw [if_pos ((o3_le (by omega) (by omega)).mpr h2)]
      exact ⟨T, rfl, hq, eGs.rf⟩
    · rw [if_neg (fun z => h2 ((o3_le (by omega) (by omega)).mp z)), bd_some, sI_o (by omega) (by omega), bd_some, gI_o (by omega) (by omega), bd_some, pI_ne (by omega), q2, pI_ne (by omega), t2, sI_o (by omega) (by omega), bd_some, pI_ne (by omega), pI_ne (by omega), q2, sL_o (by omega) (by omega), bd_some, bd_some]
      have e : (pL (pI (pI T 48 q (o3 s)) 49 q (o3 t)) 50 q x).1 45 6 = o3 q := by
        show (pI (pI T 48 q (o3 s)) 49 q (o3 t)).1 45 6 = o3 q
        rw [pI_ne (by omega), pI_ne (by omega), q2]
      rw [e, o3_s]
      refine ⟨_, rfl, ⟨q + 1, by omega, pI_eq, fun k hk => ?_⟩, fun a k x y z => ?_, fun a k x => ?_⟩
      · by_cases e : k = q
        · subst e
          refine ⟨s, t, s1, t1, ?_, ?_⟩
          · rw [pI_ne (by omega)]
            show (pI (pI T 48 k (o3 s)) 49 k (o3 t)).1 48 k = o3 s
            rw [pI_ne (by omega), pI_eq]
          · rw [pI_ne (by omega)]
            show (pI (pI T 48 k (o3 s)) 49 k (o3 t)).1 49 k = o3 t
            rw [pI_eq]
        · obtain ⟨a, b, c1, c2, c3, c4⟩ := q3 k (by omega)
          refine ⟨a, b, c1, c2, ?_, ?_⟩
          · rw [pI_ne (by omega)]
            show (pI (pI T 48 q (o3 s)) 49 q (o3 t)).1 48 k = o3 a
            rw [pI_ne (by omega), pI_ne (by omega), c3]
          · rw [pI_ne (by omega)]
            show (pI (pI T 48 q (o3 s)) 49 q (o3 t)).1 49 k = o3 b
            rw [pI_ne (by omega), pI_ne (by omega), c4]
      · rw [pI_ne (by omega)]
        show (pI (pI T 48 q (o3 s)) 49 q (o3 t)).1 a k = T.1 a k
        rw [pI_ne (by omega), pI_ne (by omega)]
      · show (pL (pI (pI T 48 q (o3 s)) 49 q (o3 t)) 50 q _).2 a k = T.2 a k
        rw [pL_ne (by omega)]
        rfl
section KR
variable {F : List (Nat × Nat)} {E : List St5}
theorem twC_R {S T : fS} (h : twC S 4 F E) (e : eRp S T) : twC T 4 F E := twC_eq h (fun a k _ _ => e.1 a k (by omega)) (fun a k _ _ => e.2 a k (by omega))
theorem idx_le {m t l o : Nat} (hl : 1 ≤ l) (hlt : l ≤ t) (ho : o < m) : (t - l) * m + o + 1 ≤ t * m := by
  obtain ⟨u, rfl⟩ : ∃ u, t = u + l := ⟨t - l, by omega⟩
  rw [Nat.add_sub_cancel, Nat.add_mul]
  have : 1 * m ≤ l * m := Nat.mul_le_mul_right m hl
  omega
theorem k_37 (hE : ∀ q ∈ E, okS F.length q) (hm : F.length ≤ 10) (hl : E.length ≤ 12) {t p w : Nat} (ht : t ≤ 16) (hp : p < F.length) (hw : w ≤ 170) (hw2 : t * F.length ≤ w) {K : fS → Option fS} : ∀ d k nn T, k + d = E.length → d < nn → twC T 4 F E → okW T w → okq T → ∃ U, lp_X3_gatherSources_37 4 (o3 t) (o3 p) K nn (o3 k) T = K U ∧ okq U ∧ eGs T U := by
  intro d
  induction d with
  | zero =>
    intro k nn T hk hnn b1 hW hq
    obtain ⟨nn, rfl⟩ : ∃ z, nn = z + 1 := ⟨nn - 1, by omega⟩
    refine ⟨T, ?_, hq, eGs.rf⟩
    rw [lp_X3_gatherSources_37.eq_2, b1.2.1, if_pos ((o3_le (by omega) (by omega)).mpr (by omega))]
  | succ d ih =>
    intro k nn T hk hnn b1 hW hq
    obtain ⟨nn, rfl⟩ : ∃ z, nn = z + 1 := ⟨nn - 1, by omega⟩
    have hkl : k < E.length := by omega
    have hq' := hE _ (gd_mem (d := d5) hkl)
    have z3 : T.1 (4 + 4) k = o3 (E.getD k d5).2.2.1 := (b1.2.2.2 k hkl).2.2.1
    have h9 := hq'.2.2.2.2.1
    have h1 := hq'.2.2.2.1
    rw [lp_X3_gatherSources_37.eq_2, b1.2.1, if_neg (fun q => by have := (o3_le (by omega) (by omega)).mp q; omega), ch_other b1 hE hm hl hkl (by omega), bd_some, gI_o (by omega) (by omega), bd_some, z3, o3_s]
    rcases oe_or (a := p) hq' hm with ⟨o, o1, o2, _⟩ | ⟨o2, _⟩
    · rw [o2, if_neg (o3_nn (by omega))]
      by_cases h : t < (E.getD k d5).2.2.1
      · rw [if_pos ((o3_lt (by omega) (by omega)).mpr h)]
        exact ih (k + 1) nn T (by omega) (by omega) b1 hW hq
      · rw [if_neg (fun q => h ((o3_lt (by omega) (by omega)).mp q)), gL_o (by omega) (by omega), bd_some]
        unfold f_X3_stateOf
        have hix := idx_le (m := F.length) (t := t) (l := (E.getD k d5).2.2.1) (o := o) h1 (by omega) o1
        rw [bd_some, b1.1, o3_sub (by omega), o3_mul, o3_add]
        obtain ⟨U, u1, u2, u3⟩ := k_add (x := ((Int32.toInt64 (o3 (E.getD k d5).2.2.1) * T.2 (4 + 5) k) <<< (Int32.toInt64 (5 : Int32) &&& 63)) ||| (Int32.toInt64 (o3 (E.getD k d5).2.2.1))) hW (i := (t - (E.getD k d5).2.2.1) * F.length + o) (by omega) hw hq
        rw [u1, bd_some]
        obtain ⟨V, v1, v2, v3⟩ := ih (k + 1) nn U (by omega) (by omega) (twC_R b1 (eRp_G u3)) (okW_eq hW (fun k => u3.1 _ _ (by omega) (by omega) (by omega))) u2
        exact ⟨V, v1, v2, u3.tr v3⟩
    · rw [o2, if_pos (show (-1 : Int32) < 0 by decide)]
      exact ih (k + 1) nn T (by omega) (by omega) b1 hW hq
theorem k_ga (hE : ∀ q ∈ E, okS F.length q) (hm : F.length ≤ 10) (hl : E.length ≤ 12) {t p w : Nat} (ht : t ≤ 16) (hp : p < F.length) (hw : w ≤ 170) (hw2 : t * F.length ≤ w) {T : fS} (b1 : twC T 4 F E) (hW : okW T w) : ∃ U, f_X3_gatherSources 4 (o3 t) (o3 p) T = some U ∧ okq U ∧ eGs T U := by
  unfold f_X3_gatherSources
  have e0 : eGs T (pI T 45 6 0) := ⟨fun a k x _ _ => pI_ne x, fun _ _ _ => rfl⟩
  have q0 : okq (pI T 45 6 0) := ⟨0, by omega, pI_eq, fun k hk => absurd hk (Nat.not_lt_zero _)⟩
  have b2 := twC_R b1 (eRp_G e0)
  have hW2 : okW (pI T 45 6 0) w := okW_eq hW (fun k => pI_ne (by omega))
  rw [bd_some]
  by_cases h : t < 1
  · rw [if_pos (show o3 t < (1 : Int32) from (o3_lt (b := 1) (by omega) (by omega)).mpr h)]
    obtain ⟨U, u1, u2, u3⟩ := k_37 hE hm hl ht hp hw hw2 (K := fun S23 => some S23) E.length 0 FU _ (by omega) (FU_lt (by omega)) b2 hW2 q0
    exact ⟨U, u1, u2, e0.tr u3⟩
  · have hix := idx_le (m := F.length) (t := t) (l := 1) (o := p) (by omega) (by omega) hp
    rw [if_neg (show ¬ o3 t < (1 : Int32) from fun z => h ((o3_lt (b := 1) (by omega) (by omega)).mp z)), gL_o (by omega) (by omega), bd_some]
    unfold f_X3_stateOf
    rw [bd_some, b2.1, show (1 : Int32) = o3 1 from rfl, o3_sub (by omega), o3_mul, o3_add]
    obtain ⟨V, v1, v2, v3⟩ := k_add (x := ((pI T 45 6 0).2 (4 + 1) p <<< (Int32.toInt64 (5 : Int32) &&& 63)) ||| (Int32.toInt64 (0 : Int32))) hW2 (i := (t - 1) * F.length + p) (by omega) hw q0
    rw [v1, bd_some]
    obtain ⟨U, u1, u2, u3⟩ := k_37 hE hm hl ht hp hw hw2 (K := fun S34 => some S34) E.length 0 FU V (by omega) (FU_lt (by omega)) (twC_R b2 (eRp_G v3)) (okW_eq hW2 (fun k => v3.1 _ _ (by omega) (by omega) (by omega))) v2
    exact ⟨U, u1, u2, (e0.tr v3).tr u3⟩
end KR
def vls (T : fS) (q : Nat) (r : Int32) : Prop := r = -1 ∨ ∃ k a b, k < q ∧ r = o3 k ∧ T.1 48 k = o3 a ∧ T.1 49 k = o3 b ∧ a < b ∧ b ≤ 4000
theorem k_least {T : fS} {q : Nat} (q1 : q ≤ 13) (q2 : T.1 45 6 = o3 q) (q3 : ∀ k, k < q → ∃ a b, a ≤ 4000 ∧ b ≤ 4000 ∧ T.1 48 k = o3 a ∧ T.1 49 k = o3 b) : ∃ r, f_X3_leastSource T = some r ∧ vls T q r := by
  have key : ∀ d k nn (p1 : Int32) (p2 : Int64), k + d = q → d < nn → vls T q p1 → ∃ r, lp_X3_leastSource_7 T (fun u20 => some u20) nn p1 p2 (o3 k) = some r ∧ vls T q r := by
    intro d
    induction d with
    | zero =>
      intro k nn p1 p2 hk hnn hv
      obtain ⟨nn, rfl⟩ : ∃ z, nn = z + 1 := ⟨nn - 1, by omega⟩
      rw [lp_X3_leastSource_7.eq_2, q2, if_pos ((o3_le (by omega) (by omega)).mpr (by omega))]
      exact ⟨p1, rfl, hv⟩
    | succ d ih =>
      intro k nn p1 p2 hk hnn hv
      obtain ⟨nn, rfl⟩ : ∃ z, nn = z + 1 := ⟨nn - 1, by omega⟩
      obtain ⟨a, b, a1, b1, a2, b2⟩ := q3 k (by omega)
      rw [lp_X3_leastSource_7.eq_2, q2, if_neg (fun q => by have := (o3_le (by omega) (by omega)).mp q; omega), gI_o (by omega) (by omega), bd_some, gI_o (by omega) (by omega), bd_some, a2, b2, o3_s]
      by_cases h : a < b
      · rw [if_pos ((o3_lt (by omega) (by omega)).mpr h), bd_some, gL_o (by omega) (by omega), bd_some, gL_o (by omega) (by omega), bd_some]
        have hk' : vls T q (o3 k) := Or.inr ⟨k, a, b, by omega, rfl, a2, b2, h, b1⟩
        split
        · exact ih (k + 1) nn _ _ (by omega) (by omega) hk'
        · split
          · exact ih (k + 1) nn _ _ (by omega) (by omega) hv
          · exact ih (k + 1) nn _ _ (by omega) (by omega) hk'
      · rw [if_neg (fun z => h ((o3_lt (by omega) (by omega)).mp z))]
        exact ih (k + 1) nn _ _ (by omega) (by omega) hv
  exact key q 0 FU (-1) 0 (by omega) (FU_lt (by omega)) (Or.inl rfl)
/-- merging: what stays -/
def eMg (S T : fS) : Prop := (∀ a k, ¬ (a = 45 ∧ k = 5) → a ≠ 48 → T.1 a k = S.1 a k) ∧ (∀ a k, a ≠ 46 → T.2 a k = S.2 a k)
theorem eMg.rf {S : fS} : eMg S S := ⟨fun _ _ _ _ => rfl, fun _ _ _ => rfl⟩
theorem eMg.tr {S T U : fS} (h : eMg S T) (g : eMg T U) : eMg S U := ⟨fun a k x y => (g.1 a k x y).trans (h.1 a k x y), fun a k x => (g.2 a k x).trans (h.2 a k x)⟩
theorem eRp_M {S T : fS} (h : eMg S T) : eRp S T := ⟨fun a k x => h.1 a k (by omega) (by omega), fun a k x => h.2 a k (by omega)⟩
theorem k_merge {st : Nat} : ∀ d k nn T c, k + d = 52001 → d < nn → okr T c → st ≤ c → okq T → ∃ r U c', lp_X3_merge_2 (o3 st) (fun S25 => some ((0 : Int32), S25)) nn (o3 k) T = some (r, U) ∧ okr U c' ∧ eMg T U := by
  intro d
  induction d with
  | zero =>
    intro k nn T c hk hnn hc hs hq
    obtain ⟨nn, rfl⟩ : ∃ z, nn = z + 1 := ⟨nn - 1, by omega⟩
    rw [lp_X3_merge_2.eq_2, if_pos (show (52000 : Int32) < o3 k from (o3_lt (a := 52000) (by omega) (by omega)).mpr (by omega))]
    exact ⟨0, T, c, rfl, hc, eMg.rf⟩
  | succ d ih =>
    intro k nn T c hk hnn hc hs hq
    obtain ⟨nn, rfl⟩ : ∃ z, nn = z + 1 := ⟨nn - 1, by omega⟩
    obtain ⟨q, q1, q2, q3⟩ := id hq
    obtain ⟨r, r1, r2⟩ := k_least q1 q2 q3
    rw [lp_X3_merge_2.eq_2, if_neg (show ¬ (52000 : Int32) < o3 k from fun z => by have := (o3_lt (a := 52000) (by omega) (by omega)).mp z; omega), r1, bd_some, o3_s]
    rcases r2 with r2 | ⟨i, a, b, i1, i2, i3, i4, i5, i6⟩
    · rw [r2, if_neg (show ¬ (0 : Int32) ≤ -1 by decide)]
      exact ⟨1, T, c, rfl, hc, eMg.rf⟩
    · rw [i2, if_pos (o3_0le (by omega)), gI_o (by omega) (by omega), bd_some, bd_some, sI_o (by omega) (by omega), bd_some, i3, o3_s, gL_o (by omega) (by omega), bd_some, gL_o (by omega) (by omega), bd_some]
      have e1 : eMg T (pI T 48 i (o3 (a + 1))) := ⟨fun a k _ y => pI_ne (by omega), fun _ _ _ => rfl⟩
      have hc1 : okr (pI T 48 i (o3 (a + 1))) c := ⟨(pI_ne (by omega)).trans hc.1, hc.2⟩
      obtain ⟨r', U, c', u1, u2, u3, u4, u5⟩ := k_keep (x := (pI T 48 i (o3 (a + 1))).2 46 a + (pI T 48 i (o3 (a + 1))).2 50 i) hc1 hs
      have e2 : eMg (pI T 48 i (o3 (a + 1))) U := ⟨fun a k x _ => u4 a k x, u5⟩
      rw [u1, bd_some]
      by_cases z : r' = 0
      · rw [if_pos z]
        exact ⟨0, U, c', rfl, u2, e1.tr e2⟩
      · rw [if_neg z]
        have hqU : okq U := ⟨q, q1, by rw [u4 _ _ (by omega), pI_ne (by omega), q2], fun j hj => by
          rw [u4 48 j (by omega), u4 49 j (by omega), pI_ne (a := 48) (b := 49) (by omega)]
          by_cases e : j = i
          · subst e
            exact ⟨a + 1, b, by omega, i6, pI_eq, i4⟩
          · obtain ⟨a', b', w1, w2, w3, w4⟩ := q3 j hj
            exact ⟨a', b', w1, w2, by rw [pI_ne (by omega)]; exact w3, w4⟩⟩
        obtain ⟨r'', V, c'', v1, v2, v3⟩ := ih (k + 1) nn U c' (by omega) (by omega) u2 (by omega) hqU
        exact ⟨r'', V, c'', v1, v2, (e1.tr e2).tr v3⟩
end
section
section KS
variable {F : List (Nat × Nat)} {E : List St5}
theorem k_mg {T : fS} {c st : Nat} (hc : okr T c) (hs : st ≤ c) (hq : okq T) : ∃ r U c', f_X3_merge (o3 st) T = some (r, U) ∧ okr U c' ∧ eMg T U := k_merge 52001 0 FU T c (by omega) (FU_lt (by omega)) hc hs hq
/-- gathering and merging at one place -/
theorem k_one (hE : ∀ q ∈ E, okS F.length q) (hm : F.length ≤ 10) (hl : E.length ≤ 12) {t p st c : Nat} (ht : t ≤ 16) (hp : p < F.length) {T : fS} (b1 : twC T 4 F E) (hW : okW T (t * F.length + p)) (hc : okr T c) (hs : st ≤ c) {G : Int32 × fS → Option (Int32 × fS)} : ∃ V U r c', f_X3_gatherSources 4 (o3 t) (o3 p) T = some V ∧ f_X3_merge (o3 st) V = some (r, U) ∧ okr U c' ∧ okW U (t * F.length + p) ∧ eRp T U ∧ eRp T V := by
  have h16 : t * F.length ≤ 16 * 10 := Nat.mul_le_mul ht hm
  obtain ⟨V, v1, v2, v3⟩ := k_ga hE hm hl ht hp (w := t * F.length + p) (by omega) (by omega) b1 hW
  obtain ⟨r, U, c', u1, u2, u3⟩ := k_mg (T := V) (c := c) (st := st) ⟨(v3.1 _ _ (by omega) (by omega) (by omega)).trans hc.1, hc.2⟩ hs v2
  exact ⟨V, U, r, c', v1, u1, u2, okW_eq hW (fun k => (u3.1 _ _ (by omega) (by omega)).trans (v3.1 _ _ (by omega) (by omega) (by omega))), (eRp_G v3).tr (eRp_M u3), eRp_G v3⟩
theorem okW_s {T : fS} {i s : Nat} (hs : s ≤ 4000) (h : i = 0 ∨ okW T i) : okW (pI T 47 i (o3 s)) i := fun j hj => by
  by_cases e : j = i
  · rw [e]; exact ⟨s, hs, pI_eq⟩
  · rcases h with h | h
    · omega
    · obtain ⟨z, z1, z2⟩ := h j hj
      exact ⟨z, z1, by rw [pI_ne (by omega)]; exact z2⟩
theorem okW_n {T : fS} {i s : Nat} (hs : s ≤ 4000) (h : okW T i) : okW (pI T 47 (i + 1) (o3 s)) (i + 1) := fun j hj => by
  by_cases e : j = i + 1
  · rw [e]; exact ⟨s, hs, pI_eq⟩
  · obtain ⟨z, z1, z2⟩ := h j (by omega)
    exact ⟨z, z1, by rw [pI_ne (by omega)]; exact z2⟩
theorem eRp_47 {T : fS} {i : Nat} {x : Int32} : eRp T (pI T 47 i x) := ⟨fun a k h => pI_ne (by omega), fun _ _ _ => rfl⟩
theorem k_24 {p3 : Int32} {f : Nat} (hE : ∀ q ∈ E, okS F.length q) (hm : F.length ≤ 10) (hl : E.length ≤ 12) (hf : f < F.length) {t : Nat} (ht : t ≤ 16) {K : fS → Option (Int32 × fS)} : ∀ d p nn T c, p + d = F.length → d < nn → twC T 4 F E → okr T c → (t * F.length + p = 0 ∨ okW T (t * F.length + p)) → ∃ U, eRp T U ∧ (lp_X3_spread_24 4 (o3 f) p3 (o3 t) K nn (o3 p) T = some (0, U) ∨ (lp_X3_spread_24 4 (o3 f) p3 (o3 t) K nn (o3 p) T = K U ∧ (∃ c', okr U c') ∧ (t * F.length + F.length = 0 ∨ okW U (t * F.length + F.length)))) := by
  have h16 : t * F.length ≤ 16 * 10 := Nat.mul_le_mul ht hm
  intro d
  induction d with
  | zero =>
    intro p nn T c hk hnn b1 hc hW
    obtain ⟨nn, rfl⟩ : ∃ z, nn = z + 1 := ⟨nn - 1, by omega⟩
    rw [lp_X3_spread_24.eq_2, b1.1, if_pos ((o3_le (by omega) (by omega)).mpr (by omega))]
    refine ⟨T, eRp.rf, Or.inr ⟨rfl, ⟨c, hc⟩, ?_⟩⟩
    rw [show F.length = p by omega] at hW ⊢
    exact hW
  | succ d ih =>
    intro p nn T c hk hnn b1 hc hW
    obtain ⟨nn, rfl⟩ : ∃ z, nn = z + 1 := ⟨nn - 1, by omega⟩
    have hp : p < F.length := by omega
    have W1 : okW (pI T 47 (t * F.length + p) (o3 c)) (t * F.length + p) := okW_s hc.2 hW
    have c1 : okr (pI T 47 (t * F.length + p) (o3 c)) c := ⟨(pI_ne (by omega)).trans hc.1, hc.2⟩
    have b2 := twC_R b1 (eRp_47 (i := t * F.length + p) (x := o3 c))
    /- the rest, from any state with that -/
    have rest : ∀ V c', eRp T V → twC V 4 F E → okr V c' → c ≤ c' → okW V (t * F.length + p) → ∃ X U r, f_X3_gatherSources 4 (o3 t) (o3 p) V = some X ∧ f_X3_merge (o3 c) X = some (r, U) ∧ eRp T U ∧ eRp T X ∧ (∃ Z, eRp T Z ∧ (((sI U 47 171 (((o3 t * (U.1 4 6)) + o3 p) + (1 : Int32)) (U.1 45 5)).bind fun S31 => lp_X3_spread_24 4 (o3 f) p3 (o3 t) K nn (o3 (p + 1)) S31) = some (0, Z) ∨ (((sI U 47 171 (((o3 t * (U.1 4 6)) + o3 p) + (1 : Int32)) (U.1 45 5)).bind fun S31 => lp_X3_spread_24 4 (o3 f) p3 (o3 t) K nn (o3 (p + 1)) S31) = K Z ∧ (∃ c', okr Z c') ∧ (t * F.length + F.length = 0 ∨ okW Z (t * F.length + F.length))))) := fun V c' eV bV cV hcc WV => by
      obtain ⟨X, U, r, c'', x1, u1, u2, u3, u4, u5⟩ := k_one hE hm hl ht hp bV WV cV hcc (G := fun _ => none)
      have bU := twC_R bV u4
      refine ⟨X, U, r, x1, u1, eV.tr u4, eV.tr u5, ?_⟩
      rw [bU.1, u2.1, o3_mul, o3_add, o3_s, sI_o (by omega) (by omega), bd_some]
      obtain ⟨Z, z1, z2⟩ := ih (p + 1) nn (pI U 47 (t * F.length + p + 1) (o3 c'')) c'' (by omega) (by omega) (twC_R bU eRp_47) ⟨(pI_ne (by omega)).trans u2.1, u2.2⟩ (Or.inr (okW_n u2.2 u3))
      exact ⟨Z, ((eV.tr u4).tr eRp_47).tr z1, z2⟩
    have fin : ∀ (X U : fS) (r : Int32), f_X3_merge (o3 c) X = some (r, U) → eRp T U → (∃ Z, eRp T Z ∧ (((sI U 47 171 (((o3 t * (U.1 4 6)) + o3 p) + (1 : Int32)) (U.1 45 5)).bind fun S31 => lp_X3_spread_24 4 (o3 f) p3 (o3 t) K nn (o3 (p + 1)) S31) = some (0, Z) ∨ (((sI U 47 171 (((o3 t * (U.1 4 6)) + o3 p) + (1 : Int32)) (U.1 45 5)).bind fun S31 => lp_X3_spread_24 4 (o3 f) p3 (o3 t) K nn (o3 (p + 1)) S31) = K Z ∧ (∃ c', okr Z c') ∧ (t * F.length + F.length = 0 ∨ okW Z (t * F.length + F.length))))) → ∃ Z, eRp T Z ∧ (((f_X3_merge (o3 c) X).bind fun q15 => if q15.1 = (0 : Int32) then (some ((0 : Int32), q15.2)) else ((sI q15.2 47 171 (((o3 t * (q15.2.1 4 6)) + o3 p) + (1 : Int32)) (q15.2.1 45 5)).bind fun S19 => lp_X3_spread_24 4 (o3 f) p3 (o3 t) K nn (o3 (p + 1)) S19)) = some (0, Z) ∨ (((f_X3_merge (o3 c) X).bind fun q15 => if q15.1 = (0 : Int32) then (some ((0 : Int32), q15.2)) else ((sI q15.2 47 171 (((o3 t * (q15.2.1 4 6)) + o3 p) + (1 : Int32)) (q15.2.1 45 5)).bind fun S19 => lp_X3_spread_24 4 (o3 f) p3 (o3 t) K nn (o3 (p + 1)) S19)) = K Z ∧ (∃ c', okr Z c') ∧ (t * F.length + F.length = 0 ∨ okW Z (t * F.length + F.length)))) := fun X U r u1 eU h => by
      rw [u1, bd_some]
      dsimp only
      by_cases z : r = 0
      · rw [if_pos z]; exact ⟨U, eU, Or.inl rfl⟩
      · rw [if_neg z]; exact h
    rw [lp_X3_spread_24.eq_2, b1.1, if_neg (fun q => by have := (o3_le (by omega) (by omega)).mp q; omega), o3_mul, o3_add, hc.1, sI_o (by omega) (by omega), bd_some, o3_s]
    have n10 : ¬ (1 : Int32) = 0 := by decide
    obtain ⟨X, U, r, x1, u1, eU, eX, h⟩ := rest _ c eRp_47 b2 c1 (Nat.le_refl _) W1
    by_cases h0 : (0 : Int32) < o3 t
    · rw [if_pos h0, x1, bd_some, if_neg n10]
      exact fin X U r u1 eU h
    · rw [if_neg h0]
      by_cases hpf : o3 p = o3 f
      · rw [if_pos hpf]
        unfold f_X3_stateOf
        rw [bd_some]
        obtain ⟨r', Y, c', y1, y2, y3, y4, y5⟩ := k_keep (x := ((0 : Int64) <<< (Int32.toInt64 (5 : Int32) &&& 63)) ||| (Int32.toInt64 (0 : Int32))) c1 (Nat.le_refl c)
        rw [y1, bd_some]
        dsimp only
        have eY1 : eRp (pI T 47 (t * F.length + p) (o3 c)) Y := ⟨fun a k _ => y4 a k (by omega), fun a k _ => y5 a k (by omega)⟩
        have eY : eRp T Y := (eRp_47 (i := t * F.length + p) (x := o3 c)).tr eY1
        have bY := twC_R b2 eY1
        have WY : okW Y (t * F.length + p) := okW_eq W1 (fun k => y4 _ _ (by omega))
        obtain ⟨X, U, r, x1, u1, eU, eX, h⟩ := rest Y c' eY bY y2 y3 WY
        by_cases z : r' = 0
        · rw [if_pos z, x1, bd_some, if_pos rfl]
          exact ⟨X, eX, Or.inl rfl⟩
        · rw [if_neg z, x1, bd_some, if_neg n10]
          exact fin X U r u1 eU h
      · rw [if_neg hpf, x1, bd_some, if_neg n10]
        exact fin X U r u1 eU h
theorem k_8 {f n : Nat} (hE : ∀ q ∈ E, okS F.length q) (hm : F.length ≤ 10) (hl : E.length ≤ 12) (hf : f < F.length) (hn : n ≤ 16) {K : fS → Option (Int32 × fS)} : ∀ d t nn T c, t + d = n + 1 → d < nn → twC T 4 F E → okr T c → (t * F.length = 0 ∨ okW T (t * F.length)) → ∃ U, eRp T U ∧ (lp_X3_spread_8 4 (o3 f) (o3 n) K nn (o3 t) T = some (0, U) ∨ (lp_X3_spread_8 4 (o3 f) (o3 n) K nn (o3 t) T = K U ∧ okW U ((n + 1) * F.length))) := by
  intro d
  induction d with
  | zero =>
    intro t nn T c hk hnn b1 hc hW
    obtain ⟨nn, rfl⟩ : ∃ z, nn = z + 1 := ⟨nn - 1, by omega⟩
    rw [lp_X3_spread_8.eq_2, if_pos ((o3_lt (by omega) (by omega)).mpr (by omega))]
    refine ⟨T, eRp.rf, Or.inr ⟨rfl, ?_⟩⟩
    rcases hW with hW | hW
    · exfalso
      have : 1 * 1 ≤ t * F.length := Nat.mul_le_mul (by omega) (by omega)
      omega
    · rw [show n + 1 = t by omega]; exact hW
  | succ d ih =>
    intro t nn T c hk hnn b1 hc hW
    obtain ⟨nn, rfl⟩ : ∃ z, nn = z + 1 := ⟨nn - 1, by omega⟩
    rw [lp_X3_spread_8.eq_2, if_neg (fun q => by have := (o3_lt (by omega) (by omega)).mp q; omega), if_neg (show ¬ (16 : Int32) < o3 t from fun q => by have := (o3_lt (a := 16) (by omega) (by omega)).mp q; omega), o3_s]
    obtain ⟨U, u1, u2⟩ := k_24 (p3 := o3 n) hE hm hl hf (t := t) (by omega) (K := fun S63 => lp_X3_spread_8 4 (o3 f) (o3 n) K nn (o3 (t + 1)) S63) F.length 0 FU T c (by omega) (FU_lt (by omega)) b1 hc hW
    rcases u2 with u2 | ⟨u2, ⟨c', u3⟩, u4⟩
    · exact ⟨U, u1, Or.inl u2⟩
    · have e : t * F.length + F.length = (t + 1) * F.length := by rw [Nat.add_mul, Nat.one_mul]
      rw [e] at u4
      obtain ⟨V, v1, v2⟩ := ih (t + 1) nn U c' (by omega) (by omega) (twC_R b1 u1) u3 u4
      refine ⟨V, u1.tr v1, ?_⟩
      rcases v2 with v2 | ⟨v2, v3⟩
      · exact Or.inl (u2.trans v2)
      · exact Or.inr ⟨u2.trans v2, v3⟩
theorem k_spread {f n : Nat} (hE : ∀ q ∈ E, okS F.length q) (hm : F.length ≤ 10) (hl : E.length ≤ 12) (hf : f < F.length) (hn : n ≤ 16) {S : fS} (b1 : twC S 4 F E) : ∃ r U, f_X3_spread 4 (o3 f) (o3 n) S = some (r, U) ∧ eRp S U ∧ (r = 0 ∨ (r = 1 ∧ okW U ((n + 1) * F.length))) := by
  unfold f_X3_spread
  rw [bd_some]
  have e0 : eRp S (pI S 45 5 0) := ⟨fun a k h => pI_ne (by omega), fun _ _ _ => rfl⟩
  obtain ⟨U, u1, u2⟩ := k_8 hE hm hl hf hn (K := fun S65 => some ((1 : Int32), S65)) (n + 1) 0 FU (pI S 45 5 0) 0 (by omega) (FU_lt (by omega)) (twC_R b1 e0) ⟨pI_eq, by omega⟩ (Or.inl (Nat.zero_mul _))
  rcases u2 with u2 | ⟨u2, u3⟩
  · exact ⟨0, U, u2, e0.tr u1, Or.inl rfl⟩
  · exact ⟨1, U, u2, e0.tr u1, Or.inr ⟨rfl, u3⟩⟩
theorem k_lc {f n : Nat} {x y : Int64} (hm : F.length ≤ 10) (hf : f < F.length) (hn : n ≤ 16) {S : fS} (b1 : twC S 4 F E) (hW : okW S ((n + 1) * F.length)) : ∃ r, f_X3_leastCarried 4 (o3 f) (o3 n) x y S = some r := by
  have h16 : n * F.length ≤ 16 * 10 := Nat.mul_le_mul hn hm
  have e : (n + 1) * F.length = n * F.length + F.length := by rw [Nat.add_mul, Nat.one_mul]
  obtain ⟨s, s1, s2⟩ := hW (n * F.length + f) (by omega)
  obtain ⟨t, t1, t2⟩ := hW (n * F.length + f + 1) (by omega)
  have key : ∀ d k nn (p8 : Int32), d = t - k → k ≤ 4000 → d < nn → ∃ r, lp_X3_leastCarried_23 x y (o3 (n * F.length + f)) S (fun u85 => some u85) nn p8 (o3 k) = some r := by
    intro d
    induction d with
    | zero =>
      intro k nn p8 hd hk hnn
      obtain ⟨nn, rfl⟩ : ∃ z, nn = z + 1 := ⟨nn - 1, by omega⟩
      rw [lp_X3_leastCarried_23.eq_2, o3_s, gI_o (by omega) (by omega), bd_some, t2, if_pos ((o3_le (by omega) (by omega)).mpr (by omega))]
      exact ⟨_, rfl⟩
    | succ d ih =>
      intro k nn p8 hd hk hnn
      obtain ⟨nn, rfl⟩ : ∃ z, nn = z + 1 := ⟨nn - 1, by omega⟩
      have go : ∀ p8, ∃ r, lp_X3_leastCarried_23 x y (o3 (n * F.length + f)) S (fun u85 => some u85) nn p8 (o3 (k + 1)) = some r := fun p8 => ih (k + 1) nn p8 (by omega) (by omega) (by omega)
      unfold lp_X3_leastCarried_23
      rw [o3_s, gI_o (by omega) (by omega), bd_some, t2, if_neg (fun q => by have := (o3_le (by omega) (by omega)).mp q; omega), gL_o (by omega) (by omega)]
      simp only [bd_some, f_X3_ageOf, f_X3_carriedOf, o3_s]
      repeat' split
      all_goals exact go _
  unfold f_X3_leastCarried
  rw [b1.1, o3_mul, o3_add, gI_o (by omega) (by omega), bd_some, s2]
  exact key (t - s) s FU (-2) rfl s1 (FU_lt (by omega))
end KS
end
section
/-! ripe(): the reference goes on -/
def eRm (S T : fS) : Prop := (∀ a k, ¬ (164 ≤ a ∧ a ≤ 167) → ¬ (a = 145 ∧ k = 36) → T.1 a k = S.1 a k) ∧ (∀ a k, a ≠ 166 → T.2 a k = S.2 a k)
theorem eRm.rf {S : fS} : eRm S S := ⟨fun _ _ _ _ => rfl, fun _ _ _ => rfl⟩
theorem eRm.tr {S T U : fS} (h : eRm S T) (g : eRm T U) : eRm S U := ⟨fun a k x y => (g.1 a k x y).trans (h.1 a k x y), fun a k x => (g.2 a k x).trans (h.2 a k x)⟩
/-- so many states, each with an hour and a floor -/
def okm (m n : Nat) (T : fS) (c : Nat) : Prop := c ≤ 4001 ∧ T.1 145 36 = o3 c ∧ ∀ k, k < c → ∃ h f, h ≤ n ∧ f < m ∧ T.1 164 k = o3 h ∧ T.1 165 k = o3 f
theorem r_comes {m n h f c : Nat} {x : Int64} {y : Int32} (hm : m ≤ 10) (hn : n ≤ 16) (hh : h ≤ n) (hf : f < m) {T : fS} (hT : okm m n T c) : ∃ U c', f_X11_comes (o3 h) (o3 f) x y T = some U ∧ okm m n U c' ∧ c ≤ c' ∧ eRm T U := by
  obtain ⟨hc, h36, hk⟩ := id hT
  have app : ∃ U c', (if (T.1 145 36) ≤ (4000 : Int32) then ((sI T 164 4001 (T.1 145 36) (o3 h)).bind fun S30 => (sI S30 165 4001 (S30.1 145 36) (o3 f)).bind fun S33 => (sL S33 166 4001 (S33.1 145 36) x).bind fun S36 => (sI S36 167 4001 (S36.1 145 36) y).bind fun S39 => (some (pI S39 145 36 ((S39.1 145 36) + (1 : Int32)))).bind fun S42 => some S42) else (some T)) = some U ∧ okm m n U c' ∧ c ≤ c' ∧ eRm T U := by
    rw [h36]
    by_cases h4 : c ≤ 4000
    · rw [if_pos (show o3 c ≤ (4000 : Int32) from (o3_le (b := 4000) (by omega) (by omega)).mpr h4), sI_o (by omega) (by omega), bd_some, pI_ne (by omega), h36, sI_o (by omega) (by omega), bd_some, pI_ne (by omega), pI_ne (by omega), h36, sL_o (by omega) (by omega), bd_some]
      have e1 : (pL (pI (pI T 164 c (o3 h)) 165 c (o3 f)) 166 c x).1 145 36 = o3 c := by
        show (pI (pI T 164 c (o3 h)) 165 c (o3 f)).1 145 36 = o3 c
        rw [pI_ne (by omega), pI_ne (by omega), h36]
      rw [e1, sI_o (by omega) (by omega), bd_some, bd_some, pI_ne (by omega), e1, o3_s]
      have g1 : ∀ a k, ¬ (a = 145 ∧ k = 36) → ¬ (a = 167 ∧ k = c) → ¬ (a = 165 ∧ k = c) → ¬ (a = 164 ∧ k = c) → (pI (pI (pL (pI (pI T 164 c (o3 h)) 165 c (o3 f)) 166 c x) 167 c y) 145 36 (o3 (c + 1))).1 a k = T.1 a k := fun a k x y z w => by
        rw [pI_ne x, pI_ne y]
        show (pI (pI T 164 c (o3 h)) 165 c (o3 f)).1 a k = T.1 a k
        rw [pI_ne z, pI_ne w]
      refine ⟨_, c + 1, rfl, ⟨by omega, pI_eq, fun k hk' => ?_⟩, by omega, fun a k p q => g1 a k q (by omega) (by omega) (by omega), fun a k p => ?_⟩
      · by_cases e : k = c
        · refine ⟨h, f, hh, hf, ?_, ?_⟩
          · rw [e, pI_ne (by omega), pI_ne (by omega)]
            show (pI (pI T 164 c (o3 h)) 165 c (o3 f)).1 164 c = o3 h
            rw [pI_ne (by omega), pI_eq]
          · rw [e, pI_ne (by omega), pI_ne (by omega)]
            show (pI (pI T 164 c (o3 h)) 165 c (o3 f)).1 165 c = o3 f
            rw [pI_eq]
        · obtain ⟨h', f', a1, a2, a3, a4⟩ := hk k (by omega)
          exact ⟨h', f', a1, a2, by rw [g1 _ _ (by omega) (by omega) (by omega) (by omega)]; exact a3, by rw [g1 _ _ (by omega) (by omega) (by omega) (by omega)]; exact a4⟩
      · show (pL (pI (pI T 164 c (o3 h)) 165 c (o3 f)) 166 c x).2 a k = T.2 a k
        rw [pL_ne (by omega)]
        rfl
    · rw [if_neg (show ¬ o3 c ≤ (4000 : Int32) from fun q => h4 ((o3_le (b := 4000) (by omega) (by omega)).mp q))]
      exact ⟨T, c, rfl, hT, by omega, eRm.rf⟩
  have st : ∀ k z, ∃ U c', some (pI T 167 k z) = some U ∧ okm m n U c' ∧ c ≤ c' ∧ eRm T U := fun k z => ⟨_, c, rfl, ⟨hc, (pI_ne (by omega)).trans h36, fun j hj => by
    rw [pI_ne (by omega), pI_ne (by omega)]
    exact hk j hj⟩, by omega, fun a j p _ => pI_ne (by omega), fun _ _ _ => rfl⟩
  unfold f_X11_comes
  have key : ∀ d k nn, k + d = c → d < nn → ∃ U c', lp_X11_comes_3 (o3 h) (o3 f) x y (fun S27 => if (S27.1 145 36) ≤ (4000 : Int32) then ((sI S27 164 4001 (S27.1 145 36) (o3 h)).bind fun S30 => (sI S30 165 4001 (S30.1 145 36) (o3 f)).bind fun S33 => (sL S33 166 4001 (S33.1 145 36) x).bind fun S36 => (sI S36 167 4001 (S36.1 145 36) y).bind fun S39 => (some (pI S39 145 36 ((S39.1 145 36) + (1 : Int32)))).bind fun S42 => some S42) else (some S27)) nn (o3 k) T = some U ∧ okm m n U c' ∧ c ≤ c' ∧ eRm T U := by
    intro d
    induction d with
    | zero =>
      intro k nn hk' hnn
      obtain ⟨nn, rfl⟩ : ∃ z, nn = z + 1 := ⟨nn - 1, by omega⟩
      rw [lp_X11_comes_3.eq_2, if_pos (show T.1 145 36 ≤ o3 k by rw [h36]; exact (o3_le (by omega) (by omega)).mpr (by omega))]
      exact app
    | succ d ih =>
      intro k nn hk' hnn
      obtain ⟨nn, rfl⟩ : ∃ z, nn = z + 1 := ⟨nn - 1, by omega⟩
      have go := ih (k + 1) nn (by omega) (by omega)
      rw [lp_X11_comes_3.eq_2, if_neg (show ¬ T.1 145 36 ≤ o3 k by rw [h36]; exact fun q => by have := (o3_le (by omega) (by omega)).mp q; omega), gI_o (by omega) (by omega), gI_o (by omega) (by omega), gL_o (by omega) (by omega), gI_o (by omega) (by omega), bd_some, bd_some, bd_some, bd_some, bd_some, sI_o (by omega) (by omega), sI_o (by omega) (by omega), bd_some, bd_some, o3_s]
      split
      · split
        · split
          · split
            · exact st _ _
            · exact st _ _
          · exact go
        · exact go
      · exact go
  exact key c 0 FU (by omega) (FU_lt (by omega))
section RM
variable {F : List (Nat × Nat)} {E : List St5}
theorem twM_R {S T : fS} (h : twM (S.1 157) F E) (e : eRm S T) : twM (T.1 157) F E := by
  rw [show T.1 157 = S.1 157 from funext fun k => e.1 157 k (by omega) (by omega)]; exact h
theorem r_51 (hE : ∀ q ∈ E, okS F.length q) (hm : F.length ≤ 10) (hl : E.length ≤ 12) {n i h f : Nat} (hn : n ≤ 16) (hh : h ≤ n) (hf : f < F.length) (hi : i < 4001) {K : fS → Option fS} : ∀ d k nn T c, k + d = E.length → d < nn → twM (T.1 157) F E → okm F.length n T c → ∃ U c', lp_X11_goesOn_51 (o3 i) (o3 n) (o3 h) (o3 f) K nn (o3 k) T = K U ∧ okm F.length n U c' ∧ c ≤ c' ∧ eRm T U := by
  intro d
  induction d with
  | zero =>
    intro k nn T c hk hnn m1 hT
    obtain ⟨nn, rfl⟩ : ∃ z, nn = z + 1 := ⟨nn - 1, by omega⟩
    rw [lp_X11_goesOn_51.eq_2, show gI T 157 158 1 = some (o3 E.length) from (gI_o (k := 1) (by omega) (by omega)).trans (congrArg some m1.2.1), bd_some, if_pos ((o3_le (by omega) (by omega)).mpr (by omega))]
    exact ⟨T, c, rfl, hT, by omega, eRm.rf⟩
  | succ d ih =>
    intro k nn T c hk hnn m1 hT
    obtain ⟨nn, rfl⟩ : ∃ z, nn = z + 1 := ⟨nn - 1, by omega⟩
    have hkl : k < E.length := by omega
    have hq' := hE _ (gd_mem (d := d5) hkl)
    have h9 := hq'.2.2.2.2.1
    have e3 : f_X11_stairOf (o3 k) 2 T = some (o3 (E.getD k d5).2.2.1) := (mh_stair m1 hl hkl).2.2.1
    rw [lp_X11_goesOn_51.eq_2, show gI T 157 158 1 = some (o3 E.length) from (gI_o (k := 1) (by omega) (by omega)).trans (congrArg some m1.2.1), bd_some, if_neg (fun q => by have := (o3_le (by omega) (by omega)).mp q; omega), e3, bd_some, mh_other m1 hE hm hl hkl (by omega), bd_some, bd_some, o3_s, o3_add]
    rcases oe_or (a := f) hq' hm with ⟨o, o1, o2, _⟩ | ⟨o2, _⟩
    · rw [o2, if_neg (o3_nn (by omega))]
      by_cases hlt : n < h + (E.getD k d5).2.2.1
      · rw [if_pos ((o3_lt (by omega) (by omega)).mpr hlt)]
        exact ih (k + 1) nn T c (by omega) (by omega) m1 hT
      · rw [if_neg (fun q => hlt ((o3_lt (by omega) (by omega)).mp q)), gL_o (by omega) (by omega), bd_some, mp_stair m1 hE hl hkl, bd_some, gI_o (by omega) (by omega), bd_some]
        obtain ⟨U, c', u1, u2, u3, u4⟩ := r_comes (h := h + (E.getD k d5).2.2.1) (x := T.2 166 i + Int32.toInt64 (o3 (E.getD k d5).2.2.1) * pc (E.getD k d5).2.2.2) (y := T.1 167 i + o3 (E.getD k d5).2.2.1) hm hn (by omega) o1 hT
        rw [u1, bd_some]
        obtain ⟨V, c'', v1, v2, v3, v4⟩ := ih (k + 1) nn U c' (by omega) (by omega) (twM_R m1 u4) u2
        exact ⟨V, c'', v1, v2, by omega, u4.tr v4⟩
    · rw [o2, if_pos (show (-1 : Int32) < 0 by decide)]
      exact ih (k + 1) nn T c (by omega) (by omega) m1 hT
theorem r_go (hF : ∀ q ∈ F, okF q) (hE : ∀ q ∈ E, okS F.length q) (hm : F.length ≤ 10) (hl : E.length ≤ 12) {n i c : Nat} (hn : n ≤ 16) {T : fS} (hi : i < c) (m1 : twM (T.1 157) F E) (hT : okm F.length n T c) : ∃ U c', f_X11_goesOn (o3 i) (o3 n) T = some U ∧ okm F.length n U c' ∧ c ≤ c' ∧ eRm T U := by
  have hc := hT.1
  obtain ⟨h, f, h1, f1, h2, f2⟩ := hT.2.2 i hi
  unfold f_X11_goesOn
  rw [gI_o (by omega) (by omega), bd_some, gI_o (by omega) (by omega), bd_some, h2, f2]
  by_cases z : n ≤ h
  · rw [if_pos ((o3_le (by omega) (by omega)).mpr z)]
    exact r_51 hE hm hl hn h1 f1 (by omega) (K := fun S35 => some S35) E.length 0 FU T c (by omega) (FU_lt (by omega)) m1 hT
  · rw [if_neg (fun q => z ((o3_le (by omega) (by omega)).mp q)), gL_o (by omega) (by omega), bd_some, mp_floor m1 hF hm f1, bd_some, gI_o (by omega) (by omega), bd_some, o3_s]
    obtain ⟨U, c', u1, u2, u3, u4⟩ := r_comes (h := h + 1) (x := T.2 166 i + pc (F.getD f (0, 0))) (y := T.1 167 i) hm hn (by omega) f1 hT
    rw [u1, bd_some]
    obtain ⟨V, c'', v1, v2, v3, v4⟩ := r_51 hE hm hl hn h1 f1 (i := i) (by omega) (K := fun S49 => some S49) E.length 0 FU U c' (by omega) (FU_lt (by omega)) (twM_R m1 u4) u2
    exact ⟨V, c'', v1, v2, by omega, u4.tr v4⟩
theorem r_93 {p2 p4 p5 p6 : Int32} (hF : ∀ q ∈ F, okF q) (hE : ∀ q ∈ E, okS F.length q) (hm : F.length ≤ 10) (hl : E.length ≤ 12) {n : Nat} (hn : n ≤ 16) {K : fS → Option (Int32 × fS)} : ∀ d k nn T c, d = 4001 - k → k ≤ 4001 → d < nn → twM (T.1 157) F E → okm F.length n T c → ∃ U c', lp_X11_ripe_93 p2 (o3 n) p4 p5 p6 K nn (o3 k) T = K U ∧ okm F.length n U c' ∧ eRm T U := by
  intro d
  induction d with
  | zero =>
    intro k nn T c hd hk hnn m1 hT
    have hc := hT.1
    obtain ⟨nn, rfl⟩ : ∃ z, nn = z + 1 := ⟨nn - 1, by omega⟩
    rw [lp_X11_ripe_93.eq_2, hT.2.1, if_pos ((o3_le (by omega) (by omega)).mpr (by omega))]
    exact ⟨T, c, rfl, hT, eRm.rf⟩
  | succ d ih =>
    intro k nn T c hd hk hnn m1 hT
    have hc := hT.1
    obtain ⟨nn, rfl⟩ : ∃ z, nn = z + 1 := ⟨nn - 1, by omega⟩
    rw [lp_X11_ripe_93.eq_2, hT.2.1]
    by_cases h1 : c ≤ k
    · rw [if_pos ((o3_le (by omega) (by omega)).mpr h1)]
      exact ⟨T, c, rfl, hT, eRm.rf⟩
    · rw [if_neg (fun q => h1 ((o3_le (by omega) (by omega)).mp q)), gI_o (by omega) (by omega), bd_some, o3_s]
      split
      · exact ⟨T, c, rfl, hT, eRm.rf⟩
      · split
        · obtain ⟨U, c', u1, u2, u3, u4⟩ := r_go hF hE hm hl hn (i := k) (by omega) m1 hT
          rw [u1, bd_some]
          obtain ⟨V, c'', v1, v2, v3⟩ := ih (k + 1) nn U c' (by omega) (by omega) (by omega) (twM_R m1 u4) u2
          exact ⟨V, c'', v1, v2, u4.tr v3⟩
        · exact ih (k + 1) nn T c (by omega) (by omega) (by omega) m1 hT
theorem r_74 {p2 p4 p5 : Int32} (hF : ∀ q ∈ F, okF q) (hE : ∀ q ∈ E, okS F.length q) (hm : F.length ≤ 10) (hl : E.length ≤ 12) {n : Nat} (hn : n ≤ 16) {K : fS → Option (Int32 × fS)} : ∀ d k nn T c, k + d = n + 1 → d < nn → twM (T.1 157) F E → okm F.length n T c → ∃ U c', lp_X11_ripe_74 p2 (o3 n) p4 p5 K nn (o3 k) T = K U ∧ okm F.length n U c' ∧ eRm T U := by
  intro d
  induction d with
  | zero =>
    intro k nn T c hk hnn m1 hT
    obtain ⟨nn, rfl⟩ : ∃ z, nn = z + 1 := ⟨nn - 1, by omega⟩
    rw [lp_X11_ripe_74.eq_2, if_pos ((o3_lt (by omega) (by omega)).mpr (by omega))]
    exact ⟨T, c, rfl, hT, eRm.rf⟩
  | succ d ih =>
    intro k nn T c hk hnn m1 hT
    obtain ⟨nn, rfl⟩ : ∃ z, nn = z + 1 := ⟨nn - 1, by omega⟩
    rw [lp_X11_ripe_74.eq_2, if_neg (fun q => by have := (o3_lt (by omega) (by omega)).mp q; omega), o3_s]
    split
    · exact ⟨T, c, rfl, hT, eRm.rf⟩
    · obtain ⟨U, c', u1, u2, u3⟩ := r_93 (p2 := p2) (p4 := p4) (p5 := p5) (p6 := o3 k) hF hE hm hl hn (K := fun S38 => lp_X11_ripe_74 p2 (o3 n) p4 p5 K nn (o3 (k + 1)) S38) 4001 0 FU T c (by omega) (by omega) (FU_lt (by omega)) m1 hT
      obtain ⟨V, c'', v1, v2, v3⟩ := ih (k + 1) nn U c' (by omega) (by omega) (twM_R m1 u3) u2
      rw [show (0 : Int32) = o3 0 from rfl, u1]
      exact ⟨V, c'', v1, v2, u3.tr v3⟩
theorem r_163 {m n c : Nat} {p2 p3 p4 p5 : Int32} {T : fS} (hT : okm m n T c) : ∀ d k nn (p6 : Int32), k + d = c → d < nn → ∃ r, lp_X11_ripe_163 p2 p3 p4 p5 (fun u120 S121 => some (u120, S121)) nn p6 (o3 k) T = some (r, T) := by
  have hc := hT.1
  intro d
  induction d with
  | zero =>
    intro k nn p6 hk hnn
    obtain ⟨nn, rfl⟩ : ∃ z, nn = z + 1 := ⟨nn - 1, by omega⟩
    rw [lp_X11_ripe_163.eq_2, hT.2.1, if_pos ((o3_le (by omega) (by omega)).mpr (by omega))]
    exact ⟨_, rfl⟩
  | succ d ih =>
    intro k nn p6 hk hnn
    obtain ⟨nn, rfl⟩ : ∃ z, nn = z + 1 := ⟨nn - 1, by omega⟩
    have go : ∀ p6, ∃ r, lp_X11_ripe_163 p2 p3 p4 p5 (fun u120 S121 => some (u120, S121)) nn p6 (o3 (k + 1)) T = some (r, T) := fun p6 => ih (k + 1) nn p6 (by omega) (by omega)
    have g1 : gI T 164 4001 (o3 k) = some (T.1 164 k) := gI_o (by omega) (by omega)
    have g2 : gI T 165 4001 (o3 k) = some (T.1 165 k) := gI_o (by omega) (by omega)
    have g3 : gL T 166 4001 (o3 k) = some (T.2 166 k) := gL_o (by omega) (by omega)
    have g4 : gI T 167 4001 (o3 k) = some (T.1 167 k) := gI_o (by omega) (by omega)
    have n10 : ¬ (1 : Int32) = 0 := by decide
    rw [lp_X11_ripe_163.eq_2, hT.2.1, if_neg (fun q => by have := (o3_le (by omega) (by omega)).mp q; omega), g1, bd_some, o3_s, g2, bd_some, g3, bd_some]
    generalize Int32.toInt64 p4 * (232792560 : Int64) = A
    generalize Int32.toInt64 p5 * (232792560 : Int64) = B
    by_cases z1 : T.1 164 k = p3
    · rw [if_pos z1]
      by_cases z2 : T.1 165 k = p2
      · rw [if_pos z2]
        by_cases z3 : T.2 166 k < A
        · rw [if_pos z3, if_pos rfl]; exact go _
        · rw [if_neg z3, bd_some]
          by_cases z4 : B < T.2 166 k
          · rw [if_pos z4, if_pos rfl]; exact go _
          · rw [if_neg z4, if_neg n10, g4, bd_some, bd_some]
            by_cases z5 : p6 < 0
            · rw [if_pos z5]; exact go _
            · rw [if_neg z5]
              by_cases z6 : p6 ≤ T.1 167 k
              · rw [if_pos z6]; exact go _
              · rw [if_neg z6]; exact go _
      · rw [if_neg z2, if_pos rfl]; exact go _
    · rw [if_neg z1, if_pos rfl]; exact go _
end RM
end
section
/-- ripe: both answer -/
theorem t_18 (a1 a2 a3 a4 a5 : Int32) (S : fS) (hR : Rel S) : ∃ r r' S1 S2, f_X10_ripe a1 a2 a3 a4 a5 S = some (r, S1) ∧ f_X11_ripe a1 a2 a3 a4 a5 S1 = some (r', S2) ∧ Rel S2 := by
  have hR0 := hR
  obtain ⟨n', s, L, M, hT, hS, hL, hM⟩ := hR
  have hS0 := hS
  obtain ⟨⟨n1, n2, n3, n4, n5, n6⟩, ⟨b1, b2, b3, b4, b5⟩, ⟨m1, m2, m3, m4⟩, d⟩ := hS
  have i3 : f_X10_isFrom a3 0 16 S = some (if ((0 : Nat) : Int) ≤ a3.toInt ∧ a3.toInt ≤ ((16 : Nat) : Int) then 1 else 0) := from_c (a := 0) (b := 16) (by omega) (by omega)
  have i4 : f_X10_isFrom a4 0 999 S = some (if ((0 : Nat) : Int) ≤ a4.toInt ∧ a4.toInt ≤ ((999 : Nat) : Int) then 1 else 0) := from_c (a := 0) (b := 999) (by omega) (by omega)
  have j3 : ∀ T : fS, f_X11_in (Int32.toInt64 a3) 0 16 T = some (if ((0 : Nat) : Int) ≤ a3.toInt ∧ a3.toInt ≤ ((16 : Nat) : Int) then 1 else 0) := fun T => in_c (a := 0) (b := 16) (by omega) (by omega)
  have j4 : ∀ T : fS, f_X11_in (Int32.toInt64 a4) 0 999 T = some (if ((0 : Nat) : Int) ≤ a4.toInt ∧ a4.toInt ≤ ((999 : Nat) : Int) then 1 else 0) := fun T => in_c (a := 0) (b := 999) (by omega) (by omega)
  have no : f_X10_ripe a1 a2 a3 a4 a5 S = some (-1, S) → f_X11_ripe a1 a2 a3 a4 a5 S = some (-1, S) → ∃ r r' S1 S2, f_X10_ripe a1 a2 a3 a4 a5 S = some (r, S1) ∧ f_X11_ripe a1 a2 a3 a4 a5 S1 = some (r', S2) ∧ Rel S2 := fun h g => ⟨-1, -1, S, S, h, g, hR0⟩
  have n1z : ¬ (1 : Int32) = 0 := by decide
  by_cases h1 : ¬ (0 ≤ a1.toInt ∧ a1.toInt < s.1.length)
  · refine no ?_ ?_
    · unfold f_X10_ripe; rw [ci_floor b1.1 (by omega), bd_some, if_neg h1, if_pos rfl]
    · unfold f_X11_ripe; rw [mi_floor m1.1 (by omega), bd_some, if_neg h1, if_pos rfl]
  have h1 := Decidable.not_not.mp h1
  by_cases h2 : ¬ (0 ≤ a2.toInt ∧ a2.toInt < s.1.length)
  · refine no ?_ ?_
    · unfold f_X10_ripe; rw [ci_floor b1.1 (by omega), bd_some, if_pos h1, if_neg n1z, ci_floor b1.1 (by omega), bd_some, if_neg h2, if_pos rfl]
    · unfold f_X11_ripe; rw [mi_floor m1.1 (by omega), bd_some, if_pos h1, if_neg n1z, mi_floor m1.1 (by omega), bd_some, if_neg h2, if_pos rfl]
  have h2 := Decidable.not_not.mp h2
  by_cases h3 : ¬ (((0 : Nat) : Int) ≤ a3.toInt ∧ a3.toInt ≤ ((16 : Nat) : Int))
  · refine no ?_ ?_
    · unfold f_X10_ripe; rw [ci_floor b1.1 (by omega), bd_some, if_pos h1, if_neg n1z, ci_floor b1.1 (by omega), bd_some, if_pos h2, if_neg n1z, i3, bd_some, if_neg h3, if_pos rfl]
    · unfold f_X11_ripe; rw [mi_floor m1.1 (by omega), bd_some, if_pos h1, if_neg n1z, mi_floor m1.1 (by omega), bd_some, if_pos h2, if_neg n1z, j3, bd_some, if_neg h3, if_pos rfl]
  have h3 := Decidable.not_not.mp h3
  by_cases h4 : ¬ (((0 : Nat) : Int) ≤ a4.toInt ∧ a4.toInt ≤ ((999 : Nat) : Int))
  · refine no ?_ ?_
    · unfold f_X10_ripe; rw [ci_floor b1.1 (by omega), bd_some, if_pos h1, if_neg n1z, ci_floor b1.1 (by omega), bd_some, if_pos h2, if_neg n1z, i3, bd_some, if_pos h3, if_neg n1z, i4, bd_some, if_neg h4, if_pos rfl]
    · unfold f_X11_ripe; rw [mi_floor m1.1 (by omega), bd_some, if_pos h1, if_neg n1z, mi_floor m1.1 (by omega), bd_some, if_pos h2, if_neg n1z, j3, bd_some, if_pos h3, if_neg n1z, j4, bd_some, if_neg h4, if_pos rfl]
  have h4 := Decidable.not_not.mp h4
  obtain ⟨f, e1, e2⟩ := o3_ex h1.1
  obtain ⟨g, e3, e4⟩ := o3_ex h2.1
  obtain ⟨n, e5, e6⟩ := o3_ex (x := a3) (by omega)
  obtain ⟨v, e7, e8⟩ := o3_ex (x := a4) (by omega)
  have hf : f < s.1.length := by omega
  have hg : g < s.1.length := by omega
  have hn : n ≤ 16 := by omega
  have i5 : f_X10_isFrom a5 (o3 v) 999 S = some (if ((v : Nat) : Int) ≤ a5.toInt ∧ a5.toInt ≤ ((999 : Nat) : Int) then 1 else 0) := from_c (a := v) (b := 999) (by omega) (by omega)
  have j5 : ∀ T : fS, f_X11_in (Int32.toInt64 a5) (Int32.toInt64 (o3 v)) 999 T = some (if ((v : Nat) : Int) ≤ a5.toInt ∧ a5.toInt ≤ ((999 : Nat) : Int) then 1 else 0) := fun T => by
    rw [o6_of3 (by omega)]
    exact in_c (a := v) (b := 999) (by omega) (by omega)
  have cP : f_X10_ripe a1 a2 a3 a4 a5 S = if ((v : Nat) : Int) ≤ a5.toInt ∧ a5.toInt ≤ ((999 : Nat) : Int) then ((f_X3_spread 4 (o3 f) (o3 n) S).bind fun q21 => if q21.1 = (0 : Int32) then (some ((-3 : Int32), q21.2)) else ((f_X3_leastCarried 4 (o3 g) (o3 n) ((Int32.toInt64 (o3 v)) * (232792560 : Int64)) ((Int32.toInt64 a5) * (232792560 : Int64)) q21.2).bind fun q25 => some (q25, q21.2))) else some (-1, S) := by
    unfold f_X10_ripe; rw [ci_floor b1.1 (by omega), bd_some, if_pos h1, if_neg n1z, ci_floor b1.1 (by omega), bd_some, if_pos h2, if_neg n1z, i3, bd_some, if_pos h3, if_neg n1z, i4, bd_some, if_pos h4, if_neg n1z, e7, i5, bd_some, if1z, e1, e3, e5]
  have mP : ∀ T : fS, T.1 157 0 = S.1 157 0 → f_X11_ripe a1 a2 a3 a4 a5 T = if ((v : Nat) : Int) ≤ a5.toInt ∧ a5.toInt ≤ ((999 : Nat) : Int) then ((f_X11_comes (0 : Int32) (o3 f) (0 : Int64) (0 : Int32) (pI T 145 36 (0 : Int32))).bind fun q24 => lp_X11_ripe_74 (o3 g) (o3 n) (o3 v) a5 (fun S40 => if (S40.1 145 36) ≤ (4000 : Int32) then (lp_X11_ripe_163 (o3 g) (o3 n) (o3 v) a5 (fun u120 S121 => some (u120, S121)) FU (-2 : Int32) (0 : Int32) S40) else (some ((-3 : Int32), S40))) FU (0 : Int32) q24) else some (-1, T) := fun T hTT => by
    unfold f_X11_ripe; rw [mi_floor (hTT.trans m1.1) (by omega), bd_some, if_pos h1, if_neg n1z, mi_floor (hTT.trans m1.1) (by omega), bd_some, if_pos h2, if_neg n1z, j3, bd_some, if_pos h3, if_neg n1z, j4, bd_some, if_pos h4, if_neg n1z, e7, j5, bd_some, if1z, e1, e3, e5, bd_some]
  by_cases h5 : ¬ (((v : Nat) : Int) ≤ a5.toInt ∧ a5.toInt ≤ ((999 : Nat) : Int))
  · exact no (by rw [cP, if_neg h5]) (by rw [mP S rfl, if_neg h5])
  have h5 := Decidable.not_not.mp h5
  rw [if_pos h5] at cP
  obtain ⟨r, S1, u1, u2, u3⟩ := k_spread n4 n1 n2 hf hn b1
  have hc : ∃ q, f_X10_ripe a1 a2 a3 a4 a5 S = some (q, S1) := by
    rw [cP, u1, bd_some]
    dsimp only
    rcases u3 with u3 | ⟨u3, u4⟩
    · rw [if_pos u3]; exact ⟨_, rfl⟩
    · rw [if_neg (by rw [u3]; decide)]
      obtain ⟨q, q1⟩ := k_lc (x := (Int32.toInt64 (o3 v)) * (232792560 : Int64)) (y := (Int32.toInt64 a5) * (232792560 : Int64)) n1 hg hn (twC_R b1 u2) u4
      rw [q1, bd_some]
      exact ⟨q, rfl⟩
  have k157 : S1.1 157 = S.1 157 := funext fun k => u2.1 157 k (by omega)
  have hm1 : twM (S1.1 157) s.1 s.2.1 := by rw [k157]; exact m1
  have e0 : eRm S1 (pI S1 145 36 0) := ⟨fun a k _ y => pI_ne y, fun _ _ _ => rfl⟩
  have o0 : okm s.1.length n (pI S1 145 36 0) 0 := ⟨by omega, pI_eq, fun k hk => absurd hk (Nat.not_lt_zero _)⟩
  obtain ⟨T1, c1, t1, t2, t3, t4⟩ := r_comes (h := 0) (f := f) (x := 0) (y := 0) n1 hn (by omega) hf o0
  have e01 := e0.tr t4
  obtain ⟨S2, c2, w1, w2, w3⟩ := r_74 (p2 := o3 g) (p4 := o3 v) (p5 := a5) n3 n4 n1 n2 hn (K := fun S40 => if (S40.1 145 36) ≤ (4000 : Int32) then (lp_X11_ripe_163 (o3 g) (o3 n) (o3 v) a5 (fun u120 S121 => some (u120, S121)) FU (-2 : Int32) (0 : Int32) S40) else (some ((-3 : Int32), S40))) (n + 1) 0 FU T1 c1 (by omega) (FU_lt (by omega)) (twM_R hm1 e01) t2
  have e2m := e01.tr w3
  have hmm : ∃ q, f_X11_ripe a1 a2 a3 a4 a5 S1 = some (q, S2) := by
    rw [mP S1 (congrFun k157 0), if_pos h5]
    rw [show f_X11_comes (0 : Int32) (o3 f) (0 : Int64) (0 : Int32) (pI S1 145 36 (0 : Int32)) = some T1 from t1, bd_some, show (0 : Int32) = o3 0 from rfl]
    have w1 : lp_X11_ripe_74 (o3 g) (o3 n) (o3 v) a5 _ FU (o3 0) T1 = _ := w1
    rw [show (fun S40 : fS => if (S40.1 145 36) ≤ (4000 : Int32) then (lp_X11_ripe_163 (o3 g) (o3 n) (o3 v) a5 (fun u120 S121 => some (u120, S121)) FU (-2 : Int32) (o3 0) S40) else (some ((-3 : Int32), S40))) = (fun S40 : fS => if (S40.1 145 36) ≤ (4000 : Int32) then (lp_X11_ripe_163 (o3 g) (o3 n) (o3 v) a5 (fun u120 S121 => some (u120, S121)) FU (-2 : Int32) (0 : Int32) S40) else (some ((-3 : Int32), S40))) from by rw [show (0 : Int32) = o3 0 from rfl], w1]
    have hc2 := w2.1
    split
    · obtain ⟨q, q1⟩ := r_163 (p2 := o3 g) (p3 := o3 n) (p4 := o3 v) (p5 := a5) w2 c2 0 FU (-2) (by omega) (FU_lt (by omega))
      rw [show (0 : Int32) = o3 0 from rfl]
      exact ⟨q, q1⟩
    · exact ⟨_, rfl⟩
  obtain ⟨q, hq⟩ := hc
  obtain ⟨q', hq'⟩ := hmm
  have f1 : ∀ a k, ¬ (45 ≤ a ∧ a ≤ 50) → ¬ (164 ≤ a ∧ a ≤ 167) → ¬ (a = 145 ∧ k = 36) → S2.1 a k = S.1 a k := fun a k x y z => (e2m.1 a k y z).trans (u2.1 a k x)
  have f2 : ∀ a k, ¬ (45 ≤ a ∧ a ≤ 50) → a ≠ 166 → S2.2 a k = S.2 a k := fun a k x y => (e2m.2 a k y).trans (u2.2 a k x)
  refine ⟨q, q', S1, S2, hq, hq', n', s, L, M, ?_, ?_, ?_, ?_⟩
  · exact rTp_eq hT (f1 _ _ (by omega) (by omega) (by omega)) (f1 _ _ (by omega) (by omega) (by omega)) (fun k => f1 _ _ (by omega) (by omega) (by omega)) (fun k => f1 _ _ (by omega) (by omega) (by omega))
  · exact rSc_eq hS0 (fun a k _ _ => f1 _ _ (by omega) (by omega) (by omega)) (fun a k _ _ => f2 _ _ (by omega) (by omega)) (by rw [f1 3 3 (by omega) (by omega) (by omega)]; exact b5) (fun k => f1 _ _ (by omega) (by omega) (by omega)) (fun a k _ => f2 _ _ (by omega) (by omega))
  · exact rRu_eq hL (f1 _ _ (by omega) (by omega) (by omega)) (f1 _ _ (by omega) (by omega) (by omega)) (fun a k _ _ _ => f1 _ _ (by omega) (by omega) (by omega)) (fun a k _ => f1 _ _ (by omega) (by omega) (by omega))
  · exact rIm_eq hM (fun a k _ _ => f1 _ _ (by omega) (by omega) (by omega)) (fun a k _ _ => f2 _ _ (by omega) (by omega)) (fun k => f1 _ _ (by omega) (by omega) (by omega)) (fun k => f2 _ _ (by omega) (by omega)) (fun k => f1 _ _ (by omega) (by omega) (by omega))
end
