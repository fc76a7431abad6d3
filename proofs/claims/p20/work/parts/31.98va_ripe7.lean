section
/-! ripe(): the class, strictly: merging -/
def ris (A : Nat → Nat) (lo hi : Nat) : Prop := ∀ i j, lo ≤ i → i < j → j < hi → A i / 32 < A j / 32
/-- how many entries are left -/
def pnd (e h : Nat → Nat) : Nat → Nat
  | 0 => 0
  | q + 1 => pnd e h q + (e q - h q)
theorem pnd_le {e h : Nat → Nat} : ∀ q, (∀ k, k < q → e k ≤ 4000) → pnd e h q ≤ 4000 * q := by
  intro q
  induction q with
  | zero => intro _; exact Nat.le_refl _
  | succ q ih =>
    intro hk
    have h1 := ih (fun k x => hk k (by omega))
    have h2 := hk q (by omega)
    show pnd e h q + (e q - h q) ≤ 4000 * (q + 1)
    omega
theorem pnd_cg {e h h' : Nat → Nat} : ∀ q, (∀ k, k < q → h k = h' k) → pnd e h q = pnd e h' q := by
  intro q
  induction q with
  | zero => intro _; rfl
  | succ q ih =>
    intro hk
    show pnd e h q + (e q - h q) = pnd e h' q + (e q - h' q)
    rw [ih (fun k x => hk k (by omega)), hk q (by omega)]
theorem pnd_s {e h : Nat → Nat} {k0 : Nat} (hlt : h k0 < e k0) : ∀ q, k0 < q → pnd e (snA h k0 (h k0 + 1)) q + 1 = pnd e h q := by
  intro q
  induction q with
  | zero => intro hk; exact absurd hk (Nat.not_lt_zero _)
  | succ q ih =>
    intro hk
    show pnd e (snA h k0 (h k0 + 1)) q + (e q - snA h k0 (h k0 + 1) q) + 1 = pnd e h q + (e q - h q)
    by_cases z : q = k0
    · have e1 : pnd e (snA h k0 (h k0 + 1)) q = pnd e h q := pnd_cg q (fun k x => snA_n (by omega))
      rw [e1, z, snA_e]
      omega
    · have e1 := ih (by omega)
      rw [snA_n z]
      omega
def vlS (A h e g : Nat → Nat) (k : Nat) (p1 : Int32) (p2 : Int64) : Prop := (p1 = -1 ∧ ∀ k', k' < k → e k' ≤ h k') ∨ ∃ k0, k0 < k ∧ h k0 < e k0 ∧ p1 = o3 k0 ∧ p2 = o6 (A (h k0) + g k0) ∧ ∀ k', k' < k → h k' < e k' → A (h k0) + g k0 ≤ A (h k') + g k'
theorem q_least {T : fS} {A h e g : Nat → Nat} {c q : Nat} (hT : hA T A c) (hq : hQ T q h e g) (hec : ∀ k, k < q → e k ≤ c) : (f_X3_leastSource T = some (-1) ∧ ∀ k, k < q → e k ≤ h k) ∨ ∃ k, k < q ∧ h k < e k ∧ f_X3_leastSource T = some (o3 k) ∧ ∀ k', k' < q → h k' < e k' → A (h k) + g k ≤ A (h k') + g k' := by
  obtain ⟨q1, q2, q3⟩ := hq
  obtain ⟨c4, c5, c6⟩ := hT
  have key : ∀ d k nn (p1 : Int32) (p2 : Int64), k + d = q → d < nn → vlS A h e g k p1 p2 → ∃ r p2', lp_X3_leastSource_7 T (fun u20 => some u20) nn p1 p2 (o3 k) = some r ∧ vlS A h e g q r p2' := by
    intro d
    induction d with
    | zero =>
      intro k nn p1 p2 hk hnn hv
      obtain ⟨nn, rfl⟩ : ∃ z, nn = z + 1 := ⟨nn - 1, by omega⟩
      rw [lp_X3_leastSource_7.eq_2, q2, if_pos ((o3_le (by omega) (by omega)).mpr (by omega))]
      rw [show k = q by omega] at hv
      exact ⟨p1, p2, rfl, hv⟩
    | succ d ih =>
      intro k nn p1 p2 hk hnn hv
      obtain ⟨nn, rfl⟩ : ∃ z, nn = z + 1 := ⟨nn - 1, by omega⟩
      have hkq : k < q := by omega
      obtain ⟨s1, s2, s3, s4, s5, s6⟩ := q3 k hkq
      have hek := hec k hkq
      rw [lp_X3_leastSource_7.eq_2, q2, if_neg (fun q => by have := (o3_le (by omega) (by omega)).mp q; omega), gI_o (by omega) (by omega), bd_some, gI_o (by omega) (by omega), bd_some, s1, s2, o3_s]
      by_cases hlt : h k < e k
      · obtain ⟨a1, a2⟩ := c6 (h k) (by omega)
        rw [if_pos ((o3_lt (by omega) (by omega)).mpr hlt), bd_some, gL_o (by omega) (by omega), bd_some, gL_o (by omega) (by omega), bd_some, a1, s3, o6_add]
        rcases hv with ⟨v1, v2⟩ | ⟨k0, v1, v2, v3, v4, v5⟩
        · rw [v1, if_pos (show (-1 : Int32) < 0 by decide)]
          refine ih (k + 1) nn _ _ (by omega) (by omega) (Or.inr ⟨k, by omega, hlt, rfl, rfl, fun k' h1 h2 => ?_⟩)
          by_cases z : k' = k
          · rw [z]; exact Nat.le_refl _
          · have := v2 k' (by omega)
            omega
        · have h0 := c6 (h k0) (by have := hec k0 (by omega); omega)
          have h6 := (q3 k0 (by omega)).2.2.2.2.2
          rw [v3, v4, if_neg (o3_nn (by omega))]
          by_cases hle : A (h k0) + g k0 ≤ A (h k) + g k
          · rw [if_pos ((o6_le (by omega) (by omega)).mpr hle)]
            refine ih (k + 1) nn _ _ (by omega) (by omega) (Or.inr ⟨k0, by omega, v2, rfl, rfl, fun k' h1 h2 => ?_⟩)
            by_cases z : k' = k
            · rw [z]; exact hle
            · exact v5 k' (by omega) h2
          · rw [if_neg (fun z => hle ((o6_le (by omega) (by omega)).mp z))]
            refine ih (k + 1) nn _ _ (by omega) (by omega) (Or.inr ⟨k, by omega, hlt, rfl, rfl, fun k' h1 h2 => ?_⟩)
            by_cases z : k' = k
            · rw [z]; exact Nat.le_refl _
            · have := v5 k' (by omega) h2
              omega
      · rw [if_neg (fun z => hlt ((o3_lt (by omega) (by omega)).mp z))]
        refine ih (k + 1) nn _ _ (by omega) (by omega) ?_
        rcases hv with ⟨v1, v2⟩ | ⟨k0, v1, v2, v3, v4, v5⟩
        · refine Or.inl ⟨v1, fun k' h1 => ?_⟩
          by_cases z : k' = k
          · rw [z]; omega
          · exact v2 k' (by omega)
        · refine Or.inr ⟨k0, by omega, v2, v3, v4, fun k' h1 h2 => ?_⟩
          by_cases z : k' = k
          · rw [z] at h2; exact absurd h2 hlt
          · exact v5 k' (by omega) h2
  obtain ⟨r, p2, r1, r2⟩ := key q 0 FU (-1) 0 (by omega) (FU_lt (by omega)) (Or.inl ⟨rfl, fun k' h1 => absurd h1 (Nat.not_lt_zero _)⟩)
  have r1 : f_X3_leastSource T = some r := r1
  rcases r2 with ⟨v1, v2⟩ | ⟨k0, v1, v2, v3, v4, v5⟩
  · rw [v1] at r1
    exact Or.inl ⟨r1, v2⟩
  · rw [v3] at r1
    exact Or.inr ⟨k0, v1, v2, r1, v5⟩
/-- what is still to come -/
def src (q : Nat) (h e g B : Nat → Nat) (x : Nat) : Prop := ∃ k i, k < q ∧ h k ≤ i ∧ i < e k ∧ x = B i + g k
theorem src_s {q k0 x : Nat} {h e g B : Nat → Nat} (hs : src q (snA h k0 (h k0 + 1)) e g B x) : src q h e g B x := by
  obtain ⟨k, i, h1, h2, h3, h4⟩ := hs
  refine ⟨k, i, h1, ?_, h3, h4⟩
  by_cases z : k = k0
  · rw [z, snA_e] at h2
    rw [z]
    omega
  · rw [snA_n z] at h2
    exact h2
theorem src_c {q k0 x : Nat} {h e g B : Nat → Nat} (hs : src q h e g B x) : x = B (h k0) + g k0 ∨ src q (snA h k0 (h k0 + 1)) e g B x := by
  obtain ⟨k, i, h1, h2, h3, h4⟩ := hs
  by_cases z : k = k0
  · rw [z] at h2 h3 h4
    by_cases y : i = h k0
    · rw [y] at h4; exact Or.inl h4
    · refine Or.inr ⟨k0, i, by omega, ?_, h3, h4⟩
      rw [snA_e]
      omega
  · refine Or.inr ⟨k, i, h1, ?_, h3, h4⟩
    rw [snA_n z]
    exact h2
section MG
variable {st q : Nat} {e g h0 B : Nat → Nat}
theorem ris_n {A : Nat → Nat} {c x : Nat} (hr : ris A st c) (hx : ∀ j, st ≤ j → j < c → A j / 32 < x / 32) : ris (snA A c x) st (c + 1) := fun i j h1 h2 h3 => by
  rw [snA_l (show i < c by omega)]
  by_cases z : j = c
  · rw [z, snA_e]; exact hx i h1 (by omega)
  · rw [snA_n z]; exact hr i j h1 h2 (by omega)
theorem ris_l {A : Nat → Nat} {c x : Nat} (hr : ris A st c) (hl : st < c → A (c - 1) ≤ x) (hn : ¬ (st < c ∧ A (c - 1) / 32 = x / 32)) : ∀ j, st ≤ j → j < c → A j / 32 < x / 32 := fun j h1 h2 => by
  have h3 := hl (by omega)
  have h4 : A (c - 1) / 32 ≤ x / 32 := Nat.div_le_div_right h3
  have h5 : A (c - 1) / 32 < x / 32 := by
    have : A (c - 1) / 32 ≠ x / 32 := fun z => hn ⟨by omega, z⟩
    omega
  by_cases z : j = c - 1
  · rw [z]; exact h5
  · have := hr j (c - 1) h1 (by omega) (by omega)
    omega
theorem q_merge (he : ∀ k, k < q → e k ≤ st) (hbd : ∀ k i, k < q → h0 k ≤ i → i < e k → B i + g k < 4398046511104) (hmo : ∀ k i, k < q → h0 k ≤ i → i + 1 < e k → B i < B (i + 1)) : ∀ d k nn T A c h, k + d = 52001 → d < nn → hA T A c → (∀ i, i < st → A i = B i) → st ≤ c → hQ T q h e g → (∀ k, k < q → h0 k ≤ h k) → pnd e h q < d → ris A st c → (st < c → ∀ k, k < q → h k < e k → A (c - 1) ≤ B (h k) + g k) → ∃ U A' c', eMg T U ∧ hA U A' c' ∧ c ≤ c' ∧ (∀ j, j < c → A' j = A j) ∧ ris A' st c' ∧ (∀ j, c ≤ j → j < c' → src q h e g B (A' j)) ∧ ((lp_X3_merge_2 (o3 st) (fun S25 => some ((0 : Int32), S25)) nn (o3 k) T = some (1, U) ∧ ∀ x, src q h e g B x → ∃ j, st ≤ j ∧ j < c' ∧ A' j / 32 = x / 32 ∧ A' j ≤ x) ∨ (lp_X3_merge_2 (o3 st) (fun S25 => some ((0 : Int32), S25)) nn (o3 k) T = some (0, U) ∧ c' = 4000 ∧ ∃ x, src q h e g B x ∧ ∀ j, st ≤ j → j < 4000 → A' j / 32 < x / 32)) := by
  intro d
  induction d with
  | zero =>
    intro k nn T A c h _ _ _ _ _ _ _ hp
    exact absurd hp (Nat.not_lt_zero _)
  | succ d ih =>
    intro k nn T A c h hk hnn hT hAB hs hq hh hp hr hl
    obtain ⟨nn, rfl⟩ : ∃ z, nn = z + 1 := ⟨nn - 1, by omega⟩
    have h4 := hT.1
    have hlp : lp_X3_merge_2 (o3 st) (fun S25 => some ((0 : Int32), S25)) (nn + 1) (o3 k) T = ((f_X3_leastSource T).bind fun q2 => if (0 : Int32) ≤ q2 then ((gI T 48 13 q2).bind fun a6 => (gI T 48 13 q2).bind fun a9 => (sI T 48 13 q2 (a9 + (1 : Int32))).bind fun S12 => (gL S12 46 4000 a6).bind fun a15 => (gL S12 50 13 q2).bind fun a18 => (f_X3_keep (o3 st) (a15 + a18) S12).bind fun q21 => if q21.1 = (0 : Int32) then (some ((0 : Int32), q21.2)) else (lp_X3_merge_2 (o3 st) (fun S25 => some ((0 : Int32), S25)) nn (o3 (k + 1)) q21.2)) else (some ((1 : Int32), T))) := by
      rw [lp_X3_merge_2.eq_2, if_neg (show ¬ (52000 : Int32) < o3 k from fun z => by have := (o3_lt (a := 52000) (by omega) (by omega)).mp z; omega), o3_s]
    rcases q_least hT hq (fun k hk => by have := he k hk; omega) with ⟨r1, r2⟩ | ⟨k0, k1, k2, k3, k5⟩
    · refine ⟨T, A, c, eMg.rf, hT, Nat.le_refl _, fun _ _ => rfl, hr, fun j h1 h2 => absurd h2 (by omega), Or.inl ⟨?_, fun x hx => ?_⟩⟩
      · rw [hlp, r1, bd_some, if_neg (show ¬ (0 : Int32) ≤ -1 by decide)]
      · obtain ⟨k', i, x1, x2, x3, _⟩ := hx
        have := r2 k' x1
        omega
    · obtain ⟨q1, q2, q3⟩ := id hq
      obtain ⟨s1, s2, s3, s4, s5, s6⟩ := q3 k0 k1
      have hk0 := he k0 k1
      have hi0 : A (h k0) = B (h k0) := hAB _ (by omega)
      have hx : B (h k0) + g k0 < 4398046511104 := hbd k0 (h k0) k1 (hh k0 k1) k2
      have eT : eMg T (pI T 48 k0 (o3 (h k0 + 1))) := ⟨fun a k _ y => pI_ne (by omega), fun _ _ _ => rfl⟩
      have hT1 : hA (pI T 48 k0 (o3 (h k0 + 1))) A c := ⟨h4, (pI_ne (by omega)).trans hT.2.1, hT.2.2⟩
      have hq1 : hQ (pI T 48 k0 (o3 (h k0 + 1))) q (snA h k0 (h k0 + 1)) e g := ⟨q1, (pI_ne (by omega)).trans q2, fun k hk => by
        obtain ⟨c1, c2, c3, c4, c5, c6⟩ := q3 k hk
        by_cases z : k = k0
        · rw [z, snA_e]
          exact ⟨pI_eq, (pI_ne (by omega)).trans s2, s3, by omega, s5, s6⟩
        · rw [snA_n z]
          exact ⟨(pI_ne (by omega)).trans c1, (pI_ne (by omega)).trans c2, c3, c4, c5, c6⟩⟩
      have hh1 : ∀ k, k < q → h0 k ≤ snA h k0 (h k0 + 1) k := fun k hk => by
        have := hh k hk
        by_cases z : k = k0
        · rw [z, snA_e]
          rw [z] at this
          omega
        · rw [snA_n z]; exact this
      have hp1 : pnd e (snA h k0 (h k0 + 1)) q < d := by
        have := pnd_s k2 q k1
        omega
      have hnx : ∀ k, k < q → snA h k0 (h k0 + 1) k < e k → B (h k0) + g k0 ≤ B (snA h k0 (h k0 + 1) k) + g k := fun k hk hlt => by
        by_cases z : k = k0
        · rw [z, snA_e] at hlt ⊢
          have := hmo k0 (h k0) k1 (hh k0 k1) hlt
          omega
        · rw [snA_n z] at hlt ⊢
          have a := k5 k hk hlt
          have b := he k hk
          rw [hi0, hAB (h k) (by omega)] at a
          exact a
      have hlp2 : lp_X3_merge_2 (o3 st) (fun S25 => some ((0 : Int32), S25)) (nn + 1) (o3 k) T = ((f_X3_keep (o3 st) (o6 (B (h k0) + g k0)) (pI T 48 k0 (o3 (h k0 + 1)))).bind fun q21 => if q21.1 = (0 : Int32) then (some ((0 : Int32), q21.2)) else (lp_X3_merge_2 (o3 st) (fun S25 => some ((0 : Int32), S25)) nn (o3 (k + 1)) q21.2)) := by
        have y1 : (pI T 48 k0 (o3 (h k0 + 1))).2 46 (h k0) = o6 (B (h k0)) := by
          rw [← hi0]
          exact (hT.2.2 (h k0) (by omega)).1
        have y2 : (pI T 48 k0 (o3 (h k0 + 1))).2 50 k0 = o6 (g k0) := s3
        rw [hlp, k3, bd_some, if_pos (o3_0le (by omega)), gI_o (by omega) (by omega), bd_some, bd_some, sI_o (by omega) (by omega), bd_some, s1, o3_s, gL_o (by omega) (by omega), bd_some, gL_o (by omega) (by omega), bd_some, y1, y2, o6_add]
      have n10 : ¬ (1 : Int32) = 0 := by decide
      rcases q_keep (st := st) hT1 hx with ⟨w1, w2, w3⟩ | ⟨w1, w2, U, w3, w4, w5⟩ | ⟨w1, w2, w3⟩ | w1
      · rw [w3, bd_some] at hlp2
        dsimp only at hlp2
        rw [if_neg n10] at hlp2
        obtain ⟨V, A', c', v1, v2, v3, v4, v5, v6, v7⟩ := ih (k + 1) nn _ A c _ (by omega) (by omega) hT1 hAB hs hq1 hh1 hp1 hr (fun hsc k hk hlt => Nat.le_trans (by have := hl hsc k0 k1 k2; exact this) (hnx k hk hlt))
        rw [hlp2]
        refine ⟨V, A', c', eT.tr v1, v2, v3, v4, v5, fun j h1 h2 => src_s (v6 j h1 h2), ?_⟩
        rcases v7 with ⟨v7, v8⟩ | ⟨v7, v8, x, v9, v10⟩
        · refine Or.inl ⟨v7, fun x hx => ?_⟩
          rcases src_c (k0 := k0) hx with y | y
          · refine ⟨c - 1, by omega, by omega, ?_, ?_⟩
            · rw [v4 (c - 1) (by omega), y]; exact w2
            · rw [v4 (c - 1) (by omega), y]; exact hl w1 k0 k1 k2
          · exact v8 x y
        · exact Or.inr ⟨v7, v8, x, src_s v9, v10⟩
      · rw [w3, bd_some] at hlp2
        dsimp only at hlp2
        rw [if_neg n10] at hlp2
        have hlx := ris_l hr (fun hsc => hl hsc k0 k1 k2) w1
        have hAB1 : ∀ i, i < st → snA A c (B (h k0) + g k0) i = B i := fun i hi => by
          rw [snA_l (by omega)]; exact hAB i hi
        have hqU : hQ U q (snA h k0 (h k0 + 1)) e g := by
          obtain ⟨z1, z2, z3⟩ := hq1
          refine ⟨z1, (w5.1 _ _ (by omega)).trans z2, fun k hk => ?_⟩
          obtain ⟨c1, c2, c3, c4, c5, c6⟩ := z3 k hk
          exact ⟨(w5.1 _ _ (by omega)).trans c1, (w5.1 _ _ (by omega)).trans c2, (w5.2 _ _ (by omega)).trans c3, c4, c5, c6⟩
        have eU : eMg (pI T 48 k0 (o3 (h k0 + 1))) U := ⟨fun a k x _ => w5.1 a k x, w5.2⟩
        obtain ⟨V, A', c', v1, v2, v3, v4, v5, v6, v7⟩ := ih (k + 1) nn U _ (c + 1) _ (by omega) (by omega) w4 hAB1 (by omega) hqU hh1 hp1 (ris_n hr hlx) (fun _ k hk hlt => by
          rw [Nat.add_sub_cancel, snA_e]
          exact hnx k hk hlt)
        rw [hlp2]
        have hA'c : A' c = B (h k0) + g k0 := by rw [v4 c (by omega), snA_e]
        refine ⟨V, A', c', (eT.tr eU).tr v1, v2, by omega, fun j hj => ?_, v5, fun j h1 h2 => ?_, ?_⟩
        · rw [v4 j (by omega), snA_l hj]
        · by_cases z : j = c
          · rw [z, hA'c]
            exact ⟨k0, h k0, k1, Nat.le_refl _, k2, rfl⟩
          · exact src_s (v6 j (by omega) h2)
        · rcases v7 with ⟨v7, v8⟩ | ⟨v7, v8, x, v9, v10⟩
          · refine Or.inl ⟨v7, fun x hx => ?_⟩
            rcases src_c (k0 := k0) hx with y | y
            · refine ⟨c, by omega, by omega, ?_, ?_⟩
              · rw [hA'c, y]
              · rw [hA'c, y]; exact Nat.le_refl _
            · exact v8 x y
          · exact Or.inr ⟨v7, v8, x, src_s v9, v10⟩
      · rw [w3, bd_some] at hlp2
        dsimp only at hlp2
        rw [if_pos rfl] at hlp2
        have hlx := ris_l hr (fun hsc => hl hsc k0 k1 k2) w1
        rw [hlp2]
        exact ⟨_, A, c, eT, hT1, Nat.le_refl _, fun _ _ => rfl, hr, fun j h1 h2 => absurd h2 (by omega), Or.inr ⟨rfl, w2, _, ⟨k0, h k0, k1, Nat.le_refl _, k2, rfl⟩, fun j h1 h2 => hlx j h1 (by omega)⟩⟩
      · exact absurd w1 (by omega)
theorem q_mg {T : fS} {A : Nat → Nat} {c : Nat} (he : ∀ k, k < q → e k ≤ st) (hbd : ∀ k i, k < q → h0 k ≤ i → i < e k → B i + g k < 4398046511104) (hmo : ∀ k i, k < q → h0 k ≤ i → i + 1 < e k → B i < B (i + 1)) (hT : hA T A c) (hAB : ∀ i, i < st → A i = B i) (hs : st ≤ c) (hq : hQ T q h0 e g) (hr : ris A st c) (hl : st < c → ∀ k, k < q → h0 k < e k → A (c - 1) ≤ B (h0 k) + g k) : ∃ U A' c', eMg T U ∧ hA U A' c' ∧ c ≤ c' ∧ (∀ j, j < c → A' j = A j) ∧ ris A' st c' ∧ (∀ j, c ≤ j → j < c' → src q h0 e g B (A' j)) ∧ ((f_X3_merge (o3 st) T = some (1, U) ∧ ∀ x, src q h0 e g B x → ∃ j, st ≤ j ∧ j < c' ∧ A' j / 32 = x / 32 ∧ A' j ≤ x) ∨ (f_X3_merge (o3 st) T = some (0, U) ∧ c' = 4000 ∧ ∃ x, src q h0 e g B x ∧ ∀ j, st ≤ j → j < 4000 → A' j / 32 < x / 32)) := by
  have h13 := hq.1
  have hp := pnd_le (e := e) (h := h0) q (fun k hk => (hq.2.2 k hk).2.2.2.2.1)
  exact q_merge he hbd hmo 52001 0 FU T A c h0 (by omega) (FU_lt (by omega)) hT hAB hs hq (fun _ _ => Nat.le_refl _) (by omega) hr hl
end MG
end
