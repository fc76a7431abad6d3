section
/-! ripe(): the reference, strictly -/
def hM (T : fS) (ky : Nat → Nat × Nat × Nat) (cr : Nat → Nat) (c : Nat) : Prop := c ≤ 4001 ∧ T.1 145 36 = o3 c ∧ ∀ k, k < c → T.1 164 k = o3 (ky k).1 ∧ T.1 165 k = o3 (ky k).2.1 ∧ T.2 166 k = o6 (ky k).2.2 ∧ T.1 167 k = o3 (cr k)
def RI (F : List (Nat × Nat)) (E : List St5) (f0 n : Nat) (T : fS) (ky : Nat → Nat × Nat × Nat) (cr : Nat → Nat) (c : Nat) : Prop := hM T ky cr c ∧ (∀ i j, i < j → j < c → ky i ≠ ky j) ∧ ∀ k, k < c → (ky k).1 ≤ n ∧ Rch F E f0 (ky k).1 (ky k).2.1 (ky k).2.2 (cr k)
/-- more of them, none of an hour up to u touched -/
def grw (u : Nat) (ky : Nat → Nat × Nat × Nat) (cr : Nat → Nat) (c : Nat) (ky' : Nat → Nat × Nat × Nat) (cr' : Nat → Nat) (c' : Nat) : Prop := c ≤ c' ∧ (∀ k, k < c → ky' k = ky k ∧ cr' k ≤ cr k ∧ ((ky k).1 ≤ u → cr' k = cr k)) ∧ ∀ k, c ≤ k → k < c' → u < (ky' k).1
theorem grw.rf {u c : Nat} {ky : Nat → Nat × Nat × Nat} {cr : Nat → Nat} : grw u ky cr c ky cr c := ⟨Nat.le_refl _, fun _ _ => ⟨rfl, Nat.le_refl _, fun _ => rfl⟩, fun k h1 h2 => absurd h2 (by omega)⟩
theorem grw.tr {u c c' c'' : Nat} {ky ky' ky'' : Nat → Nat × Nat × Nat} {cr cr' cr'' : Nat → Nat} (h : grw u ky cr c ky' cr' c') (g : grw u ky' cr' c' ky'' cr'' c'') : grw u ky cr c ky'' cr'' c'' := by
  obtain ⟨h1, h2, h3⟩ := h
  obtain ⟨g1, g2, g3⟩ := g
  refine ⟨by omega, fun k hk => ?_, fun k k1 k2 => ?_⟩
  · obtain ⟨a1, a2, a3⟩ := h2 k hk
    obtain ⟨b1, b2, b3⟩ := g2 k (by omega)
    refine ⟨b1.trans a1, by omega, fun z => ?_⟩
    rw [b3 (by rw [a1]; exact z), a3 z]
  · by_cases z : k < c'
    · rw [(g2 k z).1]
      exact h3 k k1 z
    · exact g3 k (by omega) k2
def snK (ky : Nat → Nat × Nat × Nat) (c : Nat) (x : Nat × Nat × Nat) : Nat → Nat × Nat × Nat := fun j => if j = c then x else ky j
theorem snK_n {ky : Nat → Nat × Nat × Nat} {c j : Nat} {x : Nat × Nat × Nat} (h : j ≠ c) : snK ky c x j = ky j := if_neg h
theorem snK_e {ky : Nat → Nat × Nat × Nat} {c : Nat} {x : Nat × Nat × Nat} : snK ky c x c = x := if_pos rfl
section ZM
variable {F : List (Nat × Nat)} {E : List St5} {f0 n : Nat}
theorem z_comes (hF : ∀ q ∈ F, okF q) (hE : ∀ q ∈ E, okS F.length q) (hm : F.length ≤ 10) (h0 : f0 < F.length) (hn : n ≤ 16) {h f a y c : Nat} (hh : h ≤ n) (hR : Rch F E f0 h f a y) {T : fS} {ky : Nat → Nat × Nat × Nat} {cr : Nat → Nat} (hT : RI F E f0 n T ky cr c) : ∃ U ky' cr' c', f_X11_comes (o3 h) (o3 f) (o6 a) (o3 y) T = some U ∧ RI F E f0 n U ky' cr' c' ∧ eRm T U ∧ (∀ u, u < h → grw u ky cr c ky' cr' c') ∧ c ≤ c' ∧ (c' = 4001 ∨ ∃ k, k < c' ∧ ky' k = (h, f, a) ∧ cr' k ≤ y) := by
  obtain ⟨⟨hc, h36, hk⟩, hd, hs⟩ := id hT
  obtain ⟨r1, r2, r3⟩ := Rch_b hF hE h0 hR
  have app : (∀ i, i < c → ky i ≠ (h, f, a)) → ∃ U ky' cr' c', (if (T.1 145 36) ≤ (4000 : Int32) then ((sI T 164 4001 (T.1 145 36) (o3 h)).bind fun S30 => (sI S30 165 4001 (S30.1 145 36) (o3 f)).bind fun S33 => (sL S33 166 4001 (S33.1 145 36) (o6 a)).bind fun S36 => (sI S36 167 4001 (S36.1 145 36) (o3 y)).bind fun S39 => (some (pI S39 145 36 ((S39.1 145 36) + (1 : Int32)))).bind fun S42 => some S42) else (some T)) = some U ∧ RI F E f0 n U ky' cr' c' ∧ eRm T U ∧ (∀ u, u < h → grw u ky cr c ky' cr' c') ∧ c ≤ c' ∧ (c' = 4001 ∨ ∃ k, k < c' ∧ ky' k = (h, f, a) ∧ cr' k ≤ y) := fun hne => by
    rw [h36]
    by_cases h4 : c ≤ 4000
    · rw [if_pos (show o3 c ≤ (4000 : Int32) from (o3_le (b := 4000) (by omega) (by omega)).mpr h4), sI_o (by omega) (by omega), bd_some, pI_ne (by omega), h36, sI_o (by omega) (by omega), bd_some, pI_ne (by omega), pI_ne (by omega), h36, sL_o (by omega) (by omega), bd_some]
      have e1 : (pL (pI (pI T 164 c (o3 h)) 165 c (o3 f)) 166 c (o6 a)).1 145 36 = o3 c := by
        show (pI (pI T 164 c (o3 h)) 165 c (o3 f)).1 145 36 = o3 c
        rw [pI_ne (by omega), pI_ne (by omega), h36]
      rw [e1, sI_o (by omega) (by omega), bd_some, bd_some, pI_ne (by omega), e1, o3_s]
      have g1 : ∀ b k, ¬ (b = 145 ∧ k = 36) → ¬ (b = 167 ∧ k = c) → ¬ (b = 165 ∧ k = c) → ¬ (b = 164 ∧ k = c) → (pI (pI (pL (pI (pI T 164 c (o3 h)) 165 c (o3 f)) 166 c (o6 a)) 167 c (o3 y)) 145 36 (o3 (c + 1))).1 b k = T.1 b k := fun b k x y z w => by
        rw [pI_ne x, pI_ne y]
        show (pI (pI T 164 c (o3 h)) 165 c (o3 f)).1 b k = T.1 b k
        rw [pI_ne z, pI_ne w]
      have g2 : ∀ b k, ¬ (b = 166 ∧ k = c) → (pI (pI (pL (pI (pI T 164 c (o3 h)) 165 c (o3 f)) 166 c (o6 a)) 167 c (o3 y)) 145 36 (o3 (c + 1))).2 b k = T.2 b k := fun b k x => by
        show (pL (pI (pI T 164 c (o3 h)) 165 c (o3 f)) 166 c (o6 a)).2 b k = T.2 b k
        rw [pL_ne x]
        rfl
      refine ⟨_, snK ky c (h, f, a), snA cr c y, c + 1, rfl, ⟨⟨by omega, pI_eq, fun k hk' => ?_⟩, fun i j i1 i2 => ?_, fun k hk' => ?_⟩, ⟨fun b k p q => g1 b k q (by omega) (by omega) (by omega), fun b k p => g2 b k (by omega)⟩, fun u hu => ⟨by omega, fun k hk' => ?_, fun k k1 k2 => ?_⟩, by omega, Or.inr ⟨c, by omega, snK_e, by rw [snA_e]; exact Nat.le_refl _⟩⟩
      · by_cases z : k = c
        · rw [z, snK_e, snA_e]
          refine ⟨?_, ?_, ?_, ?_⟩
          · rw [pI_ne (by omega), pI_ne (by omega)]
            show (pI (pI T 164 c (o3 h)) 165 c (o3 f)).1 164 c = o3 h
            rw [pI_ne (by omega), pI_eq]
          · rw [pI_ne (by omega), pI_ne (by omega)]
            show (pI (pI T 164 c (o3 h)) 165 c (o3 f)).1 165 c = o3 f
            rw [pI_eq]
          · show (pL (pI (pI T 164 c (o3 h)) 165 c (o3 f)) 166 c (o6 a)).2 166 c = o6 a
            rw [pL_eq]
          · rw [pI_ne (by omega), pI_eq]
        · obtain ⟨w1, w2, w3, w4⟩ := hk k (by omega)
          rw [snK_n z, snA_n z]
          exact ⟨(g1 _ _ (by omega) (by omega) (by omega) (by omega)).trans w1, (g1 _ _ (by omega) (by omega) (by omega) (by omega)).trans w2, (g2 _ _ (by omega)).trans w3, (g1 _ _ (by omega) (by omega) (by omega) (by omega)).trans w4⟩
      · rw [snK_n (show i ≠ c by omega)]
        by_cases z : j = c
        · rw [z, snK_e]; exact hne i (by omega)
        · rw [snK_n z]; exact hd i j i1 (by omega)
      · by_cases z : k = c
        · rw [z, snK_e, snA_e]; exact ⟨hh, hR⟩
        · rw [snK_n z, snA_n z]; exact hs k (by omega)
      · rw [snK_n (show k ≠ c by omega), snA_n (show k ≠ c by omega)]
        exact ⟨rfl, Nat.le_refl _, fun _ => rfl⟩
      · have ek : k = c := by omega
        rw [ek, snK_e]
        exact hu
    · rw [if_neg (show ¬ o3 c ≤ (4000 : Int32) from fun q => h4 ((o3_le (b := 4000) (by omega) (by omega)).mp q))]
      exact ⟨T, ky, cr, c, rfl, hT, eRm.rf, fun _ _ => grw.rf, Nat.le_refl _, Or.inl (by omega)⟩
  have key : ∀ d k nn, k + d = c → d < nn → (∀ i, i < k → ky i ≠ (h, f, a)) → ∃ U ky' cr' c', lp_X11_comes_3 (o3 h) (o3 f) (o6 a) (o3 y) (fun S27 => if (S27.1 145 36) ≤ (4000 : Int32) then ((sI S27 164 4001 (S27.1 145 36) (o3 h)).bind fun S30 => (sI S30 165 4001 (S30.1 145 36) (o3 f)).bind fun S33 => (sL S33 166 4001 (S33.1 145 36) (o6 a)).bind fun S36 => (sI S36 167 4001 (S36.1 145 36) (o3 y)).bind fun S39 => (some (pI S39 145 36 ((S39.1 145 36) + (1 : Int32)))).bind fun S42 => some S42) else (some S27)) nn (o3 k) T = some U ∧ RI F E f0 n U ky' cr' c' ∧ eRm T U ∧ (∀ u, u < h → grw u ky cr c ky' cr' c') ∧ c ≤ c' ∧ (c' = 4001 ∨ ∃ k, k < c' ∧ ky' k = (h, f, a) ∧ cr' k ≤ y) := by
    intro d
    induction d with
    | zero =>
      intro k nn hk' hnn hne
      obtain ⟨nn, rfl⟩ : ∃ z, nn = z + 1 := ⟨nn - 1, by omega⟩
      rw [lp_X11_comes_3.eq_2, if_pos (show T.1 145 36 ≤ o3 k by rw [h36]; exact (o3_le (by omega) (by omega)).mpr (by omega))]
      exact app (fun i hi => hne i (by omega))
    | succ d ih =>
      intro k nn hk' hnn hne
      obtain ⟨nn, rfl⟩ : ∃ z, nn = z + 1 := ⟨nn - 1, by omega⟩
      have hkc : k < c := by omega
      obtain ⟨w1, w2, w3, w4⟩ := hk k hkc
      obtain ⟨s1, s2⟩ := hs k hkc
      obtain ⟨b1, b2, b3⟩ := Rch_b hF hE h0 s2
      have go := fun (z : ky k ≠ (h, f, a)) => ih (k + 1) nn (by omega) (by omega) (fun i hi => by
        by_cases q : i = k
        · rw [q]; exact z
        · exact hne i (by omega))
      rw [lp_X11_comes_3.eq_2, if_neg (show ¬ T.1 145 36 ≤ o3 k by rw [h36]; exact fun q => by have := (o3_le (by omega) (by omega)).mp q; omega), gI_o (by omega) (by omega), gI_o (by omega) (by omega), gL_o (by omega) (by omega), gI_o (by omega) (by omega), bd_some, bd_some, bd_some, bd_some, bd_some, sI_o (by omega) (by omega), sI_o (by omega) (by omega), bd_some, bd_some, o3_s, pI_self, w1, w2, w3, w4]
      by_cases z1 : (ky k).1 = h
      · rw [if_pos (by rw [z1])]
        by_cases z2 : (ky k).2.1 = f
        · rw [if_pos (by rw [z2])]
          by_cases z3 : (ky k).2.2 = a
          · rw [if_pos (by rw [z3])]
            have ek : ky k = (h, f, a) := Prod.ext z1 (Prod.ext z2 z3)
            by_cases z4 : cr k ≤ y
            · rw [if_pos ((o3_le (by omega) (by omega)).mpr z4)]
              exact ⟨T, ky, cr, c, rfl, hT, eRm.rf, fun _ _ => grw.rf, Nat.le_refl _, Or.inr ⟨k, hkc, ek, z4⟩⟩
            · rw [if_neg (fun q => z4 ((o3_le (by omega) (by omega)).mp q))]
              refine ⟨_, ky, snA cr k y, c, rfl, ⟨⟨hc, (pI_ne (by omega)).trans h36, fun j hj => ?_⟩, hd, fun j hj => ?_⟩, ⟨fun b j p _ => pI_ne (by omega), fun _ _ _ => rfl⟩, fun u hu => ⟨Nat.le_refl _, fun j hj => ⟨rfl, ?_⟩, fun j j1 j2 => absurd j2 (by omega)⟩, Nat.le_refl _, Or.inr ⟨k, hkc, ek, by rw [snA_e]; exact Nat.le_refl _⟩⟩
              · obtain ⟨x1, x2, x3, x4⟩ := hk j hj
                refine ⟨(pI_ne (by omega)).trans x1, (pI_ne (by omega)).trans x2, x3, ?_⟩
                by_cases q : j = k
                · rw [q, snA_e, pI_eq]
                · rw [snA_n q, pI_ne (by omega)]; exact x4
              · obtain ⟨x1, x2⟩ := hs j hj
                refine ⟨x1, ?_⟩
                by_cases q : j = k
                · rw [q, snA_e, ek]; exact hR
                · rw [snA_n q]; exact x2
              · by_cases q : j = k
                · rw [q, snA_e, z1]
                  exact ⟨by omega, fun q => absurd q (by omega)⟩
                · rw [snA_n q]
                  exact ⟨Nat.le_refl _, fun _ => rfl⟩
          · rw [if_neg (fun q => z3 ((o6_inj (by omega) (by omega)).mp q))]
            exact go (fun q => z3 (by rw [q]))
        · rw [if_neg (fun q => z2 ((o3_inj (by omega) (by omega)).mp q))]
          exact go (fun q => z2 (by rw [q]))
      · rw [if_neg (fun q => z1 ((o3_inj (by omega) (by omega)).mp q))]
        exact go (fun q => z1 (by rw [q]))
  exact key c 0 FU (by omega) (FU_lt (by omega)) (fun i hi => absurd hi (Nat.not_lt_zero _))
/-- every step of the first s stairs, out of there, has come -/
def EXs (F : List (Nat × Nat)) (E : List St5) (n s : Nat) (ky : Nat → Nat × Nat × Nat) (cr : Nat → Nat) (c h f a y : Nat) : Prop := ∀ t' f' a' c', stK F E s h f a y t' f' a' c' → t' ≤ n → ∃ k, k < c ∧ ky k = (t', f', a') ∧ cr k ≤ c'
theorem EXs_g {u s c c' h f a y : Nat} {ky ky' : Nat → Nat × Nat × Nat} {cr cr' : Nat → Nat} (hx : EXs F E n s ky cr c h f a y) (hg : grw u ky cr c ky' cr' c') : EXs F E n s ky' cr' c' h f a y := fun t' f' a' x hst ht => by
  obtain ⟨k, k1, k2, k3⟩ := hx t' f' a' x hst ht
  obtain ⟨g1, g2, g3⟩ := hg.2.1 k k1
  have := hg.1
  exact ⟨k, by omega, g1.trans k2, by omega⟩
end ZM
end
