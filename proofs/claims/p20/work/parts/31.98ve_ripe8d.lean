section
section ZG
variable {F : List (Nat × Nat)} {E : List St5} {f0 n : Nat}
theorem z_51 (hF : ∀ q ∈ F, okF q) (hE : ∀ q ∈ E, okS F.length q) (hm : F.length ≤ 10) (hl : E.length ≤ 12) (h0 : f0 < F.length) (hn : n ≤ 16) {i h f a y : Nat} (hh : h ≤ n) (hR : Rch F E f0 h f a y) (hi : i < 4001) {K : fS → Option fS} : ∀ d k nn T ky cr c, k + d = E.length → d < nn → twM (T.1 157) F E → RI F E f0 n T ky cr c → i < c → ky i = (h, f, a) → cr i = y → (c = 4001 ∨ EXs F E n k ky cr c h f a y) → ∃ U ky' cr' c', lp_X11_goesOn_51 (o3 i) (o3 n) (o3 h) (o3 f) K nn (o3 k) T = K U ∧ RI F E f0 n U ky' cr' c' ∧ eRm T U ∧ grw h ky cr c ky' cr' c' ∧ (c' = 4001 ∨ EXs F E n E.length ky' cr' c' h f a y) := by
  obtain ⟨rf, ra, ry⟩ := Rch_b hF hE h0 hR
  intro d
  induction d with
  | zero =>
    intro k nn T ky cr c hk hnn m1 hT hic hki hci hx
    obtain ⟨nn, rfl⟩ : ∃ z, nn = z + 1 := ⟨nn - 1, by omega⟩
    rw [lp_X11_goesOn_51.eq_2, show gI T 157 158 1 = some (o3 E.length) from (gI_o (k := 1) (by omega) (by omega)).trans (congrArg some m1.2.1), bd_some, if_pos ((o3_le (by omega) (by omega)).mpr (by omega))]
    have hke : k = E.length := by omega
    rw [hke] at hx
    exact ⟨T, ky, cr, c, rfl, hT, eRm.rf, grw.rf, hx⟩
  | succ d ih =>
    intro k nn T ky cr c hk hnn m1 hT hic hki hci hx
    obtain ⟨nn, rfl⟩ : ∃ z, nn = z + 1 := ⟨nn - 1, by omega⟩
    have hkl : k < E.length := by omega
    have hq' := hE _ (gd_mem (d := d5) hkl)
    have h9 := hq'.2.2.2.2.1
    have h1 := hq'.2.2.2.1
    have heh : ehh E k = (E.getD k d5).2.2.1 := rfl
    have e3 : f_X11_stairOf (o3 k) 2 T = some (o3 (E.getD k d5).2.2.1) := (mh_stair m1 hl hkl).2.2.1
    obtain ⟨w1, w2, w3, w4⟩ := hT.1.2.2 i hic
    rw [hki] at w3
    rw [hci] at w4
    have w3 : T.2 166 i = o6 a := w3
    have ext : (∀ f', eto E k f f' → h + ehh E k ≤ n → ∃ j, j < c ∧ ky j = (h + ehh E k, f', a + ez E k) ∧ cr j ≤ y + ehh E k) → EXs F E n k ky cr c h f a y → EXs F E n (k + 1) ky cr c h f a y := fun hn hx t' f' a' c' hst ht => by
      rcases hst with hst | ⟨k', k1, k2, k3, k4, k5⟩
      · exact hx t' f' a' c' (Or.inl hst) ht
      · by_cases z : k' = k
        · rw [z] at k2 k3 k4 k5
          rw [k3, k4, k5]
          exact hn f' k2 (by omega)
        · exact hx t' f' a' c' (Or.inr ⟨k', by omega, k2, k3, k4, k5⟩) ht
    rw [lp_X11_goesOn_51.eq_2, show gI T 157 158 1 = some (o3 E.length) from (gI_o (k := 1) (by omega) (by omega)).trans (congrArg some m1.2.1), bd_some, if_neg (fun q => by have := (o3_le (by omega) (by omega)).mp q; omega), e3, bd_some, mh_other m1 hE hm hl hkl (by omega), bd_some, bd_some, o3_s, o3_add]
    rcases oe_or (a := f) hq' hm with ⟨o, o1, o2, o4⟩ | ⟨o2, o4, o5⟩
    · have het : eto E k f o := ⟨hkl, o4⟩
      have hok := eto_ok hE het
      rw [o2, if_neg (o3_nn (by omega))]
      by_cases hlt : n < h + (E.getD k d5).2.2.1
      · rw [if_pos ((o3_lt (by omega) (by omega)).mpr hlt)]
        refine ih (k + 1) nn T ky cr c (by omega) (by omega) m1 hT hic hki hci ?_
        rcases hx with hx | hx
        · exact Or.inl hx
        · exact Or.inr (ext (fun f' _ z => absurd z (by omega)) hx)
      · rw [if_neg (fun q => hlt ((o3_lt (by omega) (by omega)).mp q)), gL_o (by omega) (by omega), bd_some, mp_stair m1 hE hl hkl, bd_some, gI_o (by omega) (by omega), bd_some, w3, w4, pc_o, o6_of3 (by omega), o6_mul, o6_add, o3_add]
        have hR2 : Rch F E f0 (h + ehh E k) o (a + ez E k) (y + ehh E k) := Rch_s hR (Or.inr ⟨k, hkl, het, rfl, rfl, rfl⟩)
        obtain ⟨U, ky1, cr1, c1, u1, u2, u3, u4, u5, u6⟩ := z_comes hF hE hm h0 hn (by omega) hR2 hT
        have u1 : f_X11_comes (o3 (h + (E.getD k d5).2.2.1)) (o3 o) (o6 (a + (E.getD k d5).2.2.1 * ((E.getD k d5).2.2.2.1 * pz (E.getD k d5).2.2.2))) (o3 (y + (E.getD k d5).2.2.1)) T = some U := u1
        rw [u1, bd_some]
        have hg := u4 h (by omega)
        obtain ⟨g1, g2, g3⟩ := hg.2.1 i hic
        obtain ⟨V, ky2, cr2, c2, v1, v2, v3, v4, v5⟩ := ih (k + 1) nn U ky1 cr1 c1 (by omega) (by omega) (twM_R m1 u3) u2 (by omega) (g1.trans hki) ((g3 (by rw [hki]; exact Nat.le_refl _)).trans hci) (by
          rcases u6 with u6 | ⟨j, j1, j2, j3⟩
          · exact Or.inl u6
          · rcases hx with hx | hx
            · have := u2.1.1
              exact Or.inl (by omega)
            · refine Or.inr (fun t' f' a' c' hst ht => ?_)
              rcases hst with hst | ⟨k', k1, k2, k3, k4, k5⟩
              · exact EXs_g hx hg t' f' a' c' (Or.inl hst) ht
              · by_cases z : k' = k
                · rw [z] at k2 k3 k4 k5
                  rw [k3, k4, k5, eto_fn k2 het]
                  exact ⟨j, j1, j2, j3⟩
                · exact EXs_g hx hg t' f' a' c' (Or.inr ⟨k', by omega, k2, k3, k4, k5⟩) ht)
        exact ⟨V, ky2, cr2, c2, v1, v2, u3.tr v3, hg.tr v4, v5⟩
    · rw [o2, if_pos (show (-1 : Int32) < 0 by decide)]
      refine ih (k + 1) nn T ky cr c (by omega) (by omega) m1 hT hic hki hci ?_
      rcases hx with hx | hx
      · exact Or.inl hx
      · refine Or.inr (ext (fun f' z _ => ?_) hx)
        rcases z.2 with ⟨z, _⟩ | ⟨_, z, _⟩
        · exact absurd z o4
        · exact absurd z o5
theorem z_go (hF : ∀ q ∈ F, okF q) (hE : ∀ q ∈ E, okS F.length q) (hm : F.length ≤ 10) (hl : E.length ≤ 12) (h0 : f0 < F.length) (hn : n ≤ 16) {i h f a y c : Nat} {T : fS} {ky : Nat → Nat × Nat × Nat} {cr : Nat → Nat} (hi : i < c) (m1 : twM (T.1 157) F E) (hT : RI F E f0 n T ky cr c) (hki : ky i = (h, f, a)) (hci : cr i = y) : ∃ U ky' cr' c', f_X11_goesOn (o3 i) (o3 n) T = some U ∧ RI F E f0 n U ky' cr' c' ∧ eRm T U ∧ grw h ky cr c ky' cr' c' ∧ (c' = 4001 ∨ EXs F E n E.length ky' cr' c' h f a y) := by
  have hc := hT.1.1
  obtain ⟨w1, w2, w3, w4⟩ := hT.1.2.2 i hi
  obtain ⟨hh, hR⟩ := hT.2.2 i hi
  rw [hki] at w1 w2 w3 hh
  rw [hki, hci] at hR
  rw [hci] at w4
  have w1 : T.1 164 i = o3 h := w1
  have w2 : T.1 165 i = o3 f := w2
  have w3 : T.2 166 i = o6 a := w3
  have hh : h ≤ n := hh
  have hR : Rch F E f0 h f a y := hR
  obtain ⟨rf, ra, ry⟩ := Rch_b hF hE h0 hR
  unfold f_X11_goesOn
  rw [gI_o (by omega) (by omega), bd_some, gI_o (by omega) (by omega), bd_some, w1, w2]
  by_cases z : n ≤ h
  · rw [if_pos ((o3_le (by omega) (by omega)).mpr z)]
    refine z_51 hF hE hm hl h0 hn hh hR (by omega) (K := fun S35 => some S35) E.length 0 FU T ky cr c (by omega) (FU_lt (by omega)) m1 hT hi hki hci (Or.inr (fun t' f' a' c' hst ht => ?_))
    rcases hst with ⟨_, q, _⟩ | ⟨k', k1, _⟩
    · omega
    · omega
  · rw [if_neg (fun q => z ((o3_le (by omega) (by omega)).mp q)), gL_o (by omega) (by omega), bd_some, mp_floor m1 hF hm rf, bd_some, gI_o (by omega) (by omega), bd_some, o3_s, w3, w4, pc_o, o6_add]
    have hR2 : Rch F E f0 (h + 1) f (a + fz F f) y := Rch_s hR (Or.inl ⟨rf, rfl, rfl, rfl, rfl⟩)
    obtain ⟨U, ky1, cr1, c1, u1, u2, u3, u4, u5, u6⟩ := z_comes hF hE hm h0 hn (by omega) hR2 hT
    have u1 : f_X11_comes (o3 (h + 1)) (o3 f) (o6 (a + (F.getD f (0, 0)).1 * pz (F.getD f (0, 0)))) (o3 y) T = some U := u1
    rw [u1, bd_some]
    have hg := u4 h (by omega)
    obtain ⟨g1, g2, g3⟩ := hg.2.1 i hi
    obtain ⟨V, ky2, cr2, c2, v1, v2, v3, v4, v5⟩ := z_51 hF hE hm hl h0 hn hh hR (i := i) (by omega) (K := fun S49 => some S49) E.length 0 FU U ky1 cr1 c1 (by omega) (FU_lt (by omega)) (twM_R m1 u3) u2 (by omega) (g1.trans hki) ((g3 (by rw [hki]; exact Nat.le_refl _)).trans hci) (by
      rcases u6 with u6 | ⟨j, j1, j2, j3⟩
      · exact Or.inl u6
      · refine Or.inr (fun t' f' a' c' hst ht => ?_)
        rcases hst with ⟨q1, q2, q3, q4, q5⟩ | ⟨k', k1, _⟩
        · rw [q2, q3, q4, q5]
          exact ⟨j, j1, j2, j3⟩
        · omega)
    exact ⟨V, ky2, cr2, c2, v1, v2, u3.tr v3, hg.tr v4, v5⟩
/-- those of hours before u, and of hour u the first k, have gone on; the start is there -/
def DN (F : List (Nat × Nat)) (E : List St5) (f0 n u k : Nat) (ky : Nat → Nat × Nat × Nat) (cr : Nat → Nat) (c : Nat) : Prop := (∀ i, i < c → ((ky i).1 < u ∨ ((ky i).1 = u ∧ i < k)) → EXs F E n E.length ky cr c (ky i).1 (ky i).2.1 (ky i).2.2 (cr i)) ∧ ∃ i, i < c ∧ ky i = (0, f0, 0) ∧ cr i = 0
theorem z_93 {p2 p4 p5 : Int32} (hF : ∀ q ∈ F, okF q) (hE : ∀ q ∈ E, okS F.length q) (hm : F.length ≤ 10) (hl : E.length ≤ 12) (h0 : f0 < F.length) (hn : n ≤ 16) {u : Nat} (hu : u ≤ n) {K : fS → Option (Int32 × fS)} : ∀ d k nn T ky cr c, d = 4001 - k → k ≤ 4001 → d < nn → twM (T.1 157) F E → RI F E f0 n T ky cr c → (c = 4001 ∨ DN F E f0 n u k ky cr c) → ∃ U ky' cr' c', lp_X11_ripe_93 p2 (o3 n) p4 p5 (o3 u) K nn (o3 k) T = K U ∧ RI F E f0 n U ky' cr' c' ∧ eRm T U ∧ (c' = 4001 ∨ DN F E f0 n (u + 1) 0 ky' cr' c') := by
  have fin : ∀ k ky cr c, c ≤ k → (c = 4001 ∨ DN F E f0 n u k ky cr c) → (c = 4001 ∨ DN F E f0 n (u + 1) 0 ky cr c) := fun k ky cr c hk hx => by
    rcases hx with hx | hx
    · exact Or.inl hx
    · refine Or.inr ⟨fun i hi z => hx.1 i hi ?_, hx.2⟩
      rcases z with z | z
      · by_cases q : (ky i).1 = u
        · exact Or.inr ⟨q, by omega⟩
        · exact Or.inl (by omega)
      · omega
  intro d
  induction d with
  | zero =>
    intro k nn T ky cr c hd hk hnn m1 hT hx
    have hc := hT.1.1
    obtain ⟨nn, rfl⟩ : ∃ z, nn = z + 1 := ⟨nn - 1, by omega⟩
    rw [lp_X11_ripe_93.eq_2, hT.1.2.1, if_pos ((o3_le (by omega) (by omega)).mpr (by omega))]
    exact ⟨T, ky, cr, c, rfl, hT, eRm.rf, fin k ky cr c (by omega) hx⟩
  | succ d ih =>
    intro k nn T ky cr c hd hk hnn m1 hT hx
    have hc := hT.1.1
    obtain ⟨nn, rfl⟩ : ∃ z, nn = z + 1 := ⟨nn - 1, by omega⟩
    rw [lp_X11_ripe_93.eq_2, hT.1.2.1]
    by_cases h1 : c ≤ k
    · rw [if_pos ((o3_le (by omega) (by omega)).mpr h1)]
      exact ⟨T, ky, cr, c, rfl, hT, eRm.rf, fin k ky cr c h1 hx⟩
    · rw [if_neg (fun q => h1 ((o3_le (by omega) (by omega)).mp q))]
      by_cases h4 : 4000 < c
      · rw [if_pos (show (4000 : Int32) < o3 c from (o3_lt (a := 4000) (by omega) (by omega)).mpr h4)]
        exact ⟨T, ky, cr, c, rfl, hT, eRm.rf, Or.inl (by omega)⟩
      · have hkc : k < c := by omega
        have hx : DN F E f0 n u k ky cr c := by
          rcases hx with hx | hx
          · omega
          · exact hx
        obtain ⟨w1, _, _, _⟩ := hT.1.2.2 k hkc
        have hkn := (hT.2.2 k hkc).1
        rw [if_neg (show ¬ (4000 : Int32) < o3 c from fun q => h4 ((o3_lt (a := 4000) (by omega) (by omega)).mp q)), gI_o (by omega) (by omega), bd_some, o3_s, w1]
        by_cases z : (ky k).1 = u
        · rw [if_pos (by rw [z])]
          obtain ⟨U, ky1, cr1, c1, u1, u2, u3, u4, u5⟩ := z_go hF hE hm hl h0 hn (h := (ky k).1) (f := (ky k).2.1) (a := (ky k).2.2) (y := cr k) hkc m1 hT rfl rfl
          rw [u1, bd_some]
          obtain ⟨V, ky2, cr2, c2, v1, v2, v3, v4⟩ := ih (k + 1) nn U ky1 cr1 c1 (by omega) (by omega) (by omega) (twM_R m1 u3) u2 (by
            rcases u5 with u5 | u5
            · exact Or.inl u5
            · have hcc := u4.1
              refine Or.inr ⟨fun i hi q => ?_, ?_⟩
              · have hic : i < c := by
                  by_cases y : i < c
                  · exact y
                  · have := u4.2.2 i (by omega) hi
                    omega
                obtain ⟨g1, g2, g3⟩ := u4.2.1 i hic
                rw [g1] at q
                rw [g1, g3 (by omega)]
                by_cases y : i = k
                · rw [y]; exact u5
                · exact EXs_g (hx.1 i hic (by omega)) u4
              · obtain ⟨i, i1, i2, i3⟩ := hx.2
                obtain ⟨g1, g2, g3⟩ := u4.2.1 i i1
                exact ⟨i, by omega, g1.trans i2, by omega⟩)
          exact ⟨V, ky2, cr2, c2, v1, v2, u3.tr v3, v4⟩
        · rw [if_neg (fun q => z ((o3_inj (by omega) (by omega)).mp q))]
          refine ih (k + 1) nn T ky cr c (by omega) (by omega) (by omega) m1 hT (Or.inr ⟨fun i hi q => hx.1 i hi ?_, hx.2⟩)
          rcases q with q | ⟨q1, q2⟩
          · exact Or.inl q
          · refine Or.inr ⟨q1, ?_⟩
            by_cases y : i = k
            · rw [y] at q1; exact absurd q1 z
            · omega
theorem z_74 {p2 p4 p5 : Int32} (hF : ∀ q ∈ F, okF q) (hE : ∀ q ∈ E, okS F.length q) (hm : F.length ≤ 10) (hl : E.length ≤ 12) (h0 : f0 < F.length) (hn : n ≤ 16) {K : fS → Option (Int32 × fS)} : ∀ d u nn T ky cr c, u + d = n + 1 → d < nn → twM (T.1 157) F E → RI F E f0 n T ky cr c → (c = 4001 ∨ DN F E f0 n u 0 ky cr c) → ∃ U ky' cr' c', lp_X11_ripe_74 p2 (o3 n) p4 p5 K nn (o3 u) T = K U ∧ RI F E f0 n U ky' cr' c' ∧ eRm T U ∧ (c' = 4001 ∨ DN F E f0 n (n + 1) 0 ky' cr' c') := by
  intro d
  induction d with
  | zero =>
    intro u nn T ky cr c hk hnn m1 hT hx
    obtain ⟨nn, rfl⟩ : ∃ z, nn = z + 1 := ⟨nn - 1, by omega⟩
    rw [lp_X11_ripe_74.eq_2, if_pos ((o3_lt (by omega) (by omega)).mpr (by omega))]
    have hue : u = n + 1 := by omega
    rw [hue] at hx
    exact ⟨T, ky, cr, c, rfl, hT, eRm.rf, hx⟩
  | succ d ih =>
    intro u nn T ky cr c hk hnn m1 hT hx
    have hc := hT.1.1
    obtain ⟨nn, rfl⟩ : ∃ z, nn = z + 1 := ⟨nn - 1, by omega⟩
    rw [lp_X11_ripe_74.eq_2, if_neg (fun q => by have := (o3_lt (by omega) (by omega)).mp q; omega), o3_s, hT.1.2.1]
    by_cases h4 : 4000 < c
    · rw [if_pos (show (4000 : Int32) < o3 c from (o3_lt (a := 4000) (by omega) (by omega)).mpr h4)]
      exact ⟨T, ky, cr, c, rfl, hT, eRm.rf, Or.inl (by omega)⟩
    · rw [if_neg (show ¬ (4000 : Int32) < o3 c from fun q => h4 ((o3_lt (a := 4000) (by omega) (by omega)).mp q))]
      obtain ⟨U, ky1, cr1, c1, u1, u2, u3, u4⟩ := z_93 (p2 := p2) (p4 := p4) (p5 := p5) hF hE hm hl h0 hn (u := u) (by omega) (K := fun S38 => lp_X11_ripe_74 p2 (o3 n) p4 p5 K nn (o3 (u + 1)) S38) 4001 0 FU T ky cr c (by omega) (by omega) (FU_lt (by omega)) m1 hT hx
      obtain ⟨V, ky2, cr2, c2, v1, v2, v3, v4⟩ := ih (u + 1) nn U ky1 cr1 c1 (by omega) (by omega) (twM_R m1 u3) u2 u4
      rw [show (0 : Int32) = o3 0 from rfl, u1]
      exact ⟨V, ky2, cr2, c2, v1, v2, u3.tr v3, v4⟩
theorem DN_c (hE : ∀ q ∈ E, okS F.length q) {T : fS} {ky : Nat → Nat × Nat × Nat} {cr : Nat → Nat} {c : Nat} (hT : RI F E f0 n T ky cr c) (hx : DN F E f0 n (n + 1) 0 ky cr c) : ∀ t f a b, Rch F E f0 t f a b → t ≤ n → ∃ k, k < c ∧ ky k = (t, f, a) ∧ cr k ≤ b := by
  have key : ∀ i t f a b, Rk F E f0 i t f a b → t ≤ n → ∃ k, k < c ∧ ky k = (t, f, a) ∧ cr k ≤ b := by
    intro i
    induction i with
    | zero =>
      intro t f a b h ht
      obtain ⟨h1, h2, h3, h4⟩ := h
      obtain ⟨k, k1, k2, k3⟩ := hx.2
      rw [h1, h2, h3]
      exact ⟨k, k1, k2, by omega⟩
    | succ i ih =>
      intro t f a b h ht
      obtain ⟨t', f', a', c', h1, h2⟩ := h
      have hlt := st_lt hE h2
      obtain ⟨k, k1, k2, k3⟩ := ih t' f' a' c' h1 (by omega)
      obtain ⟨o, o1, o2⟩ := st_mo h2 k3
      have hh := hx.1 k k1 (Or.inl (by have := (hT.2.2 k k1).1; omega))
      rw [k2] at hh
      obtain ⟨j, j1, j2, j3⟩ := hh t f a o o1 ht
      exact ⟨j, j1, j2, by omega⟩
  intro t f a b h ht
  obtain ⟨i, h⟩ := h
  exact key i t f a b h ht
end ZG
end
