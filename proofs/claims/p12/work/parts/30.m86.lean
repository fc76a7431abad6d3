section
/-! ripe(): the reference goes on -/
def eRm (S T : fS) : Prop := (∀ a k, ¬ (164 ≤ a ∧ a ≤ 167) → ¬ (a = 145 ∧ k = 36) → T.1 a k = S.1 a k) ∧ (∀ a k, a ≠ 166 → T.2 a k = S.2 a k)
theorem eRm.rf {S : fS} : eRm S S := ⟨fun _ _ _ _ => rfl, fun _ _ _ => rfl⟩
theorem eRm.tr {S T U : fS} (h : eRm S T) (g : eRm T U) : eRm S U := ⟨fun a k x y => (g.1 a k x y).trans (h.1 a k x y), fun a k x => (g.2 a k x).trans (h.2 a k x)⟩
/-- so many states, each with an hour and a floor -/
def okm (m n : Nat) (T : fS) (c : Nat) : Prop := c ≤ 4001 ∧ T.1 145 36 = o3 c ∧ ∀ k, k < c → ∃ h f, h ≤ n ∧ f < m ∧ T.1 164 k = o3 h ∧ T.1 165 k = o3 f
theorem r_comes {m n h f c : Nat} {x : Int64} {y : Int32} (hm : m ≤ 10) (hn : n ≤ 16) (hh : h ≤ n) (hf : f < m) {T : fS} (hT : okm m n T c) : ∃ U c', f_X11_comes (o3 h) (o3 f) x y T = some U ∧ okm m n U c' ∧ c ≤ c' ∧ eRm T U := by
  obtain ⟨hc, h36, hk⟩ := id hT
  have app : ∃ U c', (if (T.1 145 36) ≤ (4000 : Int32) then ((sI T 164 4001 (T.1 145 36) (o3 h)).bind fun S30 => (sI S30 165 4001 (S30.1 145 36) (o3 f)).bind fun S33 => (sL S33 166 4001 (S33.1 145 36) x).bind fun S36 => (sI S36 167 4001 (S36.1 145 36) y).bind fun S39 => (some (pI S39 145 36 ((S39.1 145 36) + (1 : Int32)))).bind fun S42 => some S42) else (some T)) = some U ∧ okm m n U c' ∧ c ≤ c' ∧ eRm T U := by
    rw [h36]
    by_cases h4 : c ≤ 4000
    · rw [if_pos (show o3 c ≤ (4000 : Int32) from (o3_le (b := 4000) (by omega) (by omega)).mpr h4), sI_o (by omega) (by omega), bd_some, pI_ne (by omega), h36, sI_o (by omega) (by omega), bd_some, pI_ne (by omega), pI_ne (by omega), h36, sL_o (by omega) (by omega), bd_some]
      have e1 : (pL (pI (pI T 164 c (o3 h)) 165 c (o3 f)) 166 c x).1 145 36 = o3 c := by
        show (pI (pI T 164 c (o3 h)) 165 c (o3 f)).1 145 36 = o3 c
        rw [pI_ne (by omega), pI_ne (by omega), h36]
      rw [e1, sI_o (by omega) (by omega), bd_some, bd_some, pI_ne (by omega), e1, o3_s]
      have g1 : ∀ a k, ¬ (a = 145 ∧ k = 36) → ¬ (a = 167 ∧ k = c) → ¬ (a = 165 ∧ k = c) → ¬ (a = 164 ∧ k = c) → (pI (pI (pL (pI (pI T 164 c (o3 h)) 165 c (o3 f)) 166 c x) 167 c y) 145 36 (o3 (c + 1))).1 a k = T.1 a k := fun a k x y z w => by
        rw [pI_ne x, pI_ne y]
        show (pI (pI T 164 c (o3 h)) 165 c (o3 f)).1 a k = T.1 a k
        rw [pI_ne z, pI_ne w]
      refine ⟨_, c + 1, rfl, ⟨by omega, pI_eq, fun k hk' => ?_⟩, by omega, fun a k p q => g1 a k q (by omega) (by omega) (by omega), fun a k p => ?_⟩
      · by_cases e : k = c
        · refine ⟨h, f, hh, hf, ?_, ?_⟩
          · rw [e, pI_ne (by omega), pI_ne (by omega)]
            show (pI (pI T 164 c (o3 h)) 165 c (o3 f)).1 164 c = o3 h
            rw [pI_ne (by omega), pI_eq]
          · rw [e, pI_ne (by omega), pI_ne (by omega)]
            show (pI (pI T 164 c (o3 h)) 165 c (o3 f)).1 165 c = o3 f
            rw [pI_eq]
        · obtain ⟨h', f', a1, a2, a3, a4⟩ := hk k (by omega)
          exact ⟨h', f', a1, a2, by rw [g1 _ _ (by omega) (by omega) (by omega) (by omega)]; exact a3, by rw [g1 _ _ (by omega) (by omega) (by omega) (by omega)]; exact a4⟩
      · show (pL (pI (pI T 164 c (o3 h)) 165 c (o3 f)) 166 c x).2 a k = T.2 a k
        rw [pL_ne (by omega)]
        rfl
    · rw [if_neg (show ¬ o3 c ≤ (4000 : Int32) from fun q => h4 ((o3_le (b := 4000) (by omega) (by omega)).mp q))]
      exact ⟨T, c, rfl, hT, by omega, eRm.rf⟩
  have st : ∀ k z, ∃ U c', some (pI T 167 k z) = some U ∧ okm m n U c' ∧ c ≤ c' ∧ eRm T U := fun k z => ⟨_, c, rfl, ⟨hc, (pI_ne (by omega)).trans h36, fun j hj => by
    rw [pI_ne (by omega), pI_ne (by omega)]
    exact hk j hj⟩, by omega, fun a j p _ => pI_ne (by omega), fun _ _ _ => rfl⟩
  unfold f_X11_comes
  have key : ∀ d k nn, k + d = c → d < nn → ∃ U c', lp_X11_comes_3 (o3 h) (o3 f) x y (fun S27 => if (S27.1 145 36) ≤ (4000 : Int32) then ((sI S27 164 4001 (S27.1 145 36) (o3 h)).bind fun S30 => (sI S30 165 4001 (S30.1 145 36) (o3 f)).bind fun S33 => (sL S33 166 4001 (S33.1 145 36) x).bind fun S36 => (sI S36 167 4001 (S36.1 145 36) y).bind fun S39 => (some (pI S39 145 36 ((S39.1 145 36) + (1 : Int32)))).bind fun S42 => some S42) else (some S27)) nn (o3 k) T = some U ∧ okm m n U c' ∧ c ≤ c' ∧ eRm T U := by
    intro d
    induction d with
    | zero =>
      intro k nn hk' hnn
      obtain ⟨nn, rfl⟩ : ∃ z, nn = z + 1 := ⟨nn - 1, by omega⟩
      rw [lp_X11_comes_3.eq_2, if_pos (show T.1 145 36 ≤ o3 k by rw [h36]; exact (o3_le (by omega) (by omega)).mpr (by omega))]
      exact app
    | succ d ih =>
      intro k nn hk' hnn
      obtain ⟨nn, rfl⟩ : ∃ z, nn = z + 1 := ⟨nn - 1, by omega⟩
      have go := ih (k + 1) nn (by omega) (by omega)
      rw [lp_X11_comes_3.eq_2, if_neg (show ¬ T.1 145 36 ≤ o3 k by rw [h36]; exact fun q => by have := (o3_le (by omega) (by omega)).mp q; omega), gI_o (by omega) (by omega), gI_o (by omega) (by omega), gL_o (by omega) (by omega), gI_o (by omega) (by omega), bd_some, bd_some, bd_some, bd_some, bd_some, sI_o (by omega) (by omega), sI_o (by omega) (by omega), bd_some, bd_some, o3_s]
      split
      · split
        · split
          · split
            · exact st _ _
            · exact st _ _
          · exact go
        · exact go
      · exact go
  exact key c 0 FU (by omega) (FU_lt (by omega))
section RM
variable {F : List (Nat × Nat)} {E : List St5}
theorem twM_R {S T : fS} (h : twM (S.1 157) F E) (e : eRm S T) : twM (T.1 157) F E := by
  rw [show T.1 157 = S.1 157 from funext fun k => e.1 157 k (by omega) (by omega)]; exact h
theorem r_51 (hE : ∀ q ∈ E, okS F.length q) (hm : F.length ≤ 10) (hl : E.length ≤ 12) {n i h f : Nat} (hn : n ≤ 16) (hh : h ≤ n) (hf : f < F.length) (hi : i < 4001) {K : fS → Option fS} : ∀ d k nn T c, k + d = E.length → d < nn → twM (T.1 157) F E → okm F.length n T c → ∃ U c', lp_X11_goesOn_51 (o3 i) (o3 n) (o3 h) (o3 f) K nn (o3 k) T = K U ∧ okm F.length n U c' ∧ c ≤ c' ∧ eRm T U := by
  intro d
  induction d with
  | zero =>
    intro k nn T c hk hnn m1 hT
    obtain ⟨nn, rfl⟩ : ∃ z, nn = z + 1 := ⟨nn - 1, by omega⟩
    rw [lp_X11_goesOn_51.eq_2, show gI T 157 158 1 = some (o3 E.length) from (gI_o (k := 1) (by omega) (by omega)).trans (congrArg some m1.2.1), bd_some, if_pos ((o3_le (by omega) (by omega)).mpr (by omega))]
    exact ⟨T, c, rfl, hT, by omega, eRm.rf⟩
  | succ d ih =>
    intro k nn T c hk hnn m1 hT
    obtain ⟨nn, rfl⟩ : ∃ z, nn = z + 1 := ⟨nn - 1, by omega⟩
    have hkl : k < E.length := by omega
    have hq' := hE _ (gd_mem (d := d5) hkl)
    have h9 := hq'.2.2.2.2.1
    have e3 : f_X11_stairOf (o3 k) 2 T = some (o3 (E.getD k d5).2.2.1) := (mh_stair m1 hl hkl).2.2.1
    rw [lp_X11_goesOn_51.eq_2, show gI T 157 158 1 = some (o3 E.length) from (gI_o (k := 1) (by omega) (by omega)).trans (congrArg some m1.2.1), bd_some, if_neg (fun q => by have := (o3_le (by omega) (by omega)).mp q; omega), e3, bd_some, mh_other m1 hE hm hl hkl (by omega), bd_some, bd_some, o3_s, o3_add]
    rcases oe_or (a := f) hq' hm with ⟨o, o1, o2, _⟩ | ⟨o2, _⟩
    · rw [o2, if_neg (o3_nn (by omega))]
      by_cases hlt : n < h + (E.getD k d5).2.2.1
      · rw [if_pos ((o3_lt (by omega) (by omega)).mpr hlt)]
        exact ih (k + 1) nn T c (by omega) (by omega) m1 hT
      · rw [if_neg (fun q => hlt ((o3_lt (by omega) (by omega)).mp q)), gL_o (by omega) (by omega), bd_some, mp_stair m1 hE hl hkl, bd_some, gI_o (by omega) (by omega), bd_some]
        obtain ⟨U, c', u1, u2, u3, u4⟩ := r_comes (h := h + (E.getD k d5).2.2.1) (x := T.2 166 i + Int32.toInt64 (o3 (E.getD k d5).2.2.1) * pc (E.getD k d5).2.2.2) (y := T.1 167 i + o3 (E.getD k d5).2.2.1) hm hn (by omega) o1 hT
        rw [u1, bd_some]
        obtain ⟨V, c'', v1, v2, v3, v4⟩ := ih (k + 1) nn U c' (by omega) (by omega) (twM_R m1 u4) u2
        exact ⟨V, c'', v1, v2, by omega, u4.tr v4⟩
    · rw [o2, if_pos (show (-1 : Int32) < 0 by decide)]
      exact ih (k + 1) nn T c (by omega) (by omega) m1 hT
theorem r_go (hF : ∀ q ∈ F, okF q) (hE : ∀ q ∈ E, okS F.length q) (hm : F.length ≤ 10) (hl : E.length ≤ 12) {n i c : Nat} (hn : n ≤ 16) {T : fS} (hi : i < c) (m1 : twM (T.1 157) F E) (hT : okm F.length n T c) : ∃ U c', f_X11_goesOn (o3 i) (o3 n) T = some U ∧ okm F.length n U c' ∧ c ≤ c' ∧ eRm T U := by
  have hc := hT.1
  obtain ⟨h, f, h1, f1, h2, f2⟩ := hT.2.2 i hi
  unfold f_X11_goesOn
  rw [gI_o (by omega) (by omega), bd_some, gI_o (by omega) (by omega), bd_some, h2, f2]
  by_cases z : n ≤ h
  · rw [if_pos ((o3_le (by omega) (by omega)).mpr z)]
    exact r_51 hE hm hl hn h1 f1 (by omega) (K := fun S35 => some S35) E.length 0 FU T c (by omega) (FU_lt (by omega)) m1 hT
  · rw [if_neg (fun q => z ((o3_le (by omega) (by omega)).mp q)), gL_o (by omega) (by omega), bd_some, mp_floor m1 hF hm f1, bd_some, gI_o (by omega) (by omega), bd_some, o3_s]
    obtain ⟨U, c', u1, u2, u3, u4⟩ := r_comes (h := h + 1) (x := T.2 166 i + pc (F.getD f (0, 0))) (y := T.1 167 i) hm hn (by omega) f1 hT
    rw [u1, bd_some]
    obtain ⟨V, c'', v1, v2, v3, v4⟩ := r_51 hE hm hl hn h1 f1 (i := i) (by omega) (K := fun S49 => some S49) E.length 0 FU U c' (by omega) (FU_lt (by omega)) (twM_R m1 u4) u2
    exact ⟨V, c'', v1, v2, by omega, u4.tr v4⟩
theorem r_93 {p2 p4 p5 p6 : Int32} (hF : ∀ q ∈ F, okF q) (hE : ∀ q ∈ E, okS F.length q) (hm : F.length ≤ 10) (hl : E.length ≤ 12) {n : Nat} (hn : n ≤ 16) {K : fS → Option (Int32 × fS)} : ∀ d k nn T c, d = 4001 - k → k ≤ 4001 → d < nn → twM (T.1 157) F E → okm F.length n T c → ∃ U c', lp_X11_ripe_93 p2 (o3 n) p4 p5 p6 K nn (o3 k) T = K U ∧ okm F.length n U c' ∧ eRm T U := by
  intro d
  induction d with
  | zero =>
    intro k nn T c hd hk hnn m1 hT
    have hc := hT.1
    obtain ⟨nn, rfl⟩ : ∃ z, nn = z + 1 := ⟨nn - 1, by omega⟩
    rw [lp_X11_ripe_93.eq_2, hT.2.1, if_pos ((o3_le (by omega) (by omega)).mpr (by omega))]
    exact ⟨T, c, rfl, hT, eRm.rf⟩
  | succ d ih =>
    intro k nn T c hd hk hnn m1 hT
    have hc := hT.1
    obtain ⟨nn, rfl⟩ : ∃ z, nn = z + 1 := ⟨nn - 1, by omega⟩
    rw [lp_X11_ripe_93.eq_2, hT.2.1]
    by_cases h1 : c ≤ k
    · rw [if_pos ((o3_le (by omega) (by omega)).mpr h1)]
      exact ⟨T, c, rfl, hT, eRm.rf⟩
    · rw [if_neg (fun q => h1 ((o3_le (by omega) (by omega)).mp q)), gI_o (by omega) (by omega), bd_some, o3_s]
      split
      · exact ⟨T, c, rfl, hT, eRm.rf⟩
      · split
        · obtain ⟨U, c', u1, u2, u3, u4⟩ := r_go hF hE hm hl hn (i := k) (by omega) m1 hT
          rw [u1, bd_some]
          obtain ⟨V, c'', v1, v2, v3⟩ := ih (k + 1) nn U c' (by omega) (by omega) (by omega) (twM_R m1 u4) u2
          exact ⟨V, c'', v1, v2, u4.tr v3⟩
        · exact ih (k + 1) nn T c (by omega) (by omega) (by omega) m1 hT
theorem r_74 {p2 p4 p5 : Int32} (hF : ∀ q ∈ F, okF q) (hE : ∀ q ∈ E, okS F.length q) (hm : F.length ≤ 10) (hl : E.length ≤ 12) {n : Nat} (hn : n ≤ 16) {K : fS → Option (Int32 × fS)} : ∀ d k nn T c, k + d = n + 1 → d < nn → twM (T.1 157) F E → okm F.length n T c → ∃ U c', lp_X11_ripe_74 p2 (o3 n) p4 p5 K nn (o3 k) T = K U ∧ okm F.length n U c' ∧ eRm T U := by
  intro d
  induction d with
  | zero =>
    intro k nn T c hk hnn m1 hT
    obtain ⟨nn, rfl⟩ : ∃ z, nn = z + 1 := ⟨nn - 1, by omega⟩
    rw [lp_X11_ripe_74.eq_2, if_pos ((o3_lt (by omega) (by omega)).mpr (by omega))]
    exact ⟨T, c, rfl, hT, eRm.rf⟩
  | succ d ih =>
    intro k nn T c hk hnn m1 hT
    obtain ⟨nn, rfl⟩ : ∃ z, nn = z + 1 := ⟨nn - 1, by omega⟩
    rw [lp_X11_ripe_74.eq_2, if_neg (fun q => by have := (o3_lt (by omega) (by omega)).mp q; omega), o3_s]
    split
    · exact ⟨T, c, rfl, hT, eRm.rf⟩
    · obtain ⟨U, c', u1, u2, u3⟩ := r_93 (p2 := p2) (p4 := p4) (p5 := p5) (p6 := o3 k) hF hE hm hl hn (K := fun S38 => lp_X11_ripe_74 p2 (o3 n) p4 p5 K nn (o3 (k + 1)) S38) 4001 0 FU T c (by omega) (by omega) (FU_lt (by omega)) m1 hT
      obtain ⟨V, c'', v1, v2, v3⟩ := ih (k + 1) nn U c' (by omega) (by omega) (twM_R m1 u3) u2
      rw [show (0 : Int32) = o3 0 from rfl, u1]
      exact ⟨V, c'', v1, v2, u3.tr v3⟩
theorem r_163 {m n c : Nat} {p2 p3 p4 p5 : Int32} {T : fS} (hT : okm m n T c) : ∀ d k nn (p6 : Int32), k + d = c → d < nn → ∃ r, lp_X11_ripe_163 p2 p3 p4 p5 (fun u120 S121 => some (u120, S121)) nn p6 (o3 k) T = some (r, T) := by
  have hc := hT.1
  intro d
  induction d with
  | zero =>
    intro k nn p6 hk hnn
    obtain ⟨nn, rfl⟩ : ∃ z, nn = z + 1 := ⟨nn - 1, by omega⟩
    rw [lp_X11_ripe_163.eq_2, hT.2.1, if_pos ((o3_le (by omega) (by omega)).mpr (by omega))]
    exact ⟨_, rfl⟩
  | succ d ih =>
    intro k nn p6 hk hnn
    obtain ⟨nn, rfl⟩ : ∃ z, nn = z + 1 := ⟨nn - 1, by omega⟩
    have go : ∀ p6, ∃ r, lp_X11_ripe_163 p2 p3 p4 p5 (fun u120 S121 => some (u120, S121)) nn p6 (o3 (k + 1)) T = some (r, T) := fun p6 => ih (k + 1) nn p6 (by omega) (by omega)
    have g1 : gI T 164 4001 (o3 k) = some (T.1 164 k) := gI_o (by omega) (by omega)
    have g2 : gI T 165 4001 (o3 k) = some (T.1 165 k) := gI_o (by omega) (by omega)
    have g3 : gL T 166 4001 (o3 k) = some (T.2 166 k) := gL_o (by omega) (by omega)
    have g4 : gI T 167 4001 (o3 k) = some (T.1 167 k) := gI_o (by omega) (by omega)
    have n10 : ¬ (1 : Int32) = 0 := by decide
    rw [lp_X11_ripe_163.eq_2, hT.2.1, if_neg (fun q => by have := (o3_le (by omega) (by omega)).mp q; omega), g1, bd_some, o3_s, g2, bd_some, g3, bd_some]
    generalize Int32.toInt64 p4 * (232792560 : Int64) = A
    generalize Int32.toInt64 p5 * (232792560 : Int64) = B
    by_cases z1 : T.1 164 k = p3
    · rw [if_pos z1]
      by_cases z2 : T.1 165 k = p2
      · rw [if_pos z2]
        by_cases z3 : T.2 166 k < A
        · rw [if_pos z3, if_pos rfl]; exact go _
        · rw [if_neg z3, bd_some]
          by_cases z4 : B < T.2 166 k
          · rw [if_pos z4, if_pos rfl]; exact go _
          · rw [if_neg z4, if_neg n10, g4, bd_some, bd_some]
            by_cases z5 : p6 < 0
            · rw [if_pos z5]; exact go _
            · rw [if_neg z5]
              by_cases z6 : p6 ≤ T.1 167 k
              · rw [if_pos z6]; exact go _
              · rw [if_neg z6]; exact go _
      · rw [if_neg z2, if_pos rfl]; exact go _
    · rw [if_neg z1, if_pos rfl]; exact go _
end RM
end
