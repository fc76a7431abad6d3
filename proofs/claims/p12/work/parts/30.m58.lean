section
/-! the reference's words -/
def mxk (A : Nat → Int64) (th k : Nat) : Int64 := if ∀ j, j < k → A j ≤ A th then 1 else 0
def mnk (A : Nat → Int64) (th k : Nat) : Int64 := if ∀ j, j < k → A th ≤ A j then 1 else 0
theorem mxk_s {A : Nat → Int64} {th k : Nat} : mxk A th (k + 1) = if A k ≤ A th then mxk A th k else 0 := by
  unfold mxk
  by_cases h : A k ≤ A th
  · rw [if_pos h]
    by_cases g : ∀ j, j < k → A j ≤ A th
    · rw [if_pos g, if_pos (fun j hj => by
        by_cases e : j = k
        · rw [e]; exact h
        · exact g j (by omega))]
    · rw [if_neg g, if_neg (fun q => g (fun j hj => q j (by omega)))]
  · rw [if_neg h, if_neg (fun q => h (q k (by omega)))]
theorem mnk_s {A : Nat → Int64} {th k : Nat} : mnk A th (k + 1) = if A th ≤ A k then mnk A th k else 0 := by
  unfold mnk
  by_cases h : A th ≤ A k
  · rw [if_pos h]
    by_cases g : ∀ j, j < k → A th ≤ A j
    · rw [if_pos g, if_pos (fun j hj => by
        by_cases e : j = k
        · rw [e]; exact h
        · exact g j (by omega))]
    · rw [if_neg g, if_neg (fun q => g (fun j hj => q j (by omega)))]
  · rw [if_neg h, if_neg (fun q => h (q k (by omega)))]
def eW (S T : fS) : Prop := T.1 = S.1 ∧ ∀ a k, a ≠ 156 → T.2 a k = S.2 a k
section MWD
variable {C : Cw} {th : Nat}
theorem mw_118 (h8 : C.1 ≤ 8) (hth : th < C.1) {K : fS → Option fS} : ∀ d k nn (S : fS), k + d = C.1 → d < nn → S.1 157 2 = o3 C.1 → (∀ j, j < C.1 → S.2 158 j = C.2.2.2.2.2.2 j) → S.2 156 6 = mxk C.2.2.2.2.2.2 th k → S.2 156 7 = mnk C.2.2.2.2.2.2 th k → ∃ T, lp_X11_words_118 (o3 th) K nn (o3 k) S = K T ∧ T.1 = S.1 ∧ (∀ a j, ¬ (a = 156 ∧ (j = 6 ∨ j = 7)) → T.2 a j = S.2 a j) ∧ T.2 156 6 = mxk C.2.2.2.2.2.2 th C.1 ∧ T.2 156 7 = mnk C.2.2.2.2.2.2 th C.1 := by
  intro d
  induction d with
  | zero =>
    intro k nn S hk hnn h2 hA h6 h7
    obtain ⟨nn, rfl⟩ : ∃ z, nn = z + 1 := ⟨nn - 1, by omega⟩
    rw [lp_X11_words_118.eq_2, show (2 : Int32) = o3 2 from rfl, gI_o (by omega) (by omega), bd_some, h2, if_pos ((o3_le (by omega) (by omega)).mpr (by omega))]
    rw [show k = C.1 by omega] at h6 h7
    exact ⟨S, rfl, rfl, fun _ _ _ => rfl, h6, h7⟩
  | succ d ih =>
    intro k nn S hk hnn h2 hA h6 h7
    obtain ⟨nn, rfl⟩ : ∃ z, nn = z + 1 := ⟨nn - 1, by omega⟩
    rw [lp_X11_words_118.eq_2, show (2 : Int32) = o3 2 from rfl, gI_o (by omega) (by omega), bd_some, h2, if_neg (fun q => by have := (o3_le (by omega) (by omega)).mp q; omega), gL_o (by omega) (by omega), bd_some, gL_o (by omega) (by omega), bd_some, hA k (by omega), hA th hth, o3_s]
    by_cases h : C.2.2.2.2.2.2 k ≤ C.2.2.2.2.2.2 th
    · rw [if_pos h, bd_some, bd_some]
      by_cases g : C.2.2.2.2.2.2 th ≤ C.2.2.2.2.2.2 k
      · rw [if_pos g]
        exact ih (k + 1) nn S (by omega) (by omega) h2 hA (by rw [mxk_s, if_pos h]; exact h6) (by rw [mnk_s, if_pos g]; exact h7)
      · rw [if_neg g, show (7 : Int32) = o3 7 from rfl, sL_o (by omega) (by omega), bd_some]
        obtain ⟨T, t1, t2, t3, t4⟩ := ih (k + 1) nn (pL S 156 7 0) (by omega) (by omega) h2 (fun j hj => by rw [pL_ne (by omega)]; exact hA j hj) (by rw [mxk_s, if_pos h, pL_ne (by omega)]; exact h6) (by rw [mnk_s, if_neg g, pL_eq])
        exact ⟨T, t1, t2, fun a j hj => by rw [t3 a j hj, pL_ne (by omega)], t4⟩
    · have g : C.2.2.2.2.2.2 th ≤ C.2.2.2.2.2.2 k := nl_lt_le (nl_nle.mp h)
      rw [if_neg h, show (6 : Int32) = o3 6 from rfl, sL_o (by omega) (by omega), bd_some, gL_o (by omega) (by omega), bd_some, gL_o (by omega) (by omega), bd_some, pL_ne (by omega), pL_ne (by omega), hA k (by omega), hA th hth, if_pos g]
      obtain ⟨T, t1, t2, t3, t4⟩ := ih (k + 1) nn (pL S 156 6 0) (by omega) (by omega) h2 (fun j hj => by rw [pL_ne (by omega)]; exact hA j hj) (by rw [mxk_s, if_neg h, pL_eq]) (by rw [mnk_s, if_pos g, pL_ne (by omega)]; exact h7)
      exact ⟨T, t1, t2, fun a j hj => by rw [t3 a j hj, pL_ne (by omega)], t4⟩
theorem mw_thing {S : fS} {a : Nat} (hth : th < 8) (ha : a < 4) : f_X11_thingOf (o3 th) (o3 a) S = some (S.1 157 (90 + 4 * th + a)) := by
  unfold f_X11_thingOf
  rw [show (90 : Int32) = o3 90 from rfl, show (4 : Int32) = o3 4 from rfl, o3_mul, o3_add, o3_add, gI_o (by omega) (by omega), bd_some]
theorem mw_standing {S : fS} {A : Nat → Int64} (hC : cwM (S.1 157) A C) (h8 : C.1 ≤ 8) {f : Int32} : f_X11_standing f S = some (o3 (stn C.2.2.1 f C.1)) := by
  have key : ∀ d k nn, k + d = C.1 → d < nn → lp_X11_standing_4 f S (fun u9 => some u9) nn (o3 (stn C.2.2.1 f k)) (o3 k) = some (o3 (stn C.2.2.1 f C.1)) := by
    intro d
    induction d with
    | zero =>
      intro k nn hk hnn
      obtain ⟨nn, rfl⟩ : ∃ z, nn = z + 1 := ⟨nn - 1, by omega⟩
      rw [lp_X11_standing_4.eq_2, show (2 : Int32) = o3 2 from rfl, gI_o (by omega) (by omega), bd_some, hC.1, if_pos ((o3_le (by omega) (by omega)).mpr (by omega)), show k = C.1 by omega]
    | succ d ih =>
      intro k nn hk hnn
      obtain ⟨nn, rfl⟩ : ∃ z, nn = z + 1 := ⟨nn - 1, by omega⟩
      have hs : stn C.2.2.1 f (k + 1) = stn C.2.2.1 f k + (if C.2.2.1 k = f then 1 else 0) := rfl
      rw [lp_X11_standing_4.eq_2, show (2 : Int32) = o3 2 from rfl, gI_o (by omega) (by omega), bd_some, hC.1, if_neg (fun q => by have := (o3_le (by omega) (by omega)).mp q; omega), show (0 : Int32) = o3 0 from rfl, mw_thing (by omega) (by omega), bd_some, show 90 + 4 * k + 0 = 90 + 4 * k by omega, (hC.2.2 k (by omega)).1]
      by_cases h : C.2.2.1 k = f
      · rw [if_pos h] at hs
        rw [if_pos h, o3_s, o3_s, ← hs]
        exact ih (k + 1) nn (by omega) (by omega)
      · rw [if_neg h] at hs
        rw [if_neg h, o3_add, o3_s, ← hs]
        exact ih (k + 1) nn (by omega) (by omega)
  exact key C.1 0 FU (by omega) (FU_lt (by omega))
theorem m_words {S : fS} {F : List (Nat × Nat)} {E : List (Nat × Nat × Nat × Nat × Nat)} (hC : cwM (S.1 157) (S.2 158) C) (hT : twM (S.1 157) F E) (hF : ∀ q ∈ F, okF q) (h8 : C.1 ≤ 8) (h9 : C.2.1 ≤ 10199) (h10 : F.length ≤ 10) (hth : th < C.1) {f : Nat} (hf : f < F.length) (hp : C.2.2.1 th = o3 f) : ∃ T, f_X11_words (o3 th) S = some T ∧ eW S T ∧ ∀ v, v < 8 → T.2 156 v = wd F C th v := by
  obtain ⟨k1, k2, k3, k4, k5⟩ := hC.2.2 th hth
  have hfo : okF (F.getD f (0, 0)) := hF _ (gd_mem hf)
  obtain ⟨o1, o2, o3', o4⟩ := hfo
  obtain ⟨f1, f2⟩ := hT.2.2.1 f hf
  have hst := stn_le (p := C.2.2.1) (f := C.2.2.1 th) C.1
  have hdv : 1000 * (F.getD f (0, 0)).1 / (F.getD f (0, 0)).2 ≤ 1000 * (F.getD f (0, 0)).1 := Nat.div_le_self _ _
  unfold f_X11_words
  rw [show (0 : Int32) = o3 0 from rfl, mw_thing (by omega) (by omega), bd_some, show 90 + 4 * th + 0 = 90 + 4 * th by omega, k1, show (3 : Int32) = o3 3 from rfl, gI_o (by omega) (by omega), bd_some, sL_o (by omega) (by omega), bd_some, show (1 : Int32) = o3 1 from rfl, sL_o (by omega) (by omega), bd_some, show (2 : Int32) = o3 2 from rfl, sL_o (by omega) (by omega), bd_some, gL_o (by omega) (by omega), bd_some, pL_ne (by omega), pL_ne (by omega), pL_ne (by omega), k5]
  have e3 : dL (C.2.2.2.2.2.2 th) 232792560 = some (C.2.2.2.2.2.2 th / 232792560) := rfl
  rw [e3, bd_some, sL_o (by omega) (by omega), bd_some]
  rw [mw_standing (C := C) (A := S.2 158) (by exact hC) h8, bd_some, show (4 : Int32) = o3 4 from rfl, sL_o (by omega) (by omega), bd_some, hp, show (10 : Int32) = o3 10 from rfl, o3_mul, o3_add, gI_o (by omega) (by omega), bd_some, o3_add, gI_o (by omega) (by omega), bd_some]
  simp only [pL_1]
  rw [f1, f2, show (1000 : Int32) = o3 1000 from rfl, o3_mul, o3_dI (by omega) (by omega) (by omega), bd_some, show (5 : Int32) = o3 5 from rfl, sL_o (by omega) (by omega), bd_some, show (6 : Int32) = o3 6 from rfl, sL_o (by omega) (by omega), bd_some, show (7 : Int32) = o3 7 from rfl, sL_o (by omega) (by omega), bd_some]
  obtain ⟨T, t1, t2, t3, t4, t5⟩ := mw_118 (C := C) (th := th) h8 hth (K := fun S83 => some S83) C.1 0 FU _ (by omega) (FU_lt (by omega)) (show (pL (pL (pL (pL (pL (pL (pL (pL S 156 0 (S.1 157 3).toInt64) 156 1 (o3 th).toInt64) 156 2 (o3 f).toInt64) 156 3 (C.2.2.2.2.2.2 th / 232792560)) 156 4 (o3 (stn C.2.2.1 (o3 f) C.1)).toInt64) 156 5 (o3 (1000 * (F.getD f (0, 0)).1 / (F.getD f (0, 0)).2)).toInt64) 156 6 1) 156 7 1).1 157 2 = o3 C.1 from hC.1) (fun j hj => by
    rw [pL_ne (by omega), pL_ne (by omega), pL_ne (by omega), pL_ne (by omega), pL_ne (by omega), pL_ne (by omega), pL_ne (by omega), pL_ne (by omega)]
    exact (hC.2.2 j hj).2.2.2.2) (by
    rw [pL_ne (by omega), pL_eq]
    unfold mxk
    rw [if_pos (fun j hj => absurd hj (Nat.not_lt_zero _))]) (by
    rw [pL_eq]
    unfold mnk
    rw [if_pos (fun j hj => absurd hj (Nat.not_lt_zero _))])
  refine ⟨T, t1, ⟨t2, fun a k h => ?_⟩, fun v hv => ?_⟩
  · rw [t3 a k (by omega), pL_ne (by omega), pL_ne (by omega), pL_ne (by omega), pL_ne (by omega), pL_ne (by omega), pL_ne (by omega), pL_ne (by omega), pL_ne (by omega)]
  · unfold wd
    rw [hp] at hst
    have : v = 0 ∨ v = 1 ∨ v = 2 ∨ v = 3 ∨ v = 4 ∨ v = 5 ∨ v = 6 ∨ v = 7 := by omega
    rcases this with rfl | rfl | rfl | rfl | rfl | rfl | rfl | rfl
    · rw [if_pos rfl, t3 _ _ (by omega), pL_ne (by omega), pL_ne (by omega), pL_ne (by omega), pL_ne (by omega), pL_ne (by omega), pL_ne (by omega), pL_ne (by omega), pL_eq, hC.2.1, o6_of3 (by omega)]
    · rw [if_neg (by decide), if_pos rfl, t3 _ _ (by omega), pL_ne (by omega), pL_ne (by omega), pL_ne (by omega), pL_ne (by omega), pL_ne (by omega), pL_ne (by omega), pL_eq, o6_of3 (by omega)]
    · rw [if_neg (by decide), if_neg (by decide), if_pos rfl, t3 _ _ (by omega), pL_ne (by omega), pL_ne (by omega), pL_ne (by omega), pL_ne (by omega), pL_ne (by omega), pL_eq, hp]
    · rw [if_neg (by decide), if_neg (by decide), if_neg (by decide), if_pos rfl, t3 _ _ (by omega), pL_ne (by omega), pL_ne (by omega), pL_ne (by omega), pL_ne (by omega), pL_eq]
    · rw [if_neg (by decide), if_neg (by decide), if_neg (by decide), if_neg (by decide), if_pos rfl, t3 _ _ (by omega), pL_ne (by omega), pL_ne (by omega), pL_ne (by omega), pL_eq, hp, o6_of3 (by omega)]
    · rw [if_neg (by decide), if_neg (by decide), if_neg (by decide), if_neg (by decide), if_neg (by decide), if_pos rfl, t3 _ _ (by omega), pL_ne (by omega), pL_ne (by omega), pL_eq, hp, o3_nat (by omega), o6_of3 (by omega)]
    · rw [if_neg (by decide), if_neg (by decide), if_neg (by decide), if_neg (by decide), if_neg (by decide), if_neg (by decide), if_pos rfl, t4]; rfl
    · rw [if_neg (by decide), if_neg (by decide), if_neg (by decide), if_neg (by decide), if_neg (by decide), if_neg (by decide), if_neg (by decide), t5]; rfl
end MWD
end
