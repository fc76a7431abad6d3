section
/-! the words of a rule, of a crowd C on floors F -/
def stn (p : Nat → Int32) (f : Int32) : Nat → Nat
  | 0 => 0
  | k + 1 => stn p f k + (if p k = f then 1 else 0)
theorem stn_le {p : Nat → Int32} {f : Int32} : ∀ k, stn p f k ≤ k := by
  intro k
  induction k with
  | zero => exact Nat.le_refl _
  | succ k ih =>
    show stn p f k + _ ≤ k + 1
    split <;> omega
def wd (F : List (Nat × Nat)) (C : Cw) (th v : Nat) : Int64 :=
  if v = 0 then o6 C.2.1 else if v = 1 then o6 th
  else if v = 2 then Int32.toInt64 (C.2.2.1 th)
  else if v = 3 then C.2.2.2.2.2.2 th / 232792560
  else if v = 4 then o6 (stn C.2.2.1 (C.2.2.1 th) C.1)
  else if v = 5 then o6 (1000 * (F.getD (C.2.2.1 th).toNatClampNeg (0, 0)).1 / (F.getD (C.2.2.1 th).toNatClampNeg (0, 0)).2)
  else if v = 6 then (if ∀ k, k < C.1 → C.2.2.2.2.2.2 k ≤ C.2.2.2.2.2.2 th then 1 else 0)
  else (if ∀ k, k < C.1 → C.2.2.2.2.2.2 th ≤ C.2.2.2.2.2.2 k then 1 else 0)
theorem nl_nle {a b : Int64} : ¬ a ≤ b ↔ b < a := by rw [nl_le, nl_lt]; omega
theorem nl_lt_le {a b : Int64} (h : a < b) : a ≤ b := by rw [nl_lt] at h; rw [nl_le]; omega
theorem nl_le_tr {a b c : Int64} (h : a ≤ b) (g : b ≤ c) : a ≤ c := by rw [nl_le] at h g ⊢; omega
theorem nl_le_rf {a : Int64} : a ≤ a := by rw [nl_le]; omega
theorem nl_anti {a b : Int64} (h : a ≤ b) (g : b ≤ a) : a = b := by rw [nl_le] at h g; rw [nl_eq]; omega
section CW
variable {S : fS} {c : Nat} {C : Cw}
theorem cw_standing (hC : cwC S c C) (h8 : C.1 ≤ 8) {f : Int32} : f_X0_standingOn c f S = some (o3 (stn C.2.2.1 f C.1)) := by
  have key : ∀ d k nn, k + d = C.1 → d < nn → lp_X0_standingOn_4 c f S (fun u6 => some u6) nn (o3 (stn C.2.2.1 f k)) (o3 k) = some (o3 (stn C.2.2.1 f C.1)) := by
    intro d
    induction d with
    | zero =>
      intro k nn hk hnn
      obtain ⟨nn, rfl⟩ : ∃ z, nn = z + 1 := ⟨nn - 1, by omega⟩
      rw [lp_X0_standingOn_4.eq_2, hC.1, if_pos ((o3_le (by omega) (by omega)).mpr (by omega)), show k = C.1 by omega]
    | succ d ih =>
      intro k nn hk hnn
      obtain ⟨nn, rfl⟩ : ∃ z, nn = z + 1 := ⟨nn - 1, by omega⟩
      have hs : stn C.2.2.1 f (k + 1) = stn C.2.2.1 f k + (if C.2.2.1 k = f then 1 else 0) := rfl
      rw [lp_X0_standingOn_4.eq_2, hC.1, if_neg (fun q => by have := (o3_le (by omega) (by omega)).mp q; omega), gI_o (by omega) (by omega), bd_some, (hC.2.2 k (by omega)).1]
      by_cases h : C.2.2.1 k = f
      · rw [if_pos h] at hs
        rw [if_pos h, o3_s, o3_s, ← hs]
        exact ih (k + 1) nn (by omega) (by omega)
      · rw [if_neg h] at hs
        rw [if_neg h, show (0 : Int32) = o3 0 from rfl, o3_add, o3_s, ← hs]
        exact ih (k + 1) nn (by omega) (by omega)
  exact key C.1 0 FU (by omega) (FU_lt (by omega))
theorem cw_eldest (hC : cwC S c C) (h8 : C.1 ≤ 8) (h1 : 0 < C.1) : ∃ i, i < C.1 ∧ f_X0_eldest c S = some (o3 i) ∧ ∀ k, k < C.1 → C.2.2.2.2.2.2 k ≤ C.2.2.2.2.2.2 i := by
  have key : ∀ d k nn i, k + d = C.1 → d < nn → i < C.1 → (∀ j, j < k → C.2.2.2.2.2.2 j ≤ C.2.2.2.2.2.2 i) → ∃ i', i' < C.1 ∧ lp_X0_eldest_4 c S (fun u9 => some u9) nn (o3 i) (o3 k) = some (o3 i') ∧ ∀ j, j < C.1 → C.2.2.2.2.2.2 j ≤ C.2.2.2.2.2.2 i' := by
    intro d
    induction d with
    | zero =>
      intro k nn i hk hnn hi hm
      obtain ⟨nn, rfl⟩ : ∃ z, nn = z + 1 := ⟨nn - 1, by omega⟩
      rw [lp_X0_eldest_4.eq_2, hC.1, if_pos ((o3_le (by omega) (by omega)).mpr (by omega))]
      exact ⟨i, hi, rfl, fun j hj => hm j (by omega)⟩
    | succ d ih =>
      intro k nn i hk hnn hi hm
      obtain ⟨nn, rfl⟩ : ∃ z, nn = z + 1 := ⟨nn - 1, by omega⟩
      rw [lp_X0_eldest_4.eq_2, hC.1, if_neg (fun q => by have := (o3_le (by omega) (by omega)).mp q; omega), gL_o (by omega) (by omega), bd_some, gL_o (by omega) (by omega), bd_some, (hC.2.2 k (by omega)).2.2.2.2, (hC.2.2 i hi).2.2.2.2, o3_s]
      by_cases h : C.2.2.2.2.2.2 k ≤ C.2.2.2.2.2.2 i
      · rw [if_pos h]
        exact ih (k + 1) nn i (by omega) (by omega) hi (fun j hj => by
          by_cases e : j = k
          · rw [e]; exact h
          · exact hm j (by omega))
      · rw [if_neg h]
        exact ih (k + 1) nn k (by omega) (by omega) (by omega) (fun j hj => by
          by_cases e : j = k
          · rw [e]; exact nl_le_rf
          · exact nl_le_tr (hm j (by omega)) (nl_lt_le (nl_nle.mp h)))
  obtain ⟨i, a, b, e⟩ := key (C.1 - 1) 1 FU 0 (by omega) (FU_lt (by omega)) h1 (fun j hj => by rw [show j = 0 by omega]; exact nl_le_rf)
  exact ⟨i, a, b, e⟩
theorem cw_youngest (hC : cwC S c C) (h8 : C.1 ≤ 8) (h1 : 0 < C.1) : ∃ i, i < C.1 ∧ f_X0_youngest c S = some (o3 i) ∧ ∀ k, k < C.1 → C.2.2.2.2.2.2 i ≤ C.2.2.2.2.2.2 k := by
  have key : ∀ d k nn i, k + d = C.1 → d < nn → i < C.1 → (∀ j, j < k → C.2.2.2.2.2.2 i ≤ C.2.2.2.2.2.2 j) → ∃ i', i' < C.1 ∧ lp_X0_youngest_4 c S (fun u9 => some u9) nn (o3 i) (o3 k) = some (o3 i') ∧ ∀ j, j < C.1 → C.2.2.2.2.2.2 i' ≤ C.2.2.2.2.2.2 j := by
    intro d
    induction d with
    | zero =>
      intro k nn i hk hnn hi hm
      obtain ⟨nn, rfl⟩ : ∃ z, nn = z + 1 := ⟨nn - 1, by omega⟩
      rw [lp_X0_youngest_4.eq_2, hC.1, if_pos ((o3_le (by omega) (by omega)).mpr (by omega))]
      exact ⟨i, hi, rfl, fun j hj => hm j (by omega)⟩
    | succ d ih =>
      intro k nn i hk hnn hi hm
      obtain ⟨nn, rfl⟩ : ∃ z, nn = z + 1 := ⟨nn - 1, by omega⟩
      rw [lp_X0_youngest_4.eq_2, hC.1, if_neg (fun q => by have := (o3_le (by omega) (by omega)).mp q; omega), gL_o (by omega) (by omega), bd_some, gL_o (by omega) (by omega), bd_some, (hC.2.2 k (by omega)).2.2.2.2, (hC.2.2 i hi).2.2.2.2, o3_s]
      by_cases h : C.2.2.2.2.2.2 i ≤ C.2.2.2.2.2.2 k
      · rw [if_pos h]
        exact ih (k + 1) nn i (by omega) (by omega) hi (fun j hj => by
          by_cases e : j = k
          · rw [e]; exact h
          · exact hm j (by omega))
      · rw [if_neg h]
        exact ih (k + 1) nn k (by omega) (by omega) (by omega) (fun j hj => by
          by_cases e : j = k
          · rw [e]; exact nl_le_rf
          · exact nl_le_tr (nl_lt_le (nl_nle.mp h)) (hm j (by omega)))
  obtain ⟨i, a, b, e⟩ := key (C.1 - 1) 1 FU 0 (by omega) (FU_lt (by omega)) h1 (fun j hj => by rw [show j = 0 by omega]; exact nl_le_rf)
  exact ⟨i, a, b, e⟩
theorem pc_1000 {q : Nat × Nat} (h : okF q) : dL ((1000 : Int64) * pc q) (232792560 : Int64) = some (o6 (1000 * q.1 / q.2)) := by
  obtain ⟨h1, h2, h3, h4⟩ := h
  have hd : 232792560 / q.2 * q.2 = 232792560 := by
    have : q.2 = 1 ∨ q.2 = 2 ∨ q.2 = 3 ∨ q.2 = 4 ∨ q.2 = 5 ∨ q.2 = 6 ∨ q.2 = 7 ∨ q.2 = 8 ∨ q.2 = 9 ∨ q.2 = 10 ∨ q.2 = 11 ∨ q.2 = 12 ∨ q.2 = 13 ∨ q.2 = 14 ∨ q.2 = 15 ∨ q.2 = 16 ∨ q.2 = 17 ∨ q.2 = 18 ∨ q.2 = 19 ∨ q.2 = 20 := by omega
    rcases this with e | e | e | e | e | e | e | e | e | e | e | e | e | e | e | e | e | e | e | e <;> rw [e]
  have hp : q.1 * (232792560 / q.2) ≤ 20 * 232792560 := Nat.mul_le_mul h2 (Nat.div_le_self _ _)
  unfold pc
  rw [show (1000 : Int64) = o6 1000 from rfl, show (232792560 : Int64) = o6 232792560 from rfl, o6_mul, o6_dL (by omega) (by omega) (by omega)]
  congr 2
  have e : 1000 * (q.1 * (232792560 / q.2)) = (1000 * q.1) * (232792560 / q.2) := by rw [Nat.mul_assoc]
  rw [e]
  have hz : 0 < 232792560 / q.2 := Nat.div_pos (by omega) (by omega)
  generalize 232792560 / q.2 = z at hd hz
  rw [show 232792560 = q.2 * z by rw [Nat.mul_comm]; exact hd.symm]
  exact Nat.mul_div_mul_right _ _ hz
theorem c_word {F : List (Nat × Nat)} {E : List (Nat × Nat × Nat × Nat × Nat)} {t th : Nat} (hC : cwC S c C) (hT : twC S t F E) (hF : ∀ q ∈ F, okF q) (h8 : C.1 ≤ 8) (h9 : C.2.1 ≤ 10199) (h10 : F.length ≤ 10) (hth : th < C.1) {f : Nat} (hf : f < F.length) (hp : C.2.2.1 th = o3 f) {v : Nat} (hv : v < 8) : f_X0_wordOf c t (o3 th) (o3 v) S = some (wd F C th v) := by
  obtain ⟨k1, k2, k3, k4, k5⟩ := hC.2.2 th hth
  have hfo : okF (F.getD f (0, 0)) := hF _ (gd_mem hf)
  unfold f_X0_wordOf wd
  have : v = 0 ∨ v = 1 ∨ v = 2 ∨ v = 3 ∨ v = 4 ∨ v = 5 ∨ v = 6 ∨ v = 7 := by omega
  rcases this with rfl | rfl | rfl | rfl | rfl | rfl | rfl | rfl
  · rw [if_pos (show o3 0 = (0 : Int32) from rfl), if_pos rfl, hC.2.1, o6_of3 (by omega)]
  · rw [if_neg (show ¬ o3 1 = (0 : Int32) by decide), if_pos (show o3 1 = (1 : Int32) from rfl), if_neg (by decide), if_pos rfl, o6_of3 (by omega)]
  · rw [if_neg (show ¬ o3 2 = (0 : Int32) by decide), if_neg (show ¬ o3 2 = (1 : Int32) by decide), if_pos (show o3 2 = (2 : Int32) from rfl), if_neg (by decide), if_neg (by decide), if_pos rfl, gI_o (by omega) (by omega), bd_some, k1]
  · rw [if_neg (show ¬ o3 3 = (0 : Int32) by decide), if_neg (show ¬ o3 3 = (1 : Int32) by decide), if_neg (show ¬ o3 3 = (2 : Int32) by decide), if_pos (show o3 3 = (3 : Int32) from rfl), if_neg (by decide), if_neg (by decide), if_neg (by decide), if_pos rfl, gL_o (by omega) (by omega), bd_some, k5]
    rfl
  · rw [if_neg (show ¬ o3 4 = (0 : Int32) by decide), if_neg (show ¬ o3 4 = (1 : Int32) by decide), if_neg (show ¬ o3 4 = (2 : Int32) by decide), if_neg (show ¬ o3 4 = (3 : Int32) by decide), if_pos (show o3 4 = (4 : Int32) from rfl), if_neg (by decide), if_neg (by decide), if_neg (by decide), if_neg (by decide), if_pos rfl, gI_o (by omega) (by omega), bd_some, k1, cw_standing hC h8, bd_some, o6_of3 (by have := stn_le (p := C.2.2.1) (f := C.2.2.1 th) C.1; omega)]
  · rw [if_neg (show ¬ o3 5 = (0 : Int32) by decide), if_neg (show ¬ o3 5 = (1 : Int32) by decide), if_neg (show ¬ o3 5 = (2 : Int32) by decide), if_neg (show ¬ o3 5 = (3 : Int32) by decide), if_neg (show ¬ o3 5 = (4 : Int32) by decide), if_pos (show o3 5 = (5 : Int32) from rfl), if_neg (by decide), if_neg (by decide), if_neg (by decide), if_neg (by decide), if_neg (by decide), if_pos rfl, gI_o (by omega) (by omega), bd_some, k1, hp, gL_o (by omega) (by omega), bd_some, hT.2.2.1 f hf, pc_1000 hfo, bd_some, o3_nat (by omega)]
  · rw [if_neg (show ¬ o3 6 = (0 : Int32) by decide), if_neg (show ¬ o3 6 = (1 : Int32) by decide), if_neg (show ¬ o3 6 = (2 : Int32) by decide), if_neg (show ¬ o3 6 = (3 : Int32) by decide), if_neg (show ¬ o3 6 = (4 : Int32) by decide), if_neg (show ¬ o3 6 = (5 : Int32) by decide), if_pos (show o3 6 = (6 : Int32) from rfl), if_neg (by decide), if_neg (by decide), if_neg (by decide), if_neg (by decide), if_neg (by decide), if_neg (by decide), if_pos rfl, gL_o (by omega) (by omega), bd_some, k5]
    obtain ⟨i, i1, i2, i3⟩ := cw_eldest hC h8 (by omega)
    rw [i2, bd_some, gL_o (by omega) (by omega), bd_some, (hC.2.2 i i1).2.2.2.2]
    by_cases h : ∀ k, k < C.1 → C.2.2.2.2.2.2 k ≤ C.2.2.2.2.2.2 th
    · rw [if_pos h, if_pos (nl_anti (i3 th hth) (h i i1))]
    · rw [if_neg h, if_neg (fun q => h (fun k hk => by rw [q]; exact i3 k hk))]
  · rw [if_neg (show ¬ o3 7 = (0 : Int32) by decide), if_neg (show ¬ o3 7 = (1 : Int32) by decide), if_neg (show ¬ o3 7 = (2 : Int32) by decide), if_neg (show ¬ o3 7 = (3 : Int32) by decide), if_neg (show ¬ o3 7 = (4 : Int32) by decide), if_neg (show ¬ o3 7 = (5 : Int32) by decide), if_neg (show ¬ o3 7 = (6 : Int32) by decide), if_neg (by decide), if_neg (by decide), if_neg (by decide), if_neg (by decide), if_neg (by decide), if_neg (by decide), if_neg (by decide), gL_o (by omega) (by omega), bd_some, k5]
    obtain ⟨i, i1, i2, i3⟩ := cw_youngest hC h8 (by omega)
    rw [i2, bd_some, gL_o (by omega) (by omega), bd_some, (hC.2.2 i i1).2.2.2.2]
    by_cases h : ∀ k, k < C.1 → C.2.2.2.2.2.2 th ≤ C.2.2.2.2.2.2 k
    · rw [if_pos h, if_pos (nl_anti (h i i1) (i3 th hth))]
    · rw [if_neg h, if_neg (fun q => h (fun k hk => by rw [q]; exact i3 k hk))]
end CW
end
