section
theorem mi_23 {i : Nat} (hi : i < 4) {K : fS → Option (Int32 × fS)} : ∀ d k nn (S : fS), k + d = 158 → d < nn → (∀ j, j < k → S.1 168 (158 * i + j) = S.1 157 j) → ∃ T, lp_X11_image_23 (o3 i) K nn (o3 k) S = K T ∧ (∀ j, j < 158 → T.1 168 (158 * i + j) = S.1 157 j) ∧ (∀ a j, ¬ (a = 168 ∧ 158 * i ≤ j ∧ j < 158 * i + 158) → T.1 a j = S.1 a j) ∧ T.2 = S.2 := by
  intro d
  induction d with
  | zero =>
    intro k nn S hk hnn hj
    obtain ⟨nn, rfl⟩ : ∃ z, nn = z + 1 := ⟨nn - 1, by omega⟩
    rw [lp_X11_image_23.eq_2, if_pos (show (158 : Int32) ≤ o3 k from (o3_le (a := 158) (by omega) (by omega)).mpr (by omega))]
    exact ⟨S, rfl, fun j h => hj j (by omega), fun _ _ _ => rfl, rfl⟩
  | succ d ih =>
    intro k nn S hk hnn hj
    obtain ⟨nn, rfl⟩ : ∃ z, nn = z + 1 := ⟨nn - 1, by omega⟩
    rw [lp_X11_image_23.eq_2, if_neg (show ¬ (158 : Int32) ≤ o3 k from fun q => by have := (o3_le (a := 158) (by omega) (by omega)).mp q; omega), gI_o (by omega) (by omega), bd_some, show (158 : Int32) = o3 158 from rfl, o3_mul, o3_add, sI_o (by omega) (by omega), bd_some, o3_s]
    obtain ⟨T, t1, t2, t3, t4⟩ := ih (k + 1) nn (pI S 168 (158 * i + k) (S.1 157 k)) (by omega) (by omega) (fun j h => by
      rw [pI_ne (b := 157) (by omega)]
      by_cases e : j = k
      · subst e; rw [pI_eq]
      · rw [pI_ne (by omega)]; exact hj j (by omega))
    exact ⟨T, t1, fun j h => by rw [t2 j h, pI_ne (by omega)], fun a j h => by rw [t3 a j h, pI_ne (by omega)], t4⟩
end
