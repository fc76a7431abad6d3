section
theorem mb_58 {i : Nat} (hi : i < 4) {K : fS → Option (Int32 × fS)} : ∀ d k nn (S : fS), k + d = 8 → d < nn → (∀ j, j < k → S.2 158 j = S.2 169 (8 * i + j)) → ∃ T, lp_X11_back_58 (o3 i) K nn (o3 k) S = K T ∧ (∀ j, j < 8 → T.2 158 j = S.2 169 (8 * i + j)) ∧ (∀ a j, a ≠ 158 → T.2 a j = S.2 a j) ∧ T.1 = S.1 := by
  intro d
  induction d with
  | zero =>
    intro k nn S hk hnn hj
    obtain ⟨nn, rfl⟩ : ∃ z, nn = z + 1 := ⟨nn - 1, by omega⟩
    rw [lp_X11_back_58.eq_2, if_pos (show (8 : Int32) ≤ o3 k from (o3_le (a := 8) (by omega) (by omega)).mpr (by omega))]
    exact ⟨S, rfl, fun j h => hj j (by omega), fun _ _ _ => rfl, rfl⟩
  | succ d ih =>
    intro k nn S hk hnn hj
    obtain ⟨nn, rfl⟩ : ∃ z, nn = z + 1 := ⟨nn - 1, by omega⟩
    rw [lp_X11_back_58.eq_2, if_neg (show ¬ (8 : Int32) ≤ o3 k from fun q => by have := (o3_le (a := 8) (by omega) (by omega)).mp q; omega), show (8 : Int32) = o3 8 from rfl, o3_mul, o3_add, gL_o (by omega) (by omega), bd_some, sL_o (by omega) (by omega), bd_some, o3_s]
    obtain ⟨T, t1, t2, t3, t4⟩ := ih (k + 1) nn (pL S 158 k (S.2 169 (8 * i + k))) (by omega) (by omega) (fun j h => by
      rw [pL_ne (b := 169) (by omega)]
      by_cases e : j = k
      · subst e; rw [pL_eq]
      · rw [pL_ne (by omega)]; exact hj j (by omega))
    exact ⟨T, t1, fun j h => by rw [t2 j h, pL_ne (by omega)], fun a j h => by rw [t3 a j h, pL_ne (by omega)], t4⟩
end
