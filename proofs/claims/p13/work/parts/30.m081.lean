section
variable {S : fS} {n : Nat} {s f : Int32}
theorem upT_B {B : TB} {a : Nat} (hB : TBc S B) : TBc (upT S B.2.2.length (o3 a)) (B.1, B.2.1, B.2.2 ++ [a]) := by
  obtain ⟨⟨h1, h2, h3, h4⟩, h5, h6, h7⟩ := hB
  refine ⟨⟨h1, h2, fun k hk => h3 k hk, fun k hk => h4 k hk⟩, ?_, h6, fun k hk => ?_⟩
  · show o3 (B.2.2.length + 1) = _
    rw [ln_app]
  · rw [ln_app] at hk
    show (pI S 32 B.2.2.length (o3 a)).1 32 k = _ ∧ (pI S 33 B.2.2.length (-1)).1 33 k = _ ∧ (pI S 34 B.2.2.length 0).1 34 k = _ ∧ (pI S 35 B.2.2.length (-1)).1 35 k = _ ∧ (pL S 36 B.2.2.length 0).2 36 k = _
    rw [pI_get, pI_get, pI_get, pI_get, pL_get, gd_app]
    by_cases hc : k = B.2.2.length
    · rw [if_pos hc, if_pos ⟨rfl, hc⟩, if_pos ⟨rfl, hc⟩, if_pos ⟨rfl, hc⟩, if_pos ⟨rfl, hc⟩, if_pos ⟨rfl, hc⟩]
      exact ⟨rfl, rfl, rfl, rfl, rfl⟩
    · rw [if_neg hc, if_neg (fun q => hc q.2), if_neg (fun q => hc q.2), if_neg (fun q => hc q.2), if_neg (fun q => hc q.2), if_neg (fun q => hc q.2)]
      exact h7 k (by omega)
end
