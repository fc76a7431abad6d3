section
variable {S : fS} {n : Nat} {s f : Int32}
theorem upS_B {B : TB} {a b c d e : Nat} (hB : TBc S B) : TBc (upS S B.2.1.length (o3 a) (o3 b) (o3 c) (pc (d, e))) (B.1, B.2.1 ++ [(a, b, c, d, e)], B.2.2) := by
  obtain ⟨⟨h1, h2, h3, h4⟩, h5, h6, h7⟩ := hB
  refine ⟨⟨h1, ?_, fun k hk => h3 k hk, fun k hk => ?_⟩, h5, h6, fun k hk => h7 k hk⟩
  · show o3 (B.2.1.length + 1) = _
    rw [ln_app]
  · rw [ln_app] at hk
    show (pI S 26 B.2.1.length (o3 a)).1 26 k = _ ∧ (pI S 27 B.2.1.length (o3 b)).1 27 k = _ ∧ (pI S 28 B.2.1.length (o3 c)).1 28 k = _ ∧ (pL S 29 B.2.1.length (pc (d, e))).2 29 k = _
    rw [pI_get, pI_get, pI_get, pL_get, gd_app]
    by_cases hc : k = B.2.1.length
    · rw [if_pos hc, if_pos ⟨rfl, hc⟩, if_pos ⟨rfl, hc⟩, if_pos ⟨rfl, hc⟩, if_pos ⟨rfl, hc⟩]
      exact ⟨rfl, rfl, rfl, rfl⟩
    · rw [if_neg hc, if_neg (fun q => hc q.2), if_neg (fun q => hc q.2), if_neg (fun q => hc q.2), if_neg (fun q => hc q.2)]
      exact h4 k (by omega)
end
