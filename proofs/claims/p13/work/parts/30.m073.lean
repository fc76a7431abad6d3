section
variable {S : fS} {n : Nat} {s f : Int32}
theorem upF_B {B : TB} {q : Nat × Nat} (hB : TBc S B) : TBc (upF S B.1.length (pc q)) (B.1 ++ [q], B.2) := by
  obtain ⟨⟨h1, h2, h3, h4⟩, h5, h6, h7⟩ := hB
  refine ⟨⟨?_, h2, fun k hk => ?_, fun k hk => h4 k hk⟩, h5, h6, fun k hk => h7 k hk⟩
  · show o3 (B.1.length + 1) = _
    rw [ln_app]
  · rw [ln_app] at hk
    show (pL S 25 B.1.length (pc q)).2 25 k = _
    rw [pL_get, gd_app]
    by_cases hc : k = B.1.length
    · rw [if_pos ⟨rfl, hc⟩, if_pos hc]
    · rw [if_neg (fun q => hc q.2), if_neg hc]
      exact h3 k (by omega)
end
