section
theorem TBm_cg {S T : fS} {B : TB} (h1 : ∀ k, k = 7 ∨ k = 8 ∨ k = 9 → T.1 145 k = S.1 145 k) (h2 : ∀ a k, a = 151 ∨ a = 152 ∨ a = 153 → T.1 a k = S.1 a k) (hB : TBm S B) : TBm T B := by
  obtain ⟨b1, b2, b3, b4, b5, b6⟩ := hB
  refine ⟨?_, ?_, ?_, fun k hk => ⟨?_, ?_⟩, fun k hk => ⟨?_, ?_, ?_, ?_, ?_⟩, fun k hk => ?_⟩
  · rw [h1 7 (by omega)]; exact b1
  · rw [h1 8 (by omega)]; exact b2
  · rw [h1 9 (by omega)]; exact b3
  · rw [h2 _ _ (by omega)]; exact (b4 k hk).1
  · rw [h2 _ _ (by omega)]; exact (b4 k hk).2
  · rw [h2 _ _ (by omega)]; exact (b5 k hk).1
  · rw [h2 _ _ (by omega)]; exact (b5 k hk).2.1
  · rw [h2 _ _ (by omega)]; exact (b5 k hk).2.2.1
  · rw [h2 _ _ (by omega)]; exact (b5 k hk).2.2.2.1
  · rw [h2 _ _ (by omega)]; exact (b5 k hk).2.2.2.2
  · rw [h2 _ _ (by omega)]; exact b6 k hk
end
