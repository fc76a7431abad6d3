section
/-! the reference: a word of the rules, a value -/
section MV
variable {S : fS} {n : Nat} {w u : Int32}
theorem mv_name (hn : S.1 145 1 = o3 n) (hl : n ≤ 400) {j : Nat} (hj : j ≤ n) (hs : sk (S.1 146) n j = j) : f_X11_wordHere (mS S (o3 j) w u) = some (if nmI (S.1 146) n j < 8 then o3 (nmI (S.1 146) n j) else -1, mS S (o3 j) w u) := by
  unfold f_X11_wordHere nmI
  rw [mr_word hn hl 7237495 6 (by decide) (by decide) hj, bd_some, hs]
  by_cases h0 : wat (S.1 146) n (mm_sb.getD 6 []) j = true
  · simp only [if_pos h0]; rw [if_neg (by decide), if_pos (by omega)]; rfl
  simp only [if_neg h0]
  rw [if_pos trivial, mr_word hn hl 499967946343 7 (by decide) (by decide) hj, bd_some, hs]
  by_cases h1 : wat (S.1 146) n (mm_sb.getD 7 []) j = true
  · simp only [if_pos h1]; rw [if_neg (by decide), if_pos (by omega)]; rfl
  simp only [if_neg h1]
  rw [if_pos trivial, mr_word hn hl 439905906546 8 (by decide) (by decide) hj, bd_some, hs]
  by_cases h2 : wat (S.1 146) n (mm_sb.getD 8 []) j = true
  · simp only [if_pos h2]; rw [if_neg (by decide), if_pos (by omega)]; rfl
  simp only [if_neg h2]
  rw [if_pos trivial, mr_word hn hl 6383461 9 (by decide) (by decide) hj, bd_some, hs]
  by_cases h3 : wat (S.1 146) n (mm_sb.getD 9 []) j = true
  · simp only [if_pos h3]; rw [if_neg (by decide), if_pos (by omega)]; rfl
  simp only [if_neg h3]
  rw [if_pos trivial, mr_word hn hl 1751478885 10 (by decide) (by decide) hj, bd_some, hs]
  by_cases h4 : wat (S.1 146) n (mm_sb.getD 10 []) j = true
  · simp only [if_pos h4]; rw [if_neg (by decide), if_pos (by omega)]; rfl
  simp only [if_neg h4]
  rw [if_pos trivial, mr_word hn hl 1918989413 11 (by decide) (by decide) hj, bd_some, hs]
  by_cases h5 : wat (S.1 146) n (mm_sb.getD 11 []) j = true
  · simp only [if_pos h5]; rw [if_neg (by decide), if_pos (by omega)]; rfl
  simp only [if_neg h5]
  rw [if_pos trivial, mr_word hn hl 122511331521396 12 (by decide) (by decide) hj, bd_some, hs]
  by_cases h6 : wat (S.1 146) n (mm_sb.getD 12 []) j = true
  · simp only [if_pos h6]; rw [if_neg (by decide), if_pos (by omega)]; rfl
  simp only [if_neg h6]
  rw [if_pos trivial, mr_word hn hl 8750341718045717364 13 (by decide) (by decide) hj, bd_some, hs]
  by_cases h7 : wat (S.1 146) n (mm_sb.getD 13 []) j = true
  · simp only [if_pos h7]; rw [if_neg (by decide), if_pos (by omega)]; rfl
  simp only [if_neg h7]
  rw [if_pos trivial, if_neg (by omega)]
end MV
end
