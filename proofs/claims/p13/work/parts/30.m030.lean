section
variable {S : fS} {n : Nat} {w u : Int32}
theorem mt_letter (hl : n ≤ 400) {X : fS} (h1 : X.1 145 1 = o3 n) {k : Nat} (hk : k < 2000000) : f_X11_isLetter (o3 k) X = some (if ltr (X.1 146) n k = true then 1 else 0) := by
  unfold f_X11_isLetter
  rw [h1]
  by_cases hkn : k < n
  · rw [if_neg (fun q => by have := (o3_le (by omega) (by omega)).mp q; omega), gI_o (by omega) (by omega), bd_some, bd_some]
    by_cases hc : ltr (X.1 146) n k = true
    · obtain ⟨h1, h2, h3⟩ := ltr_iff.mp hc
      rw [if_neg (fun q => by have q := ni_lt.mp q; rw [show (97 : Int32).toInt = 97 from rfl] at q; omega), if_neg (fun q => by have q := ni_lt.mp q; rw [show (122 : Int32).toInt = 122 from rfl] at q; omega), if_pos hc]
    · rw [if_neg hc]
      by_cases h2 : X.1 146 k < 97
      · rw [if_pos h2]
      · rw [if_neg h2, if_pos]
        have h2 : ¬ (X.1 146 k).toInt < 97 := fun q => h2 (ni_lt.mpr q)
        refine ni_lt.mpr ?_
        show 122 < (X.1 146 k).toInt
        exact Int.not_le.mp (fun q => hc (ltr_iff.mpr ⟨hkn, by omega, q⟩))
  · rw [if_pos ((o3_le (by omega) (by omega)).mpr (by omega)), if_neg (fun q => hkn (ltr_iff.mp q).1)]
end
