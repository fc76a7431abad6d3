section
variable {S : fS} {n : Nat} {w u : Int32}
theorem mt_digit (hl : n ≤ 400) {X : fS} (h1 : X.1 145 1 = o3 n) {k : Nat} (hk : k < 2000000) : f_X11_isDigit (o3 k) X = some (if 0 < dl (X.1 146) n k then 1 else 0) := by
  unfold f_X11_isDigit
  rw [h1]
  by_cases hkn : k < n
  · rw [if_neg (fun q => by have := (o3_le (by omega) (by omega)).mp q; omega), gI_o (by omega) (by omega), bd_some, bd_some]
    by_cases hc : dgt (X.1 146) n k
    · obtain ⟨h1, h2, h3⟩ := hc
      rw [if_neg (fun q => by have q := ni_lt.mp q; rw [show (48 : Int32).toInt = 48 from rfl] at q; omega), if_neg (fun q => by have q := ni_lt.mp q; rw [show (57 : Int32).toInt = 57 from rfl] at q; omega), dl_1 ⟨h1, h2, h3⟩, if_pos (by omega)]
    · rw [dl_0 hc, if_neg (Nat.lt_irrefl 0)]
      by_cases h2 : X.1 146 k < 48
      · rw [if_pos h2]
      · rw [if_neg h2, if_pos]
        have h2 : ¬ (X.1 146 k).toInt < 48 := fun q => h2 (ni_lt.mpr q)
        refine ni_lt.mpr ?_
        show 57 < (X.1 146 k).toInt
        exact Int.not_le.mp (fun q => hc ⟨hkn, by omega, q⟩)
  · rw [if_pos ((o3_le (by omega) (by omega)).mpr (by omega)), dl_0 (fun q => hkn q.1), if_neg (Nat.lt_irrefl 0)]
end
