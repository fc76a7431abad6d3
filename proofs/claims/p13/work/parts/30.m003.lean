section
theorem ll_1 {t : Nat → Int32} {n i : Nat} (h : ltr t n i = true) : ll t n i = ll t n (i + 1) + 1 := by
  unfold ll
  have := (ltr_iff.mp h).1
  rw [show n - i = (n - (i + 1)) + 1 by omega]
  exact if_pos h
end
