section
theorem ll_0 {t : Nat → Int32} {n i : Nat} (h : ¬ ltr t n i = true) : ll t n i = 0 := by
  unfold ll
  cases n - i with
  | zero => rfl
  | succ f => exact if_neg h
end
