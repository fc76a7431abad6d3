section
variable {t : Nat → Int32} {n : Nat} {B : TB} {i : Nat}
theorem wat_le {w : List Int32} {j : Nat} (hj : j ≤ n) (h : wat t n w j = true) : j + w.length ≤ n := by
  rw [wat_wpf, Bool.and_eq_true] at h
  exact wpf_le w j hj h.1
end
