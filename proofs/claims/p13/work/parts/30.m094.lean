section
variable {t : Nat → Int32} {n : Nat} {B : TB} {i : Nat}
theorem wpf_le : ∀ (w : List Int32) (j : Nat), j ≤ n → wpf t n w j = true → j + w.length ≤ n := by
  intro w
  induction w with
  | nil => intro j hj _; exact hj
  | cons c w ih =>
    intro j hj h
    have h : (decide (j < n ∧ t j = c) && wpf t n w (j + 1)) = true := h
    rw [Bool.and_eq_true, decide_eq_true_iff] at h
    have := ih (j + 1) (by have := h.1.1; omega) h.2
    show j + (w.length + 1) ≤ n
    omega
end
