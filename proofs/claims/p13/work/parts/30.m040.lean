section
variable {S : fS} {n : Nat} {w u : Int32}
theorem mt_fails {X : fS} {k p : Int32} (h : X.1 145 14 = 0) : f_X11_fails k p X = some (0, pI X 145 14 (1 + 8 * p + k)) := by
  unfold f_X11_fails
  rw [if_pos h]
  rfl
end
