section
/-! the reference's tape -/
def llf (t : Nat → Int32) (n : Nat) : Nat → Nat → Nat
  | 0, _ => 0
  | f + 1, i => if ltr t n i = true then llf t n f (i + 1) + 1 else 0
end
