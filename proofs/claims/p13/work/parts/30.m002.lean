section
/-- how many small letters stand there -/
def ll (t : Nat → Int32) (n i : Nat) : Nat := llf t n (n - i) i
end
