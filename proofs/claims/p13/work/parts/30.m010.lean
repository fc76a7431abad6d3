section
def isL (x : Int32) : Prop := 97 ≤ x.toInt ∧ x.toInt ≤ 122
end
