section
theorem tS_pL {S : fS} {i s f : Int32} {a k : Nat} {x : Int64} : pL (tS S i s f) a k x = tS (pL S a k x) i s f := rfl
end
