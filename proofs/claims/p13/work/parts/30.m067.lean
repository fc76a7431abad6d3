section
theorem tS_L {S : fS} {i s f : Int32} : (tS S i s f).2 = S.2 := rfl
end
