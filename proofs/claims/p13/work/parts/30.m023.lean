section
theorem mS_1 {S : fS} {i w u : Int32} : (mS S i w u).1 145 1 = S.1 145 1 := id rfl
end
