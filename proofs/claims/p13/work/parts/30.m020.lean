section
theorem mS_13 {S : fS} {i w u : Int32} : (mS S i w u).1 145 13 = i := id rfl
end
