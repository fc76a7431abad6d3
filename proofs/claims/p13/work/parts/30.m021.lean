section
theorem mS_14 {S : fS} {i w u : Int32} : (mS S i w u).1 145 14 = w := id rfl
end
