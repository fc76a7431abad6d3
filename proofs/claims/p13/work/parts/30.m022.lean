section
theorem mS_15 {S : fS} {i w u : Int32} : (mS S i w u).1 145 15 = u := id rfl
end
