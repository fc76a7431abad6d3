section
theorem mS_t {S : fS} {i w u : Int32} : (mS S i w u).1 146 = S.1 146 := id rfl
end
