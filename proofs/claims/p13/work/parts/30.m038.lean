section
variable {S : fS} {n : Nat} {w u : Int32}
theorem mt_pass (hn : S.1 145 1 = o3 n) (hl : n ≤ 400) {j : Nat} (hj : j ≤ n) : f_X11_passWord (mS S (o3 j) w u) = some (mS S (o3 (j + ll (S.1 146) n j)) w u) := by
  have hL := ll_le (t := S.1 146) (n := n) _ j rfl hj
  unfold f_X11_passWord
  rw [mt_passlp hn hl _ j FU rfl hj (FU_lt (by omega))]
end
