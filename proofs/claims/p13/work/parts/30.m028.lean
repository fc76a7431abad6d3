section
variable {S : fS} {n : Nat} {w u : Int32}
theorem mt_see (hn : S.1 145 1 = o3 n) (hl : n ≤ 400) {i : Nat} (hi : i ≤ n) : f_X11_see (mS S (o3 i) w u) = some (seen (S.1 146) n (sk (S.1 146) n i), mS S (o3 (sk (S.1 146) n i)) w u) := by
  have hj := sk_le (t := S.1 146) hi
  unfold f_X11_see
  rw [mt_seelp hn hl (n - i) i FU rfl hi (FU_lt (by omega)), mS_1, mS_13, hn]
  unfold seen
  generalize sk (S.1 146) n i = j at hj
  by_cases h : j < n
  · rw [if_neg (fun q => by have := (o3_le (by omega) (by omega)).mp q; omega), gI_o (by omega) (by omega), bd_some, mS_t, if_pos h]
  · rw [if_pos ((o3_le (by omega) (by omega)).mpr (by omega)), if_neg h]
end
