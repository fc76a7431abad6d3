section
variable {S : fS} {n : Nat} {w u : Int32}
theorem mt_takes (hn : S.1 145 1 = o3 n) (hl : n ≤ 400) {c : Int64} {W : List Int32} (hW : ∀ x ∈ W, isL x) (h1 : 0 < W.length) (h8 : W.length ≤ 8) (hc : c = Int64.ofNat (pkW W)) {i : Nat} (hi : i ≤ n) : f_X11_takesWord c (mS S (o3 i) w u) = some (if wat (S.1 146) n W (sk (S.1 146) n i) = true then (1, mS S (o3 (sk (S.1 146) n i + W.length)) w u) else (0, mS S (o3 (sk (S.1 146) n i)) w u)) := by
  have hj := sk_le (t := S.1 146) hi
  unfold f_X11_takesWord
  rw [mt_isWord hn hl hW h1 h8 hc hi, bd_some]
  by_cases hw : wat (S.1 146) n W (sk (S.1 146) n i) = true
  · rw [if_pos hw, if_pos hw, if_neg (show ¬ (1 : Int32) = 0 by decide), mt_pass hn hl hj, bd_some, ((wat_ll W _ hW).mp hw).1]
  · rw [if_neg hw, if_neg hw, if_pos rfl]
end
