section
variable {S : fS} {n : Nat} {w u : Int32}
/-- number here, from a state without a fault -/
theorem mt_num (hn : S.1 145 1 = o3 n) (hl : n ≤ 400) {lo hi : Int32} {i : Nat} (hi' : i ≤ n) : ∃ u', f_X11_numberHere lo hi (mS S (o3 i) 0 u) = some (if nmf (S.1 146) n i lo.toInt hi.toInt = 0 then (1, mS S (o3 (nmp (S.1 146) n i)) 0 (o3 (nmv (S.1 146) n i))) else (0, mS S (o3 (nmp (S.1 146) n i)) (o3 (nmf (S.1 146) n i lo.toInt hi.toInt)) u')) := by
  have hj := sk_le (t := S.1 146) hi'
  unfold f_X11_numberHere nmf nmv nmp
  rw [mt_see hn hl hi', bd_some]
  dsimp only
  rw [mS_13]
  generalize sk (S.1 146) n i = j at hj
  have hL := dl_le (t := S.1 146) (n := n) _ j rfl hj
  have hdk : ∀ q, q ≤ 5 → q ≤ dl (S.1 146) n j → dv (S.1 146) j q < 100000 := fun q h1 h2 => dv_5 h1 h2
  rw [mt_digit hl (X := mS S (o3 j) 0 u) (by rw [mS_1, hn]) (by omega), bd_some, mS_t]
  by_cases h0 : dl (S.1 146) n j = 0
  · refine ⟨u, ?_⟩
    rw [h0, if_neg (Nat.lt_irrefl 0), if_pos rfl, if_pos rfl, if_neg (by omega), mt_fails (by rw [mS_14]), bd_some]
    show some (0, pI (mS S (o3 j) 0 u) 145 14 _) = _
    rw [mS_wr, show (1 : Int32) = o3 1 from rfl, show (8 : Int32) = o3 8 from rfl, show (0 : Int32) = o3 0 from rfl, o3_mul, o3_add, o3_add]
    rfl
  · rw [if_pos (show 0 < dl (S.1 146) n j by omega), if_neg (show ¬ (1 : Int32) = 0 by decide)]
    have hlp := mt_numlp hn hl (lo := lo) (hi := hi) (w := 0) (u := u) hj (dl (S.1 146) n j) 0 FU (by omega) (FU_lt (by omega)) (K := fun u22 S23 => (some (pI S23 145 15 u22)).bind fun S25 =>
  if (5 : Int32) < ((S25.1 145 13) - (o3 j)) then ((f_X11_fails (1 : Int32) (o3 j) S25).bind fun q29 =>
  if q29.1 = (0 : Int32) then (some ((0 : Int32), q29.2)) else
  (some ((1 : Int32), q29.2))) else
  ((f_X11_in (Int32.toInt64 u22) (Int32.toInt64 lo) (Int32.toInt64 hi) S25).bind fun q33 =>
  if q33 = (0 : Int32) then ((f_X11_fails (1 : Int32) (o3 j) S25).bind fun q37 =>
  if q37.1 = (0 : Int32) then (some ((0 : Int32), q37.2)) else
  (some ((1 : Int32), q37.2))) else
  (some ((1 : Int32), S25))))
    rw [if_neg h0]
    generalize dl (S.1 146) n j = L at hL hdk hlp h0
    refine ⟨o3 (dv (S.1 146) j (min L 5)), Eq.trans hlp ?_⟩
    rw [bd_some, mS_nu, mS_13, o3_sub (by omega), show j + L - j = L by omega]
    have ffail : ∀ v, ((f_X11_fails 1 (o3 j) (mS S (o3 (j + L)) 0 v)).bind fun q29 => if q29.1 = (0 : Int32) then (some ((0 : Int32), q29.2)) else (some ((1 : Int32), q29.2))) = some (0, mS S (o3 (j + L)) (o3 (1 + 8 * j + 1)) v) := fun v => by
      rw [mt_fails (by rw [mS_14]), bd_some]
      show some (0, pI (mS S (o3 (j + L)) 0 v) 145 14 _) = _
      rw [mS_wr, show (1 : Int32) = o3 1 from rfl, show (8 : Int32) = o3 8 from rfl, o3_mul, o3_add, o3_add]
    by_cases h5 : 5 < L
    · rw [show (5 : Int32) = o3 5 from rfl, if_pos ((o3_lt (by omega) (by omega)).mpr h5), ffail, if_neg (c := L ≤ 5 ∧ _) (fun q => by omega), if_neg (by omega)]
    · rw [if_neg (show ¬ (5 : Int32) < o3 _ from fun q => h5 ((o3_lt (a := 5) (by omega) (by omega)).mp q)), show min L 5 = L by omega]
      have hv := hdk L (by omega) (by omega)
      rw [op_in]
      rcases op_isFrom01 (v := o3 (dv (S.1 146) j L)) (a := lo) (b := hi) (S := mS S (o3 (j + L)) 0 (o3 (dv (S.1 146) j L))) with ⟨h, h1⟩ | ⟨h, h1, h2⟩
      · rw [o3_int (by omega)] at h1
        rw [h, bd_some, if_pos rfl, ffail, if_neg (c := L ≤ 5 ∧ _) (fun q => h1 q.2), if_neg (by omega)]
      · rw [o3_int (by omega)] at h1 h2
        rw [h, bd_some, if_neg (by decide), if_pos (c := L ≤ 5 ∧ _) ⟨by omega, h1, h2⟩, if_pos rfl]
end
