section
section MR
variable {S : fS} {n : Nat} {u : Int32}
theorem mf_floor (hn : S.1 145 1 = o3 n) (hl : n ≤ 400) {B : TB} (hB : TBm S B) (h10 : B.1.length < 10) {v j : Nat} (hj : j ≤ n) (hw : ll (S.1 146) n j = 5) : ∃ S' u' i', f_X11_isFloorHere (o3 v) (mS S (o3 j) 0 u) = some (if (tFl (S.1 146) n B (j + 5)).1 = 0 then (1, mS S' (o3 (tFl (S.1 146) n B (j + 5)).2.1) 0 u') else (0, mS S' i' (o3 (tFl (S.1 146) n B (j + 5)).1) u')) ∧ eM S S' ∧ ((tFl (S.1 146) n B (j + 5)).1 = 0 → TBm S' (tFl (S.1 146) n B (j + 5)).2.2) := by
  have hj5 : j + 5 ≤ n := by have := ll_le (t := S.1 146) (n := n) _ j rfl hj; omega
  unfold f_X11_isFloorHere
  rw [mS_ne (by omega), hB.1, if_neg (show ¬ o3 _ = (10 : Int32) from fun q => by have := (o3_inj (b := 10) (by omega) (by omega)).mp q; omega), mt_pass hn hl hj, bd_some, hw]
  obtain ⟨S1, u1, i1, e1, f1, g1⟩ := mf_floorlp (u := u) (K := fun S13 => (some (pI S13 145 7 ((S13.1 145 7) + (1 : Int32)))).bind fun S15 => some ((1 : Int32), S15)) hn hl hB h10 hj5
  rw [show (0 : Int32) = o3 0 from rfl] at e1 ⊢
  rw [e1]
  by_cases hz : (tFl (S.1 146) n B (j + 5)).1 = 0
  · rw [if_pos hz, bd_some, mS_p (by omega), mS_ne (by omega), (g1 hz).2, o3_s]
    exact ⟨pI S1 145 7 (o3 (B.1.length + 1)), u1, 0, by rw [if_pos hz], f1.tr (eM_pI (by unfold wM; omega)), fun _ => (g1 hz).1⟩
  · rw [if_neg hz]
    exact ⟨S1, u1, i1, by rw [if_neg hz], f1, fun q => absurd q hz⟩
theorem mf_thing (hn : S.1 145 1 = o3 n) (hl : n ≤ 400) {B : TB} (hB : TBm S B) (hok : okB B) (h8 : B.2.2.length < 8) {v j : Nat} (hj : j ≤ n) (hw : ll (S.1 146) n j = 5) : ∃ S' u' i', f_X11_isThingHere (o3 v) (mS S (o3 j) 0 u) = some (if (tTh (S.1 146) n B (j + 5)).1 = 0 then (1, mS S' (o3 (tTh (S.1 146) n B (j + 5)).2.1) 0 u') else (0, mS S' i' (o3 (tTh (S.1 146) n B (j + 5)).1) u')) ∧ eM S S' ∧ ((tTh (S.1 146) n B (j + 5)).1 = 0 → TBm S' (tTh (S.1 146) n B (j + 5)).2.2) := by
  have hj5 : j + 5 ≤ n := by have := ll_le (t := S.1 146) (n := n) _ j rfl hj; omega
  have hm : B.1.length < 1000000 := by have := hok.1; omega
  unfold f_X11_isThingHere
  rw [mS_ne (by omega), hB.2.2.1, if_neg (show ¬ o3 _ = (8 : Int32) from fun q => by have := (o3_inj (b := 8) (by omega) (by omega)).mp q; omega), mt_pass hn hl hj, bd_some, hw, mS_ne (by omega), hB.1]
  obtain ⟨u1, e1⟩ := mt_num (u := u) hn hl (lo := 0) (hi := o3 B.1.length - 1) hj5
  rw [mf_lm hm, ni_0] at e1
  rw [e1, bd_some]
  unfold tTh
  by_cases c1 : nmf (S.1 146) n (j + 5) 0 (B.1.length - 1) = 0
  · rw [if_pos c1, if_pos c1]
    dsimp only
    rw [if_neg (show ¬ (1 : Int32) = 0 by decide), mS_15, mS_ne (by omega), hB.2.2.1, sI_o (by omega) (by omega), bd_some, mS_p (by omega), bd_some, mS_ne (by omega), pI_get, if_neg (by omega), hB.2.2.1, mS_p (by omega), o3_s]
    refine ⟨pI (pI S 153 B.2.2.length (o3 (nmv (S.1 146) n (j + 5)))) 145 9 (o3 (B.2.2.length + 1)), _, 0, rfl, (eM_pI (by unfold wM; omega)).tr (eM_pI (by unfold wM; omega)), fun _ => ?_⟩
    obtain ⟨b1, b2, b3, b4, b5, b6⟩ := hB
    refine ⟨?_, ?_, ?_, fun k hk => ⟨?_, ?_⟩, fun k hk => ⟨?_, ?_, ?_, ?_, ?_⟩, fun k hk => ?_⟩
    · rw [pI_get, if_neg (by omega), pI_get, if_neg (by omega)]; exact b1
    · rw [pI_get, if_neg (by omega), pI_get, if_neg (by omega)]; exact b2
    · rw [pI_eq, ln_app]
    · rw [pI_get, if_neg (by omega), pI_get, if_neg (by omega)]; exact (b4 k hk).1
    · rw [pI_get, if_neg (by omega), pI_get, if_neg (by omega)]; exact (b4 k hk).2
    · rw [pI_get, if_neg (by omega), pI_get, if_neg (by omega)]; exact (b5 k hk).1
    · rw [pI_get, if_neg (by omega), pI_get, if_neg (by omega)]; exact (b5 k hk).2.1
    · rw [pI_get, if_neg (by omega), pI_get, if_neg (by omega)]; exact (b5 k hk).2.2.1
    · rw [pI_get, if_neg (by omega), pI_get, if_neg (by omega)]; exact (b5 k hk).2.2.2.1
    · rw [pI_get, if_neg (by omega), pI_get, if_neg (by omega)]; exact (b5 k hk).2.2.2.2
    · rw [ln_app] at hk
      rw [gd_app, pI_get, if_neg (by omega)]
      by_cases hc : k = B.2.2.length
      · rw [if_pos hc, hc, pI_eq]
      · rw [if_neg hc, pI_get, if_neg (by omega)]
        exact b6 k (by omega)
  · rw [if_neg c1, if_neg c1]
    dsimp only
    rw [if_pos (show (0 : Int32) = 0 from rfl)]
    exact ⟨S, _, _, by rw [if_neg c1], eM.rf, fun q => absurd q c1⟩
theorem TBm_19 {B : TB} {x : Int32} (hB : TBm S B) : TBm (pI S 145 19 x) B := by
  obtain ⟨b1, b2, b3, b4, b5, b6⟩ := hB
  refine ⟨?_, ?_, ?_, fun k hk => ⟨?_, ?_⟩, fun k hk => ⟨?_, ?_, ?_, ?_, ?_⟩, fun k hk => ?_⟩
  · rw [pI_get, if_neg (by omega)]; exact b1
  · rw [pI_get, if_neg (by omega)]; exact b2
  · rw [pI_get, if_neg (by omega)]; exact b3
  · rw [pI_get, if_neg (by omega)]; exact (b4 k hk).1
  · rw [pI_get, if_neg (by omega)]; exact (b4 k hk).2
  · rw [pI_get, if_neg (by omega)]; exact (b5 k hk).1
  · rw [pI_get, if_neg (by omega)]; exact (b5 k hk).2.1
  · rw [pI_get, if_neg (by omega)]; exact (b5 k hk).2.2.1
  · rw [pI_get, if_neg (by omega)]; exact (b5 k hk).2.2.2.1
  · rw [pI_get, if_neg (by omega)]; exact (b5 k hk).2.2.2.2
  · rw [pI_get, if_neg (by omega)]; exact b6 k hk
theorem mc_101 {p2 : Int32} {p1 c : Nat} {i : Int32} (hc : c < 24) (h19 : S.1 145 19 = o3 c) (hp2 : p2 = 1) : j_X11_clauseHere_101 (o3 p1) p2 (24 : Int32) ((mS S i 0 u).1 145 19) (mS S i 0 u) = ((f_X11_isWord (439905906546 : Int64) (mS (pI S 145 19 (o3 (c + 1))) i 0 u)).bind fun q16 =>
  if q16.1 = (0 : Int32) then ((f_X11_isWord (495873780082 : Int64) q16.2).bind fun q20 =>
  if q20.1 = (0 : Int32) then ((f_X11_isThingHere (o3 p1) q20.2).bind fun q24 =>
  j_X11_clauseHere_171  q24.1 q24.2) else
  ((f_X11_isStairHere (o3 p1) q20.2).bind fun q32 =>
  j_X11_clauseHere_171  q32.1 q32.2)) else
  ((f_X11_isFloorHere (o3 p1) q16.2).bind fun q35 =>
  j_X11_clauseHere_171  q35.1 q35.2)) := by
  unfold j_X11_clauseHere_101
  rw [mS_ne (by omega), h19, if_neg (show ¬ o3 _ = (24 : Int32) from fun q => by have := (o3_inj (b := 24) (by omega) (by omega)).mp q; omega), bd_some, hp2, if_neg (show ¬ (1 : Int32) = 0 by decide), mS_p (by omega), o3_s]
theorem mc_full {p2 : Int32} {p1 c : Nat} {i : Int32} (hc : c = 24) (h19 : S.1 145 19 = o3 c) : j_X11_clauseHere_101 (o3 p1) p2 (24 : Int32) ((mS S i 0 u).1 145 19) (mS S i 0 u) = some (0, mS S i (o3 (1 + 8 * p1 + 4)) u) := by
  unfold j_X11_clauseHere_101
  rw [mS_ne (by omega), h19, if_pos (show o3 _ = (24 : Int32) from (o3_inj (b := 24) (by omega) (by omega)).mpr hc), show (4 : Int32) = o3 4 from rfl, mf_fails rfl, bd_some]
  rfl
theorem mc_171 {x : Int32} {X : fS} (h : x = 0 ∨ x = 1) : j_X11_clauseHere_171 x X = some (x, X) := by
  unfold j_X11_clauseHere_171 bZ
  rw [if_pos h]
  rfl
theorem ll_of {t : Nat → Int32} {j k : Nat} (hk : k < 16) (h : wat t n (mm_sb.getD k []) j = true) : ll t n j = (mm_sb.getD k []).length := ((wat_ll _ _ (mw_L k hk)).mp h).1
end MR
end
