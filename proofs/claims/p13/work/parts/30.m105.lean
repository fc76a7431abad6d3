section
section MR
variable {S : fS} {n : Nat} {u : Int32}
theorem mf_floor (hn : S.1 145 1 = o3 n) (hl : n ≤ 400) {B : TB} (hB : TBm S B) (h10 : B.1.length < 10) {v j : Nat} (hj : j ≤ n) (hw : ll (S.1 146) n j = 5) : ∃ S' u' i', f_X11_isFloorHere (o3 v) (mS S (o3 j) 0 u) = some (if (tFl (S.1 146) n B (j + 5)).1 = 0 then (1, mS S' (o3 (tFl (S.1 146) n B (j + 5)).2.1) 0 u') else (0, mS S' i' (o3 (tFl (S.1 146) n B (j + 5)).1) u')) ∧ eM S S' ∧ ((tFl (S.1 146) n B (j + 5)).1 = 0 → TBm S' (tFl (S.1 146) n B (j + 5)).2.2) := by
  have hj5 : j + 5 ≤ n := by have := ll_le (t := S.1 146) (n := n) _ j rfl hj; omega
  unfold f_X11_isFloorHere
  rw [mS_ne (by omega), hB.1, if_neg (show ¬ o3 _ = (10 : Int32) from fun q => by have := (o3_inj (b := 10) (by omega) (by omega)).mp q; omega), mt_pass hn hl hj, bd_some, hw]
  obtain ⟨S1, u1, i1, e1, f1, g1⟩ := mf_floorlp (u := u) (K := fun S13 => (some (pI S13 145 7 ((S13.1 145 7) + (1 : Int32)))).bind fun S15 => some ((1 : Int32), S15)) hn hl hB h10 hj5
  rw [show (0 : Int32) = o3 0 from rfl] at e1 ⊢
  rw [e1]
  by_cases hz : (tFl (S.1 146) n B (j + 5)).1 = 0
  · rw [if_pos hz, bd_some, mS_p (by omega), mS_ne (by omega), (g1 hz).2, o3_s]
    exact ⟨pI S1 145 7 (o3 (B.1.length + 1)), u1, 0, by rw [if_pos hz], f1.tr (eM_pI (by unfold wM; omega)), fun _ => (g1 hz).1⟩
  · rw [if_neg hz]
    exact ⟨S1, u1, i1, by rw [if_neg hz], f1, fun q => absurd q hz⟩
theorem mf_thing (hn : S.1 145 1 = o3 n) (hl : n ≤ 400) {B : TB} (hB : TBm S B) (hok : okB B) (h8 : B.2.2.length < 8) {v j : Nat} (hj : j ≤ n) (hw : ll (S.1 146) n j = 5) : ∃ S' u' i', f_X11_isThingHere (o3 v) (mS S (o3 j) 0 u) = some (if (tTh (S.1 146) n B (j + 5)).1 = 0 then (1, mS S' (o3 (tTh (S.1 146) n B (j + 5)).2.1) 0 u') else (0, mS S' i' (o3 (tTh (S.1 146) n B (j + 5)).1) u')) ∧ eM S S' ∧ ((tTh (S.1 146) n B (j + 5)).1 = 0 → TBm S' (tTh (S.1 146) n B (j + 5)).2.2) := by
  have hj5 : j + 5 ≤ n := by have := ll_le (t := S.1 146) (n := n) _ j rfl hj; omega
  have hm : B.1.length < 1000000 := by have := hok.1; omega
  unfold f_X11_isThingHere
  rw [mS_ne (by omega), hB.2.2.1, if_neg (show ¬ o3 _ = (8 : Int32) from fun q => by have := (o3_inj (b := 8) (by omega) (by omega)).mp q; omega), mt_pass hn hl hj, bd_some, hw, mS_ne (by omega), hB.1]
  obtain ⟨u1, e1⟩ := mt_num (u := u) hn hl (lo := 0) (hi := o3 B.1.length - 1) hj5
  rw [mf_lm hm, ni_0] at e1
  rw [e1, bd_some]
  unfold tTh
  by_cases c1 : nmf (S.1 146) n (j + 5) 0 (B.1.length - 1) = 0
  · rw [if_pos c1, if_pos c1]
    dsimp only
    rw [if_neg (show ¬ (1 : Int32) = 0 by decide), mS_15, mS_ne (by omega), hB.2.2.1, sI_o (by omega) (by omega), bd_some, mS_p (by omega), bd_some, mS_ne (by omega), pI_get, if_neg (by omega), hB.2.2.1, mS_p (by omega), o3_s]
    refine ⟨pI (pI S 153 B.2.2.length (o3 (nmv (S.1 146) n (j + 5)))) 145 9 (o3 (B.2.2.length + 1)), _, 0, rfl, (eM_pI (by unfold wM; omega)).tr (eM_pI (by unfold wM; omega)), fun _ => ?_⟩
    obtain ⟨b1, b2, b3, b4, b5, b6⟩ := hB
    refine ⟨?_, ?_, ?_, fun k hk => ⟨?_, ?_⟩, fun k hk => ⟨?_, ?_, ?_, ?_, ?_⟩, fun k hk => ?_⟩
    · rw [pI_get, if_neg (by omega), pI_get, if_neg (by omega)]; exact b1
    · rw [pI_get, if_neg (by omega), pI_get, if_neg (by omega)]; exact b2
    · rw [pI_eq, ln_app]
    · rw [pI_get, if_neg (by omega), pI_get, if_neg (by omega)]; exact (b4 k hk).1
    · rw [pI_get, if_neg (by omega), pI_get, if_neg (by omega)]; exact (b4 k hk).2
    · rw [pI_get, if_neg (by omega), pI_get, if_neg (by omega)]; exact (b5 k hk).1
    · rw [pI_get, if_neg (by omega), pI_get, if_neg (by omega)]; exact (b5 k hk).2.1
    · rw [pI_get, if_neg (by omega), pI_get, if_neg (by omega)]; exact (b5 k hk).2.2.1
    · rw [pI_get, if_neg (by omega), pI_get, if_neg (by omega)]; exact (b5 k hk).2.2.2.1
    · rw [pI_get, if_neg (by omega), pI_get, if_neg (by omega)]; exact (b5 k hk).2.2.2.2
    · rw [ln_app] at hk
      rw [gd_app, pI_get, if_neg (by omega)]
      by_cases hc : k = B.2.2.length
      · rw [if_pos hc, hc, pI_eq]
      · rw [if_neg hc, pI_get, if_neg (by omega)]
        exact b6 k (by omega)
  · rw [if_neg c1, if_neg c1]
    dsimp only
    rw [if_pos (show (0 : Int32) = 0 from rfl)]
    exact ⟨S, _, _, by rw [if_neg c1], eM.rf, fun q => absurd q c1⟩
theorem TBm_19 {B : TB} {x : Int32} (hB : TBm S B) : TBm (pI S 145 19 x) B := by
  obtain ⟨b1, b2, b3, b4, b5, b6⟩ := hB
  refine ⟨?_, ?_, ?_, fun k hk => ⟨?_, ?_⟩, fun k hk => ⟨?_, ?_, ?_, ?_, ?_⟩, fun k hk => ?_⟩
  · rw [pI_get, if_neg (by omega)]; exact b1
  · rw [pI_get, if_neg (by omega)]; exact b2
  · rw [pI_get, if_neg (by omega)]; exact b3
  · rw [pI_get, if_neg (by omega)]; exact (b4 k hk).1
  · rw [pI_get, if_neg (by omega)]; exact (b4 k hk).2
  · rw [pI_get, if_neg (by omega)]; exact (b5 k hk).1
  · rw [pI_get, if_neg (by omega)]; exact (b5 k hk).2.1
  · rw [pI_get, if_neg (by omega)]; exact (b5 k hk).2.2.1
  · rw [pI_get, if_neg (by omega)]; exact (b5 k hk).2.2.2.1
  · rw [pI_get, if_neg (by omega)]; exact (b5 k hk).2.2.2.2
  · rw [pI_get, if_neg (by omega)]; exact b6 k hk
theorem mc_101 {p2 : Int32} {p1 c : Nat} {i : Int32} (hc : c < 24) (h19 : S.1 145 19 = o3 c) (hp2 : p2 = 1) : j_X11_clauseHere_101 (o3 p1) p2 (24 : Int32) ((mS S i 0 u).1 145 19) (mS S i 0 u) = ((f_X11_isWord (439905906546 : Int64) (mS (pI S 145 19 (o3 (c + 1))) i 0 u)).bind fun q16 =>
  if q16.1 = (0 : Int32) then ((f_X11_isWord (495873780082 : Int64) q16.2).bind fun q20 =>
  if q20.1 = (0 : Int32) then ((f_X11_isThingHere (o3 p1) q20.2).bind fun q24 =>
  j_X11_clauseHere_171  q24.1 q24.2) else
  ((f_X11_isStairHere (o3 p1) q20.2).bind fun q32 =>
  j_X11_clauseHere_171  q32.1 q32.2)) else
  ((f_X11_isFloorHere (o3 p1) q16.2).bind fun q35 =>
  j_X11_clauseHere_171  q35.1 q35.2)) := by
  unfold j_X11_clauseHere_101
  rw [mS_ne (by omega), h19, if_neg (show ¬ o3 _ = (24 : Int32) from fun q => by have := (o3_inj (b := 24) (by omega) (by omega)).mp q; omega), bd_some, hp2, if_neg (show ¬ (1 : Int32) = 0 by decide), mS_p (by omega), o3_s]
theorem mc_full {p2 : Int32} {p1 c : Nat} {i : Int32} (hc : c = 24) (h19 : S.1 145 19 = o3 c) : j_X11_clauseHere_101 (o3 p1) p2 (24 : Int32) ((mS S i 0 u).1 145 19) (mS S i 0 u) = some (0, mS S i (o3 (1 + 8 * p1 + 4)) u) := by
  unfold j_X11_clauseHere_101
  rw [mS_ne (by omega), h19, if_pos (show o3 _ = (24 : Int32) from (o3_inj (b := 24) (by omega) (by omega)).mpr hc), show (4 : Int32) = o3 4 from rfl, mf_fails rfl, bd_some]
  rfl
theorem mc_171 {x : Int32} {X : fS} (h : x = 0 ∨ x = 1) : j_X11_clauseHere_171 x X = some (x, X) := by
  unfold j_X11_clauseHere_171 bZ
  rw [if_pos h]
  rfl
theorem ll_of {t : Nat → Int32} {j k : Nat} (hk : k < 16) (h : wat t n (mm_sb.getD k []) j = true) : ll t n j = (mm_sb.getD k []).length := ((wat_ll _ _ (mw_L k hk)).mp h).1
end MR
end
section
section MR
variable {S : fS} {n : Nat} {u : Int32}
/-- a clause counts itself, too -/
def eC (S T : fS) : Prop := (∀ a k, ¬ (wM a k ∨ (a = 145 ∧ k = 19)) → T.1 a k = S.1 a k) ∧ T.2 = S.2
theorem eC.rf {S : fS} : eC S S := ⟨fun _ _ _ => rfl, rfl⟩
theorem eC.tr {S T U : fS} (h : eC S T) (g : eC T U) : eC S U := ⟨fun a k n => (g.1 a k n).trans (h.1 a k n), g.2.trans h.2⟩
theorem eC_of {S T : fS} (h : eM S T) : eC S T := ⟨fun a k n => h.1 a k (fun q => n (Or.inl q)), h.2⟩
theorem eC_19 {S : fS} {x : Int32} : eC S (pI S 145 19 x) := ⟨fun a k n => by rw [pI_get, if_neg (fun q => n (Or.inr q))], rfl⟩
theorem mc_clause (hn : S.1 145 1 = o3 n) (hl : n ≤ 400) {B : TB} (hB : TBm S B) (hok : okB B) {c i : Nat} (hc : c ≤ 24) (h19 : S.1 145 19 = o3 c) (h16 : S.1 145 16 = 6) (hi : i ≤ n) : ∃ S' u' i', f_X11_clauseHere (mS S (o3 i) 0 u) = some (if (tcl (S.1 146) n c B i).1 = 0 then (1, mS S' (o3 (tcl (S.1 146) n c B i).2.1) 0 u') else (0, mS S' i' (o3 (tcl (S.1 146) n c B i).1) u')) ∧ eC S S' ∧ ((tcl (S.1 146) n c B i).1 = 0 → TBm S' (tcl (S.1 146) n c B i).2.2 ∧ S'.1 145 19 = o3 (c + 1)) := by
  have hj := sk_le (t := S.1 146) hi
  have hok2 := hok
  obtain ⟨b1, b2, b3, -⟩ := hok2
  have hB1 := TBm_19 (x := o3 (c + 1)) hB
  have hn1 : (pI S 145 19 (o3 (c + 1))).1 145 1 = o3 n := mk_n hn (by omega)
  have ht1 : (pI S 145 19 (o3 (c + 1))).1 146 = S.1 146 := mk_t (by omega)
  have hE1 : eC S (pI S 145 19 (o3 (c + 1))) := eC_19
  unfold f_X11_clauseHere
  rw [mt_see hn hl hi, bd_some]
  dsimp only
  rw [mS_ne (by omega), h16, if_pos rfl, mS_13]
  unfold j_X11_clauseHere_24
  rw [if_neg (show ¬ (1 : Int32) = 0 by decide), mr_word hn hl 439905906546 0 (by omega) rfl hj, bd_some, sk_id]
  have hfull : ∀ s0 : Int32, s0 = 1 → c = 24 → j_X11_clauseHere_74 (o3 (sk (S.1 146) n i)) 1 s0 (mS S (o3 (sk (S.1 146) n i)) 0 u) = some (0, mS S (o3 (sk (S.1 146) n i)) (o3 (1 + 8 * sk (S.1 146) n i + 4)) u) := fun s0 h0 h24 => by
    unfold j_X11_clauseHere_74
    rw [h0, if_neg (show ¬ (1 : Int32) = 0 by decide), if_neg (show ¬ (1 : Int32) = 0 by decide), mc_full h24 h19]
  have hgo : ∀ s0 : Int32, s0 = 1 → c < 24 → j_X11_clauseHere_74 (o3 (sk (S.1 146) n i)) 1 s0 (mS S (o3 (sk (S.1 146) n i)) 0 u) = (if wat (S.1 146) n (mm_sb.getD 0 []) (sk (S.1 146) n i) = true then ((f_X11_isFloorHere (o3 (sk (S.1 146) n i)) (mS (pI S 145 19 (o3 (c + 1))) (o3 (sk (S.1 146) n i)) 0 u)).bind fun q35 => j_X11_clauseHere_171 q35.1 q35.2) else if wat (S.1 146) n (mm_sb.getD 1 []) (sk (S.1 146) n i) = true then ((f_X11_isStairHere (o3 (sk (S.1 146) n i)) (mS (pI S 145 19 (o3 (c + 1))) (o3 (sk (S.1 146) n i)) 0 u)).bind fun q32 => j_X11_clauseHere_171 q32.1 q32.2) else ((f_X11_isThingHere (o3 (sk (S.1 146) n i)) (mS (pI S 145 19 (o3 (c + 1))) (o3 (sk (S.1 146) n i)) 0 u)).bind fun q24 => j_X11_clauseHere_171 q24.1 q24.2)) := fun s0 h0 h24 => by
    unfold j_X11_clauseHere_74
    rw [h0, if_neg (show ¬ (1 : Int32) = 0 by decide), if_neg (show ¬ (1 : Int32) = 0 by decide), mc_101 h24 h19 rfl, mr_word hn1 hl 439905906546 0 (by omega) rfl hj, bd_some, ht1, sk_id]
    by_cases w0 : wat (S.1 146) n (mm_sb.getD 0 []) (sk (S.1 146) n i) = true
    · rw [if_pos w0, if_pos w0, if_neg (show ¬ (1 : Int32) = 0 by decide)]
    · rw [if_neg w0, if_neg w0, if_pos (show (0 : Int32) = 0 from rfl)]
      dsimp only
      rw [mr_word hn1 hl 495873780082 1 (by omega) rfl hj, bd_some, ht1, sk_id]
      by_cases w1 : wat (S.1 146) n (mm_sb.getD 1 []) (sk (S.1 146) n i) = true
      · rw [if_pos w1, if_pos w1, if_neg (show ¬ (1 : Int32) = 0 by decide)]
      · rw [if_neg w1, if_neg w1, if_pos (show (0 : Int32) = 0 from rfl)]
  unfold j_X11_clauseHere_59
  by_cases w0 : wat (S.1 146) n (mm_sb.getD 0 []) (sk (S.1 146) n i) = true
  · rw [if_pos w0, if_neg (show ¬ (1 : Int32) = 0 by decide)]
    dsimp only
    have hll : ll ((pI S 145 19 (o3 (c + 1))).1 146) n (sk (S.1 146) n i) = 5 := by rw [ht1]; exact ll_of (by omega) w0
    by_cases h24 : c = 24
    · rw [hfull 1 rfl h24]
      have ht : tcl (S.1 146) n c B i = (1 + 8 * sk (S.1 146) n i + 4, 0, B) := by unfold tcl; rw [if_pos w0, if_pos (Or.inr (by omega))]
      rw [ht]
      exact ⟨S, u, _, by rw [if_neg (by show ¬ (1 + 8 * _ + 4 = 0); omega)], eC.rf, fun q => absurd q (by show ¬ (1 + 8 * _ + 4 = 0); omega)⟩
    · rw [hgo 1 rfl (by omega), if_pos w0]
      by_cases hfu : B.1.length = 10
      · have ht : tcl (S.1 146) n c B i = (1 + 8 * sk (S.1 146) n i + 4, 0, B) := by unfold tcl; rw [if_pos w0, if_pos (Or.inl (by omega))]
        rw [ht]
        unfold f_X11_isFloorHere
        rw [mS_ne (by omega), hB1.1, if_pos (show o3 _ = (10 : Int32) from (o3_inj (b := 10) (by omega) (by omega)).mpr hfu), show (4 : Int32) = o3 4 from rfl, mf_fails rfl, bd_some]
        refine ⟨pI S 145 19 (o3 (c + 1)), u, o3 (sk (S.1 146) n i), ?_, hE1, fun q => absurd q (by show ¬ (1 + 8 * _ + 4 = 0); omega)⟩
        rw [if_neg (by show ¬ (1 + 8 * _ + 4 = 0); omega)]
        rfl
      · have ht : tcl (S.1 146) n c B i = tFl (S.1 146) n B (sk (S.1 146) n i + 5) := by unfold tcl; rw [if_pos w0, if_neg (by omega)]
        rw [ht]
        obtain ⟨S1, u1, i1, e1, f1, g1⟩ := mf_floor (u := u) (v := sk (S.1 146) n i) hn1 hl hB1 (by omega) hj hll
        rw [ht1] at e1 g1
        rw [e1, bd_some]
        refine ⟨S1, u1, i1, ?_, hE1.tr (eC_of f1), fun q => ⟨g1 q, by rw [f1.1 145 19 (by unfold wM; omega), pI_eq]⟩⟩
        by_cases hz : (tFl (S.1 146) n B (sk (S.1 146) n i + 5)).1 = 0
        · rw [if_pos hz, mc_171 (Or.inr rfl)]
        · rw [if_neg hz, mc_171 (Or.inl rfl)]
  · rw [if_neg w0, if_pos (show (0 : Int32) = 0 from rfl)]
    dsimp only
    rw [mr_word hn hl 495873780082 1 (by omega) rfl hj, bd_some, sk_id]
    by_cases w1 : wat (S.1 146) n (mm_sb.getD 1 []) (sk (S.1 146) n i) = true
    · rw [if_pos w1, if_neg (show ¬ (1 : Int32) = 0 by decide)]
      dsimp only
      have hll : ll ((pI S 145 19 (o3 (c + 1))).1 146) n (sk (S.1 146) n i) = 5 := by rw [ht1]; exact ll_of (by omega) w1
      by_cases h24 : c = 24
      · rw [hfull 1 rfl h24]
        have ht : tcl (S.1 146) n c B i = (1 + 8 * sk (S.1 146) n i + 4, 0, B) := by unfold tcl; rw [if_neg w0, if_pos w1, if_pos (Or.inr (by omega))]
        rw [ht]
        exact ⟨S, u, _, by rw [if_neg (by show ¬ (1 + 8 * _ + 4 = 0); omega)], eC.rf, fun q => absurd q (by show ¬ (1 + 8 * _ + 4 = 0); omega)⟩
      · rw [hgo 1 rfl (by omega), if_neg w0, if_pos w1]
        by_cases hfu : B.2.1.length = 12
        · have ht : tcl (S.1 146) n c B i = (1 + 8 * sk (S.1 146) n i + 4, 0, B) := by unfold tcl; rw [if_neg w0, if_pos w1, if_pos (Or.inl (by omega))]
          rw [ht]
          unfold f_X11_isStairHere
          rw [mS_ne (by omega), hB1.2.1, if_pos (show o3 _ = (12 : Int32) from (o3_inj (b := 12) (by omega) (by omega)).mpr hfu), show (4 : Int32) = o3 4 from rfl, mf_fails rfl, bd_some]
          refine ⟨pI S 145 19 (o3 (c + 1)), u, o3 (sk (S.1 146) n i), ?_, hE1, fun q => absurd q (by show ¬ (1 + 8 * _ + 4 = 0); omega)⟩
          rw [if_neg (by show ¬ (1 + 8 * _ + 4 = 0); omega)]
          rfl
        · have ht : tcl (S.1 146) n c B i = tSt (S.1 146) n B (sk (S.1 146) n i + 5) := by unfold tcl; rw [if_neg w0, if_pos w1, if_neg (by omega)]
          rw [ht]
          obtain ⟨S1, u1, i1, e1, f1, g1⟩ := mf_stair (u := u) (v := sk (S.1 146) n i) hn1 hl hB1 hok (by omega) hj hll
          rw [ht1] at e1 g1
          rw [e1, bd_some]
          refine ⟨S1, u1, i1, ?_, hE1.tr (eC_of f1), fun q => ⟨g1 q, by rw [f1.1 145 19 (by unfold wM; omega), pI_eq]⟩⟩
          by_cases hz : (tSt (S.1 146) n B (sk (S.1 146) n i + 5)).1 = 0
          · rw [if_pos hz, mc_171 (Or.inr rfl)]
          · rw [if_neg hz, mc_171 (Or.inl rfl)]
    · rw [if_neg w1, if_pos (show (0 : Int32) = 0 from rfl)]
      dsimp only
      rw [mr_word hn hl 499967946343 2 (by omega) rfl hj, bd_some, sk_id]
      by_cases w2 : wat (S.1 146) n (mm_sb.getD 2 []) (sk (S.1 146) n i) = true
      · rw [if_pos w2, if_neg (show ¬ (1 : Int32) = 0 by decide)]
        dsimp only
        have hll : ll ((pI S 145 19 (o3 (c + 1))).1 146) n (sk (S.1 146) n i) = 5 := by rw [ht1]; exact ll_of (by omega) w2
        by_cases h24 : c = 24
        · rw [hfull 1 rfl h24]
          have ht : tcl (S.1 146) n c B i = (1 + 8 * sk (S.1 146) n i + 4, 0, B) := by unfold tcl; rw [if_neg w0, if_neg w1, if_pos w2, if_pos (Or.inr (by omega))]
          rw [ht]
          exact ⟨S, u, _, by rw [if_neg (by show ¬ (1 + 8 * _ + 4 = 0); omega)], eC.rf, fun q => absurd q (by show ¬ (1 + 8 * _ + 4 = 0); omega)⟩
        · rw [hgo 1 rfl (by omega), if_neg w0, if_neg w1]
          by_cases hfu : B.2.2.length = 8
          · have ht : tcl (S.1 146) n c B i = (1 + 8 * sk (S.1 146) n i + 4, 0, B) := by unfold tcl; rw [if_neg w0, if_neg w1, if_pos w2, if_pos (Or.inl (by omega))]
            rw [ht]
            unfold f_X11_isThingHere
            rw [mS_ne (by omega), hB1.2.2.1, if_pos (show o3 _ = (8 : Int32) from (o3_inj (b := 8) (by omega) (by omega)).mpr hfu), show (4 : Int32) = o3 4 from rfl, mf_fails rfl, bd_some]
            refine ⟨pI S 145 19 (o3 (c + 1)), u, o3 (sk (S.1 146) n i), ?_, hE1, fun q => absurd q (by show ¬ (1 + 8 * _ + 4 = 0); omega)⟩
            rw [if_neg (by show ¬ (1 + 8 * _ + 4 = 0); omega)]
            rfl
          · have ht : tcl (S.1 146) n c B i = tTh (S.1 146) n B (sk (S.1 146) n i + 5) := by unfold tcl; rw [if_neg w0, if_neg w1, if_pos w2, if_neg (by omega)]
            rw [ht]
            obtain ⟨S1, u1, i1, e1, f1, g1⟩ := mf_thing (u := u) (v := sk (S.1 146) n i) hn1 hl hB1 hok (by omega) hj hll
            rw [ht1] at e1 g1
            rw [e1, bd_some]
            refine ⟨S1, u1, i1, ?_, hE1.tr (eC_of f1), fun q => ⟨g1 q, by rw [f1.1 145 19 (by unfold wM; omega), pI_eq]⟩⟩
            by_cases hz : (tTh (S.1 146) n B (sk (S.1 146) n i + 5)).1 = 0
            · rw [if_pos hz, mc_171 (Or.inr rfl)]
            · rw [if_neg hz, mc_171 (Or.inl rfl)]
      · rw [if_neg w2, if_pos (show (0 : Int32) = 0 from rfl)]
        unfold j_X11_clauseHere_74
        rw [if_pos (show (0 : Int32) = 0 from rfl)]
        dsimp only
        rw [show f_X11_fails 0 (o3 (sk (S.1 146) n i)) (mS S (o3 (sk (S.1 146) n i)) 0 u) = some (0, mS S (o3 (sk (S.1 146) n i)) (o3 (1 + 8 * sk (S.1 146) n i + 0)) u) from mf_fails (k := 0) rfl, bd_some]
        have ht : tcl (S.1 146) n c B i = (1 + 8 * sk (S.1 146) n i, 0, B) := by unfold tcl; rw [if_neg w0, if_neg w1, if_neg w2]
        rw [ht]
        refine ⟨S, u, o3 (sk (S.1 146) n i), ?_, eC.rf, fun q => absurd q (by show ¬ (1 + 8 * _ = 0); omega)⟩
        rw [if_neg (by show ¬ (1 + 8 * _ = 0); omega)]
        rfl
end MR
end
section
/-! the reference reads a tower to its end -/
theorem b255 : ∀ k : Fin 256, (Int32.ofInt ((k : Int) - 128) &&& 255) = if k.val < 128 then Int32.ofInt ((k : Int) + 128) else Int32.ofInt ((k : Int) - 128) := by decide +kernel
def byt (x : Int32) : Prop := -128 ≤ x.toInt ∧ x.toInt ≤ 127
theorem b_and {x : Int32} (h : byt x) : (x &&& 255).toInt = if x.toInt < 0 then x.toInt + 256 else x.toInt := by
  obtain ⟨h1, h2⟩ := h
  have hk : (x.toInt + 128).toNat < 256 := by omega
  have e := b255 ⟨(x.toInt + 128).toNat, hk⟩
  have hv : ((⟨(x.toInt + 128).toNat, hk⟩ : Fin 256).val : Int) = x.toInt + 128 := by show ((x.toInt + 128).toNat : Int) = _; omega
  have ex : Int32.ofInt (((⟨(x.toInt + 128).toNat, hk⟩ : Fin 256).val : Int) - 128) = x := by
    rw [hv, ni_eq, Int32.toInt_ofInt_of_le (by omega) (by omega)]; omega
  have e : (Int32.ofInt (((⟨(x.toInt + 128).toNat, hk⟩ : Fin 256).val : Int) - 128) &&& 255) = if (x.toInt + 128).toNat < 128 then Int32.ofInt (((⟨(x.toInt + 128).toNat, hk⟩ : Fin 256).val : Int) + 128) else Int32.ofInt (((⟨(x.toInt + 128).toNat, hk⟩ : Fin 256).val : Int) - 128) := e
  rw [ex] at e
  rw [e]
  by_cases hx : x.toInt < 0
  · rw [if_pos (by omega), if_pos hx, hv, Int32.toInt_ofInt_of_le (by omega) (by omega)]; omega
  · rw [if_neg (by omega), if_neg hx]
theorem seen_eq {t : Nat → Int32} {n j : Nat} (hb : ∀ k, byt (t k)) {c : Int32} (h0 : 0 ≤ c.toInt) (h1 : c.toInt ≤ 127) : seen t n j = c ↔ j < n ∧ t j = c := by
  unfold seen
  by_cases h : j < n
  · rw [if_pos h]
    have e := b_and (hb j)
    have hbj := hb j
    unfold byt at hbj
    constructor
    · intro q
      rw [q] at e
      refine ⟨h, ni_eq.mpr ?_⟩
      split at e <;> omega
    · rintro ⟨-, q⟩
      rw [ni_eq, e, q, if_neg (by omega)]
  · rw [if_neg h]
    constructor
    · intro q
      rw [← q] at h0
      exact absurd h0 (by decide)
    · intro q; exact absurd q.1 h
theorem seen_no {t : Nat → Int32} {n j : Nat} (hb : ∀ k, byt (t k)) : seen t n j = -1 ↔ ¬ j < n := by
  unfold seen
  by_cases h : j < n
  · rw [if_pos h]
    have e := b_and (hb j)
    have hbj := hb j
    unfold byt at hbj
    constructor
    · intro q
      rw [q] at e
      have e : (-1 : Int) = _ := e
      split at e <;> omega
    · intro q; exact absurd h q
  · rw [if_neg h]
    exact ⟨fun _ => h, fun _ => rfl⟩
theorem tFl_ne {t : Nat → Int32} {n i : Nat} {B : TB} (h : (tFl t n B i).1 = 0) : 0 < (tFl t n B i).2.2.1.length := by
  unfold tFl at h ⊢
  by_cases c1 : nmf t n i 1 20 = 0
  · rw [if_pos c1] at h ⊢
    by_cases c2 : nmf t n (nmp t n i) 1 20 = 0
    · rw [if_pos c2]
      show 0 < (B.1 ++ [_]).length
      rw [ln_app]; omega
    · rw [if_neg c2] at h; exact absurd h c2
  · rw [if_neg c1] at h; exact absurd h c1
theorem tPc_ne {t : Nat → Int32} {n i a b c : Nat} {B : TB} : (tPc t n B a b c i).2.2.1 = B.1 := by
  unfold tPc
  by_cases c1 : nmf t n i 1 20 = 0
  · rw [if_pos c1]
    by_cases c2 : nmf t n (nmp t n i) 1 20 = 0
    · rw [if_pos c2]
    · rw [if_neg c2]
  · rw [if_neg c1]
theorem tSt_ne {t : Nat → Int32} {n i : Nat} {B : TB} (h : (tSt t n B i).1 = 0) : 0 < (tSt t n B i).2.2.1.length := by
  unfold tSt at h ⊢
  by_cases c1 : nmf t n i 0 (B.1.length - 1) = 0
  · have g := (nmf_0 c1).2.2
    rw [if_pos c1] at h ⊢
    by_cases c2 : nmf t n (nmp t n i) 0 (B.1.length - 1) = 0
    · rw [if_pos c2] at h ⊢
      by_cases c3 : nmv t n i = nmv t n (nmp t n i)
      · rw [if_pos c3]
        show 0 < B.1.length
        omega
      · rw [if_neg c3] at h ⊢
        by_cases c4 : nmf t n (nmp t n (nmp t n i)) 1 9 = 0
        · rw [if_pos c4, tPc_ne]
          omega
        · rw [if_neg c4]
          show 0 < B.1.length
          omega
    · rw [if_neg c2]
      show 0 < B.1.length
      omega
  · rw [if_neg c1] at h; exact absurd h c1
theorem tTh_ne {t : Nat → Int32} {n i : Nat} {B : TB} (h : (tTh t n B i).1 = 0) : 0 < (tTh t n B i).2.2.1.length := by
  unfold tTh at h ⊢
  by_cases c1 : nmf t n i 0 (B.1.length - 1) = 0
  · have g := (nmf_0 c1).2.2
    rw [if_pos c1]
    show 0 < B.1.length
    omega
  · rw [if_neg c1] at h; exact absurd h c1
theorem tcl_ne {t : Nat → Int32} {n c i : Nat} {B : TB} (h : (tcl t n c B i).1 = 0) : 0 < (tcl t n c B i).2.2.1.length := by
  unfold tcl at h ⊢
  by_cases h1 : wat t n (mm_sb.getD 0 []) (sk t n i) = true
  · rw [if_pos h1] at h ⊢
    by_cases h2 : 10 ≤ B.1.length ∨ 24 ≤ c
    · rw [if_pos h2] at h; exact absurd h (by show ¬ (1 + 8 * _ + 4 = 0); omega)
    · rw [if_neg h2] at h ⊢
      exact tFl_ne h
  · rw [if_neg h1] at h ⊢
    by_cases h3 : wat t n (mm_sb.getD 1 []) (sk t n i) = true
    · rw [if_pos h3] at h ⊢
      by_cases h2 : 12 ≤ B.2.1.length ∨ 24 ≤ c
      · rw [if_pos h2] at h; exact absurd h (by show ¬ (1 + 8 * _ + 4 = 0); omega)
      · rw [if_neg h2] at h ⊢
        exact tSt_ne h
    · rw [if_neg h3] at h ⊢
      by_cases h4 : wat t n (mm_sb.getD 2 []) (sk t n i) = true
      · rw [if_pos h4] at h ⊢
        by_cases h2 : 8 ≤ B.2.2.length ∨ 24 ≤ c
        · rw [if_pos h2] at h; exact absurd h (by show ¬ (1 + 8 * _ + 4 = 0); omega)
        · rw [if_neg h2] at h ⊢
          exact tTh_ne h
      · rw [if_neg h4] at h; exact absurd h (by show ¬ (1 + 8 * _ = 0); omega)
/-- behind a clause -/
def tl (t : Nat → Int32) (n d c i : Nat) (B : TB) : Nat × TB := if sk t n i < n then (if t (sk t n i) = 59 then tall t n d c (sk t n i + 1) B else (1 + 8 * sk t n i, B)) else (0, B)
theorem tall_tl {t : Nat → Int32} {n d c i : Nat} {B : TB} : tall t n (d + 1) c i B = if (tcl t n c B i).1 = 0 then tl t n d (c + 1) (tcl t n c B i).2.1 (tcl t n c B i).2.2 else ((tcl t n c B i).1, B) := rfl
section ML
variable {n : Nat} {t : Nat → Int32}
/-- how the loop over clauses leaves the reader: good, and at the end; or with a fault that is told, or that is to be told at the place where it stands -/
def mEnd (n : Nat) (t : Nat → Int32) (r : Nat × TB) (g : Int32) (S' : fS) (i' w' : Int32) : Prop :=
  (r.1 = 0 ∧ g = 1 ∧ w' = 0 ∧ (∃ j, i' = o3 j ∧ ¬ j < n ∧ j ≤ n) ∧ TBm S' r.2 ∧ 0 < r.2.1.length ∧ okB r.2) ∨ (r.1 ≠ 0 ∧ g = 0 ∧ w' = o3 r.1) ∨ (∃ j, r.1 = 1 + 8 * j ∧ g = 1 ∧ w' = 0 ∧ i' = o3 j ∧ j < n ∧ sk t n j = j)
theorem ml_loop (hl : n ≤ 400) (hb : ∀ k, byt (t k)) {K : Int32 → fS → Option (Int32 × fS)} : ∀ d c m B (S : fS) (i : Nat) (u : Int32), S.1 145 1 = o3 n → S.1 146 = t → TBm S B → okB B → 0 < B.1.length → S.1 145 19 = o3 c → S.1 145 16 = 6 → i ≤ n → c + d = 24 → d + 1 < m → ∃ S' u' i' w' g, lp_X11_readsAll_35 K m 1 (mS S (o3 i) 0 u) = K g (mS S' i' w' u') ∧ eC S S' ∧ mEnd n t (tl t n (d + 1) c i B) g S' i' w' := by
  intro d
  induction d with
  | zero =>
    intro c m B S i u hn ht hB hok hne h19 h16 hi hcd hm
    subst ht
    obtain ⟨m, rfl⟩ : ∃ m', m = m' + 1 := ⟨m - 1, by omega⟩
    have hj := sk_le (t := S.1 146) hi
    rw [lp_X11_readsAll_35.eq_2, if_neg (show ¬ (1 : Int32) = 0 by decide), mt_see hn hl hi, bd_some]
    dsimp only
    unfold tl
    by_cases h59 : sk (S.1 146) n i < n ∧ S.1 146 (sk (S.1 146) n i) = 59
    · rw [if_pos ((seen_eq hb (by decide) (by decide)).mpr h59), bd_some, mS_nx, mS_13, o3_s, if_pos h59.1, if_pos h59.2, tall_tl]
      obtain ⟨S1, u1, i1, e1, f1, g1⟩ := mc_clause (u := u) hn hl hB hok (c := c) (by omega) h19 h16 (i := sk (S.1 146) n i + 1) (by omega)
      have hz : ¬ (tcl (S.1 146) n c B (sk (S.1 146) n i + 1)).1 = 0 := fun q => by have := (tcl_ok hok q).2; omega
      obtain ⟨m, rfl⟩ : ∃ m', m = m' + 1 := ⟨m - 1, by omega⟩
      rw [e1, bd_some, if_neg hz, if_neg hz]
      dsimp only
      rw [lp_X11_readsAll_35.eq_2, if_pos (show (0 : Int32) = 0 from rfl)]
      exact ⟨S1, u1, i1, _, 0, rfl, f1, Or.inr (Or.inl ⟨hz, rfl, rfl⟩)⟩
    · rw [if_neg (fun q => h59 ((seen_eq hb (by decide) (by decide)).mp q))]
      refine ⟨S, u, _, 0, 1, rfl, eC.rf, ?_⟩
      by_cases h1 : sk (S.1 146) n i < n
      · rw [if_pos h1, if_neg (fun q => h59 ⟨h1, q⟩)]
        exact Or.inr (Or.inr ⟨sk (S.1 146) n i, rfl, rfl, rfl, rfl, h1, sk_id⟩)
      · rw [if_neg h1]
        exact Or.inl ⟨rfl, rfl, rfl, ⟨_, rfl, h1, hj⟩, hB, hne, hok⟩
  | succ d ih =>
    intro c m B S i u hn ht hB hok hne h19 h16 hi hcd hm
    subst ht
    obtain ⟨m, rfl⟩ : ∃ m', m = m' + 1 := ⟨m - 1, by omega⟩
    have hj := sk_le (t := S.1 146) hi
    rw [lp_X11_readsAll_35.eq_2, if_neg (show ¬ (1 : Int32) = 0 by decide), mt_see hn hl hi, bd_some]
    dsimp only
    rw [show tl (S.1 146) n (d + 1 + 1) c i B = if sk (S.1 146) n i < n then (if S.1 146 (sk (S.1 146) n i) = 59 then tall (S.1 146) n (d + 1 + 1) c (sk (S.1 146) n i + 1) B else (1 + 8 * sk (S.1 146) n i, B)) else (0, B) from rfl]
    by_cases h59 : sk (S.1 146) n i < n ∧ S.1 146 (sk (S.1 146) n i) = 59
    · rw [if_pos ((seen_eq hb (by decide) (by decide)).mpr h59), bd_some, mS_nx, mS_13, o3_s, if_pos h59.1, if_pos h59.2, tall_tl]
      obtain ⟨S1, u1, i1, e1, f1, g1⟩ := mc_clause (u := u) hn hl hB hok (c := c) (by omega) h19 h16 (i := sk (S.1 146) n i + 1) (by omega)
      rw [e1, bd_some]
      by_cases hz : (tcl (S.1 146) n c B (sk (S.1 146) n i + 1)).1 = 0
      · rw [if_pos hz, if_pos hz]
        dsimp only
        have hle := tcl_le (t := S.1 146) (B := B) (c := c) (i := sk (S.1 146) n i + 1) (by omega) hz
        obtain ⟨S2, u2, i2, w2, g2, e2, f2, m2⟩ := ih (c + 1) m _ S1 _ u1 (by rw [f1.1 145 1 (by unfold wM; omega)]; exact hn) (funext fun k => f1.1 146 k (by unfold wM; omega)) (g1 hz).1 (tcl_ok hok hz).1 (tcl_ne hz) (g1 hz).2 (by rw [f1.1 145 16 (by unfold wM; omega)]; exact h16) hle.1 (by omega) (by omega)
        exact ⟨S2, u2, i2, w2, g2, e2, f1.tr f2, m2⟩
      · rw [if_neg hz, if_neg hz]
        dsimp only
        obtain ⟨m, rfl⟩ : ∃ m', m = m' + 1 := ⟨m - 1, by omega⟩
        rw [lp_X11_readsAll_35.eq_2, if_pos (show (0 : Int32) = 0 from rfl)]
        exact ⟨S1, u1, i1, _, 0, rfl, f1, Or.inr (Or.inl ⟨hz, rfl, rfl⟩)⟩
    · rw [if_neg (fun q => h59 ((seen_eq hb (by decide) (by decide)).mp q))]
      refine ⟨S, u, _, 0, 1, rfl, eC.rf, ?_⟩
      by_cases h1 : sk (S.1 146) n i < n
      · rw [if_pos h1, if_neg (fun q => h59 ⟨h1, q⟩)]
        exact Or.inr (Or.inr ⟨sk (S.1 146) n i, rfl, rfl, rfl, rfl, h1, sk_id⟩)
      · rw [if_neg h1]
        exact Or.inl ⟨rfl, rfl, rfl, ⟨_, rfl, h1, hj⟩, hB, hne, hok⟩
end ML
end
