section
section MR
variable {S : fS} {n : Nat} {u : Int32}
/-- a clause counts itself, too -/
def eC (S T : fS) : Prop := (∀ a k, ¬ (wM a k ∨ (a = 145 ∧ k = 19)) → T.1 a k = S.1 a k) ∧ T.2 = S.2
theorem eC.rf {S : fS} : eC S S := ⟨fun _ _ _ => rfl, rfl⟩
theorem eC.tr {S T U : fS} (h : eC S T) (g : eC T U) : eC S U := ⟨fun a k n => (g.1 a k n).trans (h.1 a k n), g.2.trans h.2⟩
theorem eC_of {S T : fS} (h : eM S T) : eC S T := ⟨fun a k n => h.1 a k (fun q => n (Or.inl q)), h.2⟩
theorem eC_19 {S : fS} {x : Int32} : eC S (pI S 145 19 x) := ⟨fun a k n => by rw [pI_get, if_neg (fun q => n (Or.inr q))], rfl⟩
theorem mc_clause (hn : S.1 145 1 = o3 n) (hl : n ≤ 400) {B : TB} (hB : TBm S B) (hok : okB B) {c i : Nat} (hc : c ≤ 24) (h19 : S.1 145 19 = o3 c) (h16 : S.1 145 16 = 6) (hi : i ≤ n) : ∃ S' u' i', f_X11_clauseHere (mS S (o3 i) 0 u) = some (if (tcl (S.1 146) n c B i).1 = 0 then (1, mS S' (o3 (tcl (S.1 146) n c B i).2.1) 0 u') else (0, mS S' i' (o3 (tcl (S.1 146) n c B i).1) u')) ∧ eC S S' ∧ ((tcl (S.1 146) n c B i).1 = 0 → TBm S' (tcl (S.1 146) n c B i).2.2 ∧ S'.1 145 19 = o3 (c + 1)) := by
  have hj := sk_le (t := S.1 146) hi
  have hok2 := hok
  obtain ⟨b1, b2, b3, -⟩ := hok2
  have hB1 := TBm_19 (x := o3 (c + 1)) hB
  have hn1 : (pI S 145 19 (o3 (c + 1))).1 145 1 = o3 n := mk_n hn (by omega)
  have ht1 : (pI S 145 19 (o3 (c + 1))).1 146 = S.1 146 := mk_t (by omega)
  have hE1 : eC S (pI S 145 19 (o3 (c + 1))) := eC_19
  unfold f_X11_clauseHere
  rw [mt_see hn hl hi, bd_some]
  dsimp only
  rw [mS_ne (by omega), h16, if_pos rfl, mS_13]
  unfold j_X11_clauseHere_24
  rw [if_neg (show ¬ (1 : Int32) = 0 by decide), mr_word hn hl 439905906546 0 (by omega) rfl hj, bd_some, sk_id]
  have hfull : ∀ s0 : Int32, s0 = 1 → c = 24 → j_X11_clauseHere_74 (o3 (sk (S.1 146) n i)) 1 s0 (mS S (o3 (sk (S.1 146) n i)) 0 u) = some (0, mS S (o3 (sk (S.1 146) n i)) (o3 (1 + 8 * sk (S.1 146) n i + 4)) u) := fun s0 h0 h24 => by
    unfold j_X11_clauseHere_74
    rw [h0, if_neg (show ¬ (1 : Int32) = 0 by decide), if_neg (show ¬ (1 : Int32) = 0 by decide), mc_full h24 h19]
  have hgo : ∀ s0 : Int32, s0 = 1 → c < 24 → j_X11_clauseHere_74 (o3 (sk (S.1 146) n i)) 1 s0 (mS S (o3 (sk (S.1 146) n i)) 0 u) = (if wat (S.1 146) n (mm_sb.getD 0 []) (sk (S.1 146) n i) = true then ((f_X11_isFloorHere (o3 (sk (S.1 146) n i)) (mS (pI S 145 19 (o3 (c + 1))) (o3 (sk (S.1 146) n i)) 0 u)).bind fun q35 => j_X11_clauseHere_171 q35.1 q35.2) else if wat (S.1 146) n (mm_sb.getD 1 []) (sk (S.1 146) n i) = true then ((f_X11_isStairHere (o3 (sk (S.1 146) n i)) (mS (pI S 145 19 (o3 (c + 1))) (o3 (sk (S.1 146) n i)) 0 u)).bind fun q32 => j_X11_clauseHere_171 q32.1 q32.2) else ((f_X11_isThingHere (o3 (sk (S.1 146) n i)) (mS (pI S 145 19 (o3 (c + 1))) (o3 (sk (S.1 146) n i)) 0 u)).bind fun q24 => j_X11_clauseHere_171 q24.1 q24.2)) := fun s0 h0 h24 => by
    unfold j_X11_clauseHere_74
    rw [h0, if_neg (show ¬ (1 : Int32) = 0 by decide), if_neg (show ¬ (1 : Int32) = 0 by decide), mc_101 h24 h19 rfl, mr_word hn1 hl 439905906546 0 (by omega) rfl hj, bd_some, ht1, sk_id]
    by_cases w0 : wat (S.1 146) n (mm_sb.getD 0 []) (sk (S.1 146) n i) = true
    · rw [if_pos w0, if_pos w0, if_neg (show ¬ (1 : Int32) = 0 by decide)]
    · rw [if_neg w0, if_neg w0, if_pos (show (0 : Int32) = 0 from rfl)]
      dsimp only
      rw [mr_word hn1 hl 495873780082 1 (by omega) rfl hj, bd_some, ht1, sk_id]
      by_cases w1 : wat (S.1 146) n (mm_sb.getD 1 []) (sk (S.1 146) n i) = true
      · rw [if_pos w1, if_pos w1, if_neg (show ¬ (1 : Int32) = 0 by decide)]
      · rw [if_neg w1, if_neg w1, if_pos (show (0 : Int32) = 0 from rfl)]
  unfold j_X11_clauseHere_59
  by_cases w0 : wat (S.1 146) n (mm_sb.getD 0 []) (sk (S.1 146) n i) = true
  · rw [if_pos w0, if_neg (show ¬ (1 : Int32) = 0 by decide)]
    dsimp only
    have hll : ll ((pI S 145 19 (o3 (c + 1))).1 146) n (sk (S.1 146) n i) = 5 := by rw [ht1]; exact ll_of (by omega) w0
    by_cases h24 : c = 24
    · rw [hfull 1 rfl h24]
      have ht : tcl (S.1 146) n c B i = (1 + 8 * sk (S.1 146) n i + 4, 0, B) := by unfold tcl; rw [if_pos w0, if_pos (Or.inr (by omega))]
      rw [ht]
      exact ⟨S, u, _, by rw [if_neg (by show ¬ (1 + 8 * _ + 4 = 0); omega)], eC.rf, fun q => absurd q (by show ¬ (1 + 8 * _ + 4 = 0); omega)⟩
    · rw [hgo 1 rfl (by omega), if_pos w0]
      by_cases hfu : B.1.length = 10
      · have ht : tcl (S.1 146) n c B i = (1 + 8 * sk (S.1 146) n i + 4, 0, B) := by unfold tcl; rw [if_pos w0, if_pos (Or.inl (by omega))]
        rw [ht]
        unfold f_X11_isFloorHere
        rw [mS_ne (by omega), hB1.1, if_pos (show o3 _ = (10 : Int32) from (o3_inj (b := 10) (by omega) (by omega)).mpr hfu), show (4 : Int32) = o3 4 from rfl, mf_fails rfl, bd_some]
        refine ⟨pI S 145 19 (o3 (c + 1)), u, o3 (sk (S.1 146) n i), ?_, hE1, fun q => absurd q (by show ¬ (1 + 8 * _ + 4 = 0); omega)⟩
        rw [if_neg (by show ¬ (1 + 8 * _ + 4 = 0); omega)]
        rfl
      · have ht : tcl (S.1 146) n c B i = tFl (S.1 146) n B (sk (S.1 146) n i + 5) := by unfold tcl; rw [if_pos w0, if_neg (by omega)]
        rw [ht]
        obtain ⟨S1, u1, i1, e1, f1, g1⟩ := mf_floor (u := u) (v := sk (S.1 146) n i) hn1 hl hB1 (by omega) hj hll
        rw [ht1] at e1 g1
        rw [e1, bd_some]
        refine ⟨S1, u1, i1, ?_, hE1.tr (eC_of f1), fun q => ⟨g1 q, by rw [f1.1 145 19 (by unfold wM; omega), pI_eq]⟩⟩
        by_cases hz : (tFl (S.1 146) n B (sk (S.1 146) n i + 5)).1 = 0
        · rw [if_pos hz, mc_171 (Or.inr rfl)]
        · rw [if_neg hz, mc_171 (Or.inl rfl)]
  · rw [if_neg w0, if_pos (show (0 : Int32) = 0 from rfl)]
    dsimp only
    rw [mr_word hn hl 495873780082 1 (by omega) rfl hj, bd_some, sk_id]
    by_cases w1 : wat (S.1 146) n (mm_sb.getD 1 []) (sk (S.1 146) n i) = true
    · rw [if_pos w1, if_neg (show ¬ (1 : Int32) = 0 by decide)]
      dsimp only
      have hll : ll ((pI S 145 19 (o3 (c + 1))).1 146) n (sk (S.1 146) n i) = 5 := by rw [ht1]; exact ll_of (by omega) w1
      by_cases h24 : c = 24
      · rw [hfull 1 rfl h24]
        have ht : tcl (S.1 146) n c B i = (1 + 8 * sk (S.1 146) n i + 4, 0, B) := by unfold tcl; rw [if_neg w0, if_pos w1, if_pos (Or.inr (by omega))]
        rw [ht]
        exact ⟨S, u, _, by rw [if_neg (by show ¬ (1 + 8 * _ + 4 = 0); omega)], eC.rf, fun q => absurd q (by show ¬ (1 + 8 * _ + 4 = 0); omega)⟩
      · rw [hgo 1 rfl (by omega), if_neg w0, if_pos w1]
        by_cases hfu : B.2.1.length = 12
        · have ht : tcl (S.1 146) n c B i = (1 + 8 * sk (S.1 146) n i + 4, 0, B) := by unfold tcl; rw [if_neg w0, if_pos w1, if_pos (Or.inl (by omega))]
          rw [ht]
          unfold f_X11_isStairHere
          rw [mS_ne (by omega), hB1.2.1, if_pos (show o3 _ = (12 : Int32) from (o3_inj (b := 12) (by omega) (by omega)).mpr hfu), show (4 : Int32) = o3 4 from rfl, mf_fails rfl, bd_some]
          refine ⟨pI S 145 19 (o3 (c + 1)), u, o3 (sk (S.1 146) n i), ?_, hE1, fun q => absurd q (by show ¬ (1 + 8 * _ + 4 = 0); omega)⟩
          rw [if_neg (by show ¬ (1 + 8 * _ + 4 = 0); omega)]
          rfl
        · have ht : tcl (S.1 146) n c B i = tSt (S.1 146) n B (sk (S.1 146) n i + 5) := by unfold tcl; rw [if_neg w0, if_pos w1, if_neg (by omega)]
          rw [ht]
          obtain ⟨S1, u1, i1, e1, f1, g1⟩ := mf_stair (u := u) (v := sk (S.1 146) n i) hn1 hl hB1 hok (by omega) hj hll
          rw [ht1] at e1 g1
          rw [e1, bd_some]
          refine ⟨S1, u1, i1, ?_, hE1.tr (eC_of f1), fun q => ⟨g1 q, by rw [f1.1 145 19 (by unfold wM; omega), pI_eq]⟩⟩
          by_cases hz : (tSt (S.1 146) n B (sk (S.1 146) n i + 5)).1 = 0
          · rw [if_pos hz, mc_171 (Or.inr rfl)]
          · rw [if_neg hz, mc_171 (Or.inl rfl)]
    · rw [if_neg w1, if_pos (show (0 : Int32) = 0 from rfl)]
      dsimp only
      rw [mr_word hn hl 499967946343 2 (by omega) rfl hj, bd_some, sk_id]
      by_cases w2 : wat (S.1 146) n (mm_sb.getD 2 []) (sk (S.1 146) n i) = true
      · rw [if_pos w2, if_neg (show ¬ (1 : Int32) = 0 by decide)]
        dsimp only
        have hll : ll ((pI S 145 19 (o3 (c + 1))).1 146) n (sk (S.1 146) n i) = 5 := by rw [ht1]; exact ll_of (by omega) w2
        by_cases h24 : c = 24
        · rw [hfull 1 rfl h24]
          have ht : tcl (S.1 146) n c B i = (1 + 8 * sk (S.1 146) n i + 4, 0, B) := by unfold tcl; rw [if_neg w0, if_neg w1, if_pos w2, if_pos (Or.inr (by omega))]
          rw [ht]
          exact ⟨S, u, _, by rw [if_neg (by show ¬ (1 + 8 * _ + 4 = 0); omega)], eC.rf, fun q => absurd q (by show ¬ (1 + 8 * _ + 4 = 0); omega)⟩
        · rw [hgo 1 rfl (by omega), if_neg w0, if_neg w1]
          by_cases hfu : B.2.2.length = 8
          · have ht : tcl (S.1 146) n c B i = (1 + 8 * sk (S.1 146) n i + 4, 0, B) := by unfold tcl; rw [if_neg w0, if_neg w1, if_pos w2, if_pos (Or.inl (by omega))]
            rw [ht]
            unfold f_X11_isThingHere
            rw [mS_ne (by omega), hB1.2.2.1, if_pos (show o3 _ = (8 : Int32) from (o3_inj (b := 8) (by omega) (by omega)).mpr hfu), show (4 : Int32) = o3 4 from rfl, mf_fails rfl, bd_some]
            refine ⟨pI S 145 19 (o3 (c + 1)), u, o3 (sk (S.1 146) n i), ?_, hE1, fun q => absurd q (by show ¬ (1 + 8 * _ + 4 = 0); omega)⟩
            rw [if_neg (by show ¬ (1 + 8 * _ + 4 = 0); omega)]
            rfl
          · have ht : tcl (S.1 146) n c B i = tTh (S.1 146) n B (sk (S.1 146) n i + 5) := by unfold tcl; rw [if_neg w0, if_neg w1, if_pos w2, if_neg (by omega)]
            rw [ht]
            obtain ⟨S1, u1, i1, e1, f1, g1⟩ := mf_thing (u := u) (v := sk (S.1 146) n i) hn1 hl hB1 hok (by omega) hj hll
            rw [ht1] at e1 g1
            rw [e1, bd_some]
            refine ⟨S1, u1, i1, ?_, hE1.tr (eC_of f1), fun q => ⟨g1 q, by rw [f1.1 145 19 (by unfold wM; omega), pI_eq]⟩⟩
            by_cases hz : (tTh (S.1 146) n B (sk (S.1 146) n i + 5)).1 = 0
            · rw [if_pos hz, mc_171 (Or.inr rfl)]
            · rw [if_neg hz, mc_171 (Or.inl rfl)]
      · rw [if_neg w2, if_pos (show (0 : Int32) = 0 from rfl)]
        unfold j_X11_clauseHere_74
        rw [if_pos (show (0 : Int32) = 0 from rfl)]
        dsimp only
        rw [show f_X11_fails 0 (o3 (sk (S.1 146) n i)) (mS S (o3 (sk (S.1 146) n i)) 0 u) = some (0, mS S (o3 (sk (S.1 146) n i)) (o3 (1 + 8 * sk (S.1 146) n i + 0)) u) from mf_fails (k := 0) rfl, bd_some]
        have ht : tcl (S.1 146) n c B i = (1 + 8 * sk (S.1 146) n i, 0, B) := by unfold tcl; rw [if_neg w0, if_neg w1, if_neg w2]
        rw [ht]
        refine ⟨S, u, o3 (sk (S.1 146) n i), ?_, eC.rf, fun q => absurd q (by show ¬ (1 + 8 * _ = 0); omega)⟩
        rw [if_neg (by show ¬ (1 + 8 * _ = 0); omega)]
        rfl
end MR
end
