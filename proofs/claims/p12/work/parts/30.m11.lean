section
/-! the reference reads a tower -/
def TBm (S : fS) (B : TB) : Prop := S.1 145 7 = o3 B.1.length ∧ S.1 145 8 = o3 B.2.1.length ∧ S.1 145 9 = o3 B.2.2.length ∧ (∀ k, k < B.1.length → S.1 151 (2 * k) = o3 (B.1.getD k (0, 0)).1 ∧ S.1 151 (2 * k + 1) = o3 (B.1.getD k (0, 0)).2) ∧ (∀ k, k < B.2.1.length → S.1 152 (5 * k) = o3 (B.2.1.getD k d5).1 ∧ S.1 152 (5 * k + 1) = o3 (B.2.1.getD k d5).2.1 ∧ S.1 152 (5 * k + 2) = o3 (B.2.1.getD k d5).2.2.1 ∧ S.1 152 (5 * k + 3) = o3 (B.2.1.getD k d5).2.2.2.1 ∧ S.1 152 (5 * k + 4) = o3 (B.2.1.getD k d5).2.2.2.2) ∧ (∀ k, k < B.2.2.length → S.1 153 k = o3 (B.2.2.getD k 0))
def wM (a k : Nat) : Prop := (a = 145 ∧ (k = 7 ∨ k = 8 ∨ k = 9)) ∨ a = 151 ∨ a = 152 ∨ a = 153
def eM (S T : fS) : Prop := (∀ a k, ¬ wM a k → T.1 a k = S.1 a k) ∧ T.2 = S.2
theorem eM.rf {S : fS} : eM S S := ⟨fun _ _ _ => rfl, rfl⟩
theorem eM.tr {S T U : fS} (h : eM S T) (g : eM T U) : eM S U := ⟨fun a k n => (g.1 a k n).trans (h.1 a k n), g.2.trans h.2⟩
theorem eM_pI {S : fS} {a k : Nat} {x : Int32} (h : wM a k) : eM S (pI S a k x) := ⟨fun b j n => by
  rw [pI_get]
  by_cases q : b = a ∧ j = k
  · exact absurd (q.1 ▸ q.2 ▸ h) n
  · rw [if_neg q], rfl⟩
theorem mS_p {S : fS} {i w u x : Int32} {a k : Nat} (h : ¬ (a = 145 ∧ (k = 13 ∨ k = 14 ∨ k = 15))) : pI (mS S i w u) a k x = mS (pI S a k x) i w u := by
  unfold mS
  rw [pI_sw (by omega), pI_sw (a := 145) (k := 14) (by omega), pI_sw (a := 145) (k := 13) (by omega)]
theorem mS_ne {S : fS} {i w u : Int32} {a k : Nat} (h : ¬ (a = 145 ∧ (k = 13 ∨ k = 14 ∨ k = 15))) : (mS S i w u).1 a k = S.1 a k := by
  unfold mS
  rw [pI_get, pI_get, pI_get, if_neg (by omega), if_neg (by omega), if_neg (by omega)]
theorem mw_L : ∀ w, w < 16 → ∀ x ∈ mm_sb.getD w [], 97 ≤ x.toInt ∧ x.toInt ≤ 122 := by decide
theorem mw_l : ∀ w, w < 16 → 0 < (mm_sb.getD w []).length ∧ (mm_sb.getD w []).length ≤ 8 := by decide
def mwc : List Int64 := [439905906546, 495873780082, 499967946343, 29807, 26982, 7237492, 7237495, 499967946343, 439905906546, 6383461, 1751478885, 1918989413, 122511331521396, 8750341718045717364, 6385252, 28530]
theorem mw_c : ∀ w, w < 16 → mwc.getD w 0 = Int64.ofNat (pkW (mm_sb.getD w [])) := by decide
section MR
variable {S : fS} {n : Nat} {u : Int32}
theorem mr_word {w : Int32} (hn : S.1 145 1 = o3 n) (hl : n ≤ 400) (c : Int64) (k : Nat) (hk : k < 16) (hc : c = mwc.getD k 0) {i : Nat} (hi : i ≤ n) : f_X11_isWord c (mS S (o3 i) w u) = some (if wat (S.1 146) n (mm_sb.getD k []) (sk (S.1 146) n i) = true then 1 else 0, mS S (o3 (sk (S.1 146) n i)) w u) := mt_isWord hn hl (mw_L k hk) (mw_l k hk).1 (mw_l k hk).2 (hc.trans (mw_c k hk)) hi
theorem mf_fails {X : fS} {i w u : Int32} {p k : Nat} (h0 : w = 0) : f_X11_fails (o3 k) (o3 p) (mS X i w u) = some (0, mS X i (o3 (1 + 8 * p + k)) u) := by
  subst h0
  rw [mt_fails (by rw [mS_14]), mS_wr, show (1 : Int32) = o3 1 from rfl, show (8 : Int32) = o3 8 from rfl, o3_mul, o3_add, o3_add]
/-- one number of a floor -/
theorem mf_floor1 (hn : S.1 145 1 = o3 n) (hl : n ≤ 400) {K : fS → Option (Int32 × fS)} {k p m : Nat} (hk : S.1 145 7 = o3 k) (h10 : k < 10) (hp : p < 2) {i : Nat} (hi : i ≤ n) : ∃ u', lp_X11_isFloorHere_22 K (m + 1) (o3 p) (mS S (o3 i) 0 u) = (if nmf (S.1 146) n i 1 20 = 0 then lp_X11_isFloorHere_22 K m (o3 (p + 1)) (mS (pI S 151 (2 * k + p) (o3 (nmv (S.1 146) n i))) (o3 (nmp (S.1 146) n i)) 0 (o3 (nmv (S.1 146) n i))) else some (0, mS S (o3 (nmp (S.1 146) n i)) (o3 (nmf (S.1 146) n i 1 20)) u')) := by
  rw [lp_X11_isFloorHere_22.eq_2, if_neg (show ¬ (2 : Int32) ≤ o3 _ from fun q => by have := (o3_le (a := 2) (by omega) (by omega)).mp q; omega)]
  obtain ⟨u1, e1⟩ := mt_num (u := u) hn hl (lo := 1) (hi := 20) hi
  rw [l1_20.1, l1_20.2.1] at e1
  refine ⟨u1, ?_⟩
  rw [e1, bd_some]
  by_cases c1 : nmf (S.1 146) n i 1 20 = 0
  · rw [if_pos c1, if_pos c1]
    dsimp only
    rw [if_neg (show ¬ (1 : Int32) = 0 by decide), mS_ne (by omega), mS_15, hk, show (2 : Int32) = o3 2 from rfl, o3_mul, o3_add, sI_o (by omega) (by omega), bd_some, mS_p (by omega), o3_s]
  · rw [if_neg c1, if_neg c1]
    dsimp only
    rw [if_pos (show (0 : Int32) = 0 from rfl)]
theorem mf_floorB {B : TB} {x y : Nat} (hB : TBm S B) : TBm (pI (pI (pI S 151 (2 * B.1.length + 0) (o3 x)) 151 (2 * B.1.length + 1) (o3 y)) 145 7 (o3 (B.1.length + 1))) (B.1 ++ [(x, y)], B.2) := by
  obtain ⟨b1, b2, b3, b4, b5, b6⟩ := hB
  refine ⟨?_, ?_, ?_, fun k hk => ?_, fun k hk => ?_, fun k hk => ?_⟩
  · rw [pI_get, if_pos ⟨rfl, rfl⟩, ln_app]
  · rw [pI_get, if_neg (by omega), pI_get, if_neg (by omega), pI_get, if_neg (by omega)]; exact b2
  · rw [pI_get, if_neg (by omega), pI_get, if_neg (by omega), pI_get, if_neg (by omega)]; exact b3
  · rw [ln_app] at hk
    rw [gd_app]
    by_cases hc : k = B.1.length
    · rw [if_pos hc]
      refine ⟨?_, ?_⟩
      · rw [pI_get, if_neg (by omega), pI_get, if_neg (by omega), pI_get, if_pos (by omega)]
      · rw [pI_get, if_neg (by omega), pI_get, if_pos (by omega)]
    · rw [if_neg hc]
      refine ⟨?_, ?_⟩
      · rw [pI_get, if_neg (by omega), pI_get, if_neg (by omega), pI_get, if_neg (by omega)]
        exact (b4 k (by omega)).1
      · rw [pI_get, if_neg (by omega), pI_get, if_neg (by omega), pI_get, if_neg (by omega)]
        exact (b4 k (by omega)).2
  · have := b5 k hk
    refine ⟨?_, ?_, ?_, ?_, ?_⟩
    · rw [pI_get, if_neg (by omega), pI_get, if_neg (by omega), pI_get, if_neg (by omega)]; exact this.1
    · rw [pI_get, if_neg (by omega), pI_get, if_neg (by omega), pI_get, if_neg (by omega)]; exact this.2.1
    · rw [pI_get, if_neg (by omega), pI_get, if_neg (by omega), pI_get, if_neg (by omega)]; exact this.2.2.1
    · rw [pI_get, if_neg (by omega), pI_get, if_neg (by omega), pI_get, if_neg (by omega)]; exact this.2.2.2.1
    · rw [pI_get, if_neg (by omega), pI_get, if_neg (by omega), pI_get, if_neg (by omega)]; exact this.2.2.2.2
  · rw [pI_get, if_neg (by omega), pI_get, if_neg (by omega), pI_get, if_neg (by omega)]; exact b6 k hk
theorem mf_floorlp (hn : S.1 145 1 = o3 n) (hl : n ≤ 400) {K : fS → Option (Int32 × fS)} {B : TB} (hB : TBm S B) (h10 : B.1.length < 10) {i : Nat} (hi : i ≤ n) : ∃ S' u' i', lp_X11_isFloorHere_22 K FU (o3 0) (mS S (o3 i) 0 u) = (if (tFl (S.1 146) n B i).1 = 0 then K (mS S' (o3 (tFl (S.1 146) n B i).2.1) 0 u') else some (0, mS S' i' (o3 (tFl (S.1 146) n B i).1) u')) ∧ eM S S' ∧ ((tFl (S.1 146) n B i).1 = 0 → TBm (pI S' 145 7 (o3 (B.1.length + 1))) (tFl (S.1 146) n B i).2.2 ∧ S'.1 145 7 = o3 B.1.length) := by
  have hi1 := nmp_le (t := S.1 146) hi
  obtain ⟨mm, hF⟩ := op_FU
  rw [hF]
  obtain ⟨u1, e1⟩ := mf_floor1 (u := u) (K := K) (m := mm + 1 + 1 + 1 + 1) (p := 0) hn hl hB.1 h10 (by omega) hi
  rw [e1]
  unfold tFl
  by_cases c1 : nmf (S.1 146) n i 1 20 = 0
  · rw [if_pos c1, if_pos c1]
    have hn1 : (pI S 151 (2 * B.1.length + 0) (o3 (nmv (S.1 146) n i))).1 145 1 = o3 n := by rw [pI_get, if_neg (by omega)]; exact hn
    have hk1 : (pI S 151 (2 * B.1.length + 0) (o3 (nmv (S.1 146) n i))).1 145 7 = o3 B.1.length := by rw [pI_get, if_neg (by omega)]; exact hB.1
    have ht1 : (pI S 151 (2 * B.1.length + 0) (o3 (nmv (S.1 146) n i))).1 146 = S.1 146 := funext fun k => by rw [pI_get, if_neg (by omega)]
    obtain ⟨u2, e2⟩ := mf_floor1 (u := o3 (nmv (S.1 146) n i)) (K := K) (m := mm + 1 + 1 + 1) (p := 0 + 1) hn1 hl hk1 h10 (by omega) hi1
    rw [ht1] at e2
    rw [e2]
    by_cases c2 : nmf (S.1 146) n (nmp (S.1 146) n i) 1 20 = 0
    · rw [if_pos c2, if_pos c2, lp_X11_isFloorHere_22.eq_2, if_pos (show (2 : Int32) ≤ o3 _ from (o3_le (a := 2) (by omega) (by omega)).mpr (by omega))]
      refine ⟨pI (pI S 151 (2 * B.1.length + 0) (o3 (nmv (S.1 146) n i))) 151 (2 * B.1.length + 1) (o3 (nmv (S.1 146) n (nmp (S.1 146) n i))), _, 0, rfl, (eM_pI (by unfold wM; omega)).tr (eM_pI (by unfold wM; omega)), fun _ => ⟨mf_floorB hB, ?_⟩⟩
      rw [pI_get, if_neg (by omega)]
      exact hk1
    · rw [if_neg c2, if_neg c2]
      exact ⟨pI S 151 (2 * B.1.length + 0) (o3 (nmv (S.1 146) n i)), u2, o3 (nmp (S.1 146) n (nmp (S.1 146) n i)), (if_neg c2).symm, eM_pI (by unfold wM; omega), fun q => absurd q c2⟩
  · rw [if_neg c1, if_neg c1]
    exact ⟨S, u1, o3 (nmp (S.1 146) n i), (if_neg c1).symm, eM.rf, fun q => absurd q c1⟩
end MR
end
