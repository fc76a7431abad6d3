section
section MR
variable {S : fS} {n : Nat} {u : Int32}
theorem mf_st1 (hn : S.1 145 1 = o3 n) (hl : n ≤ 400) {K : fS → Option (Int32 × fS)} {k p m : Nat} (h12 : k < 12) (hp2 : 2 ≤ p) (hp : p < 5) {i : Nat} (hi : i ≤ n) : ∃ u', lp_X11_isStairHere_114 (o3 (5 * k)) K (m + 1) (o3 p) (mS S (o3 i) 0 u) = (if nmf (S.1 146) n i 1 (if p = 2 then 9 else 20) = 0 then lp_X11_isStairHere_114 (o3 (5 * k)) K m (o3 (p + 1)) (mS (pI S 152 (5 * k + p) (o3 (nmv (S.1 146) n i))) (o3 (nmp (S.1 146) n i)) 0 (o3 (nmv (S.1 146) n i))) else some (0, mS S (o3 (nmp (S.1 146) n i)) (o3 (nmf (S.1 146) n i 1 (if p = 2 then 9 else 20))) u')) := by
  rw [lp_X11_isStairHere_114.eq_2, if_neg (show ¬ (5 : Int32) ≤ o3 _ from fun q => by have := (o3_le (a := 5) (by omega) (by omega)).mp q; omega)]
  by_cases h2 : p = 2
  · rw [if_pos (show o3 p = (2 : Int32) from (o3_inj (b := 2) (by omega) (by omega)).mpr h2), if_pos h2]
    obtain ⟨u1, e1⟩ := mt_num (u := u) hn hl (lo := 1) (hi := 9) hi
    rw [l1_20.1, l1_20.2.2] at e1
    refine ⟨u1, ?_⟩
    rw [e1, bd_some]
    by_cases c1 : nmf (S.1 146) n i 1 9 = 0
    · rw [if_pos c1, if_pos c1]
      dsimp only
      rw [if_neg (show ¬ (1 : Int32) = 0 by decide), mS_15, o3_add, sI_o (by omega) (by omega), bd_some, mS_p (by omega), o3_s]
    · rw [if_neg c1, if_neg c1]
      dsimp only
      rw [if_pos (show (0 : Int32) = 0 from rfl)]
  · rw [if_neg (show ¬ o3 p = (2 : Int32) from fun q => h2 ((o3_inj (b := 2) (by omega) (by omega)).mp q)), if_neg h2]
    obtain ⟨u1, e1⟩ := mt_num (u := u) hn hl (lo := 1) (hi := 20) hi
    rw [l1_20.1, l1_20.2.1] at e1
    refine ⟨u1, ?_⟩
    rw [e1, bd_some]
    by_cases c1 : nmf (S.1 146) n i 1 20 = 0
    · rw [if_pos c1, if_pos c1]
      dsimp only
      rw [if_neg (show ¬ (1 : Int32) = 0 by decide), mS_15, o3_add, sI_o (by omega) (by omega), bd_some, mS_p (by omega), o3_s]
    · rw [if_neg c1, if_neg c1]
      dsimp only
      rw [if_pos (show (0 : Int32) = 0 from rfl)]
def st5 (S : fS) (k a b c d e : Nat) : fS := pI (pI (pI (pI (pI S 152 (5 * k) (o3 a)) 152 (5 * k + 1) (o3 b)) 152 (5 * k + 2) (o3 c)) 152 (5 * k + 3) (o3 d)) 152 (5 * k + 4) (o3 e)
theorem st5_ne {k a b c d e x y : Nat} (h : x ≠ 152 ∨ y < 5 * k) : (st5 S k a b c d e).1 x y = S.1 x y := by
  unfold st5
  rw [pI_get, if_neg (by omega), pI_get, if_neg (by omega), pI_get, if_neg (by omega), pI_get, if_neg (by omega), pI_get, if_neg (by omega)]
theorem st5_eq {k a b c d e : Nat} : (st5 S k a b c d e).1 152 (5 * k) = o3 a ∧ (st5 S k a b c d e).1 152 (5 * k + 1) = o3 b ∧ (st5 S k a b c d e).1 152 (5 * k + 2) = o3 c ∧ (st5 S k a b c d e).1 152 (5 * k + 3) = o3 d ∧ (st5 S k a b c d e).1 152 (5 * k + 4) = o3 e := by
  unfold st5
  refine ⟨?_, ?_, ?_, ?_, ?_⟩
  · rw [pI_get, if_neg (by omega), pI_get, if_neg (by omega), pI_get, if_neg (by omega), pI_get, if_neg (by omega), pI_get, if_pos (by omega)]
  · rw [pI_get, if_neg (by omega), pI_get, if_neg (by omega), pI_get, if_neg (by omega), pI_get, if_pos (by omega)]
  · rw [pI_get, if_neg (by omega), pI_get, if_neg (by omega), pI_get, if_pos (by omega)]
  · rw [pI_get, if_neg (by omega), pI_get, if_pos (by omega)]
  · rw [pI_get, if_pos (by omega)]
theorem mf_stairB {B : TB} {a b c d e : Nat} (hB : TBm S B) : TBm (pI (st5 S B.2.1.length a b c d e) 145 8 (o3 (B.2.1.length + 1))) (B.1, B.2.1 ++ [(a, b, c, d, e)], B.2.2) := by
  obtain ⟨b1, b2, b3, b4, b5, b6⟩ := hB
  have he := st5_eq (S := S) (k := B.2.1.length) (a := a) (b := b) (c := c) (d := d) (e := e)
  refine ⟨?_, ?_, ?_, fun k hk => ⟨?_, ?_⟩, fun k hk => ?_, fun k hk => ?_⟩
  · rw [pI_get, if_neg (by omega), st5_ne (by omega)]; exact b1
  · rw [pI_get, if_pos ⟨rfl, rfl⟩, ln_app]
  · rw [pI_get, if_neg (by omega), st5_ne (by omega)]; exact b3
  · rw [pI_get, if_neg (by omega), st5_ne (by omega)]; exact (b4 k hk).1
  · rw [pI_get, if_neg (by omega), st5_ne (by omega)]; exact (b4 k hk).2
  · rw [ln_app] at hk
    rw [gd_app]
    by_cases hc : k = B.2.1.length
    · subst hc
      rw [if_pos rfl]
      refine ⟨?_, ?_, ?_, ?_, ?_⟩
      · rw [pI_get, if_neg (by omega)]; exact he.1
      · rw [pI_get, if_neg (by omega)]; exact he.2.1
      · rw [pI_get, if_neg (by omega)]; exact he.2.2.1
      · rw [pI_get, if_neg (by omega)]; exact he.2.2.2.1
      · rw [pI_get, if_neg (by omega)]; exact he.2.2.2.2
    · rw [if_neg hc]
      have hk2 : k < B.2.1.length := by omega
      have := b5 k hk2
      refine ⟨?_, ?_, ?_, ?_, ?_⟩
      · rw [pI_get, if_neg (by omega), st5_ne (by omega)]; exact this.1
      · rw [pI_get, if_neg (by omega), st5_ne (by omega)]; exact this.2.1
      · rw [pI_get, if_neg (by omega), st5_ne (by omega)]; exact this.2.2.1
      · rw [pI_get, if_neg (by omega), st5_ne (by omega)]; exact this.2.2.2.1
      · rw [pI_get, if_neg (by omega), st5_ne (by omega)]; exact this.2.2.2.2
  · rw [pI_get, if_neg (by omega), st5_ne (by omega)]; exact b6 k hk
/-- a state that goes on: what the reader needs of it -/
theorem mk_n {a k : Nat} {x : Int32} (hn : S.1 145 1 = o3 n) (h : ¬ (a = 145 ∧ k = 1)) : (pI S a k x).1 145 1 = o3 n := by
  rw [pI_get, if_neg (by omega)]; exact hn
theorem mk_t {a k : Nat} {x : Int32} (h : a ≠ 146) : (pI S a k x).1 146 = S.1 146 := funext fun j => by rw [pI_get, if_neg (by omega)]
/-- the last three numbers of a stair -/
theorem mf_st3 (hn : S.1 145 1 = o3 n) (hl : n ≤ 400) {K : fS → Option (Int32 × fS)} {k : Nat} (h12 : k < 12) {i : Nat} (hi : i ≤ n) : ∃ S' u' i', lp_X11_isStairHere_114 (o3 (5 * k)) K FU (o3 2) (mS S (o3 i) 0 u) = (if nmf (S.1 146) n i 1 9 = 0 then (if nmf (S.1 146) n (nmp (S.1 146) n i) 1 20 = 0 then (if nmf (S.1 146) n (nmp (S.1 146) n (nmp (S.1 146) n i)) 1 20 = 0 then K (mS (pI (pI (pI S 152 (5 * k + 2) (o3 (nmv (S.1 146) n i))) 152 (5 * k + 3) (o3 (nmv (S.1 146) n (nmp (S.1 146) n i)))) 152 (5 * k + 4) (o3 (nmv (S.1 146) n (nmp (S.1 146) n (nmp (S.1 146) n i))))) (o3 (nmp (S.1 146) n (nmp (S.1 146) n (nmp (S.1 146) n i)))) 0 u') else some (0, mS S' i' (o3 (nmf (S.1 146) n (nmp (S.1 146) n (nmp (S.1 146) n i)) 1 20)) u')) else some (0, mS S' i' (o3 (nmf (S.1 146) n (nmp (S.1 146) n i) 1 20)) u')) else some (0, mS S' i' (o3 (nmf (S.1 146) n i 1 9)) u')) ∧ eM S S' := by
  have hi1 := nmp_le (t := S.1 146) hi
  have hi2 := nmp_le (t := S.1 146) hi1
  obtain ⟨mm, hF⟩ := op_FU
  rw [hF]
  obtain ⟨u1, e1⟩ := mf_st1 (u := u) (K := K) (m := mm + 1 + 1 + 1 + 1) (p := 2) hn hl h12 (by omega) (by omega) hi
  rw [if_pos rfl] at e1
  rw [e1]
  by_cases c1 : nmf (S.1 146) n i 1 9 = 0
  · rw [if_pos c1]
    obtain ⟨u2, e2⟩ := mf_st1 (u := o3 (nmv (S.1 146) n i)) (K := K) (m := mm + 1 + 1 + 1) (p := 2 + 1) (mk_n (a := 152) (k := 5 * k + 2) (x := o3 (nmv (S.1 146) n i)) hn (by omega)) hl h12 (by omega) (by omega) hi1
    rw [if_neg (show ¬ (2 + 1 = 2) by omega), mk_t (by omega)] at e2
    rw [e2]
    by_cases c2 : nmf (S.1 146) n (nmp (S.1 146) n i) 1 20 = 0
    · rw [if_pos c2]
      obtain ⟨u3, e3⟩ := mf_st1 (u := o3 (nmv (S.1 146) n (nmp (S.1 146) n i))) (K := K) (m := mm + 1 + 1) (p := 2 + 1 + 1) (mk_n (a := 152) (k := 5 * k + (2 + 1)) (x := o3 (nmv (S.1 146) n (nmp (S.1 146) n i))) (mk_n (a := 152) (k := 5 * k + 2) (x := o3 (nmv (S.1 146) n i)) hn (by omega)) (by omega)) hl h12 (by omega) (by omega) hi2
      rw [if_neg (show ¬ (2 + 1 + 1 = 2) by omega), mk_t (by omega), mk_t (by omega)] at e3
      rw [e3]
      by_cases c3 : nmf (S.1 146) n (nmp (S.1 146) n (nmp (S.1 146) n i)) 1 20 = 0
      · rw [if_pos c3, lp_X11_isStairHere_114.eq_2, if_pos (show (5 : Int32) ≤ o3 _ from (o3_le (a := 5) (by omega) (by omega)).mpr (by omega))]
        exact ⟨S, _, 0, by rw [if_pos c1, if_pos c2, if_pos c3], eM.rf⟩
      · rw [if_neg c3]
        refine ⟨pI (pI S 152 (5 * k + 2) (o3 (nmv (S.1 146) n i))) 152 (5 * k + (2 + 1)) (o3 (nmv (S.1 146) n (nmp (S.1 146) n i))), u3, _, by rw [if_pos c1, if_pos c2, if_neg c3], (eM_pI (by unfold wM; omega)).tr (eM_pI (by unfold wM; omega))⟩
    · rw [if_neg c2]
      exact ⟨pI S 152 (5 * k + 2) (o3 (nmv (S.1 146) n i)), u2, _, by rw [if_pos c1, if_neg c2], eM_pI (by unfold wM; omega)⟩
  · rw [if_neg c1]
    exact ⟨S, u1, _, by rw [if_neg c1], eM.rf⟩
end MR
end
