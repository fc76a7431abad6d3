/-! p1: one call on a fresh object -/
theorem op_FU : ∃ m, FU = m + 1 + 1 + 1 + 1 + 1 := ⟨99995, rfl⟩
theorem op_isFrom {v : Int32} {S : fS} : f_X10_isFrom v 0 ((0 : Int32) - 1) S = some 0 := by
  unfold f_X10_isFrom
  by_cases h : v < 0
  · rw [if_pos h]
  · rw [if_neg h, if_pos]
    rw [ni_lt] at h ⊢
    rw [ni_0] at h
    show (-1 : Int) < v.toInt
    omega
theorem op_in {v lo hi : Int32} {S : fS} : f_X11_in v.toInt64 lo.toInt64 hi.toInt64 S = f_X10_isFrom v lo hi S := by
  unfold f_X11_in f_X10_isFrom
  simp only [Int32.toInt64_lt]
/-! feed -/
def zt (v k : Int32) : Int32 := Int8.toInt32 (Int32.toInt8 (Int8.toInt32 (Int32.toInt8 (v >>> (k &&& 31)))))
def zc (S : fS) (b : Int32) : fS := pI (pI S 2 (S.1 1 1).toNatClampNeg b) 1 1 (S.1 1 1 + 1)
def zm (S : fS) (b : Int32) : fS := pI (pI S 146 (S.1 145 1).toNatClampNeg b) 145 1 (S.1 145 1 + 1)
theorem zc_1 {S : fS} {b : Int32} : (zc S b).1 1 1 = S.1 1 1 + 1 := rfl
theorem zm_1 {S : fS} {b : Int32} : (zm S b).1 145 1 = S.1 145 1 + 1 := rfl
theorem zc_m {S : fS} {b : Int32} : (zc S b).1 145 1 = S.1 145 1 := rfl
theorem op_put1 {v : Int32} {K : fS → Option fS} {n : Nat} {p : Int32} {S : fS} (hp : ¬ p < 0) (h0 : 0 ≤ (S.1 1 1).toInt) (h1 : (S.1 1 1).toInt < 400) : lp_X7_put_3 v K (n + 1) p S = lp_X7_put_3 v K n (p + (-8 : Int32)) (zc S (zt v p)) := by
  have hn := ni_nat h0
  rw [lp_X7_put_3.eq_2, if_neg hp, if_neg (fun h => by have := ni_le.mp h; rw [show (400 : Int32).toInt = 400 from rfl] at this; omega)]
  unfold sI
  rw [if_neg (fun h => by
    rcases h with h | h
    · have := ni_lt.mp h; rw [ni_0] at this; omega
    · omega)]
  rfl
theorem op_four1 {v : Int32} {K : fS → Option fS} {n : Nat} {p : Int32} {S : fS} (hp : ¬ p < 0) (h0 : 0 ≤ (S.1 145 1).toInt) (h1 : (S.1 145 1).toInt < 400) : lp_X11_four_3 v K (n + 1) p S = lp_X11_four_3 v K n (p + (-8 : Int32)) (zm S (zt v p)) := by
  have hn := ni_nat h0
  rw [lp_X11_four_3.eq_2, if_neg hp]
  unfold sI
  rw [if_neg (fun h => by
    rcases h with h | h
    · have := ni_lt.mp h; rw [ni_0] at this; omega
    · omega)]
  rfl
theorem op_inc {a : Int32} (h0 : 0 ≤ a.toInt) (h1 : a.toInt ≤ 100000) : (a + 1).toInt = a.toInt + 1 := ni_add (b := 1) (by show _ ≤ a.toInt + 1; omega) (by show a.toInt + 1 < _; omega)
def zc4 (S : fS) (v : Int32) : fS := zc (zc (zc (zc S (zt v 24)) (zt v 16)) (zt v 8)) (zt v 0)
def zm4 (S : fS) (v : Int32) : fS := zm (zm (zm (zm S (zt v 24)) (zt v 16)) (zt v 8)) (zt v 0)
theorem op_put {v : Int32} {S : fS} (h0 : 0 ≤ (S.1 1 1).toInt) (h1 : (S.1 1 1).toInt ≤ 396) : f_X7_put v S = some (zc4 S v) := by
  obtain ⟨m, hm⟩ := op_FU
  unfold f_X7_put
  rw [hm]
  have a1 := op_inc h0 (by omega)
  have a2 := op_inc (a := S.1 1 1 + 1) (by omega) (by omega)
  have a3 := op_inc (a := S.1 1 1 + 1 + 1) (by omega) (by omega)
  rw [op_put1 (by decide) h0 (by omega)]
  rw [op_put1 (by decide) (by rw [zc_1]; omega) (by rw [zc_1]; omega)]
  rw [op_put1 (by decide) (by rw [zc_1, zc_1]; omega) (by rw [zc_1, zc_1]; omega)]
  rw [op_put1 (by decide) (by rw [zc_1, zc_1, zc_1]; omega) (by rw [zc_1, zc_1, zc_1]; omega)]
  rw [lp_X7_put_3.eq_2, if_pos (by decide)]
  rfl
theorem op_four {v : Int32} {S : fS} (h0 : 0 ≤ (S.1 145 1).toInt) (h1 : (S.1 145 1).toInt ≤ 396) : f_X11_four v S = some (zm4 S v) := by
  obtain ⟨m, hm⟩ := op_FU
  unfold f_X11_four
  rw [hm]
  have a1 := op_inc h0 (by omega)
  have a2 := op_inc (a := S.1 145 1 + 1) (by omega) (by omega)
  have a3 := op_inc (a := S.1 145 1 + 1 + 1) (by omega) (by omega)
  rw [op_four1 (by decide) h0 (by omega)]
  rw [op_four1 (by decide) (by rw [zm_1]; omega) (by rw [zm_1]; omega)]
  rw [op_four1 (by decide) (by rw [zm_1, zm_1]; omega) (by rw [zm_1, zm_1]; omega)]
  rw [op_four1 (by decide) (by rw [zm_1, zm_1, zm_1]; omega) (by rw [zm_1, zm_1, zm_1]; omega)]
  rw [lp_X11_four_3.eq_2, if_pos (by decide)]
  rfl
theorem zc4_1 {S : fS} {v : Int32} (h0 : 0 ≤ (S.1 1 1).toInt) (h1 : (S.1 1 1).toInt ≤ 99990) : ((zc4 S v).1 1 1).toInt = (S.1 1 1).toInt + 4 := by
  have a1 := op_inc h0 (by omega)
  have a2 := op_inc (a := S.1 1 1 + 1) (by omega) (by omega)
  have a3 := op_inc (a := S.1 1 1 + 1 + 1) (by omega) (by omega)
  have a4 := op_inc (a := S.1 1 1 + 1 + 1 + 1) (by omega) (by omega)
  show (S.1 1 1 + 1 + 1 + 1 + 1).toInt = _
  omega
theorem zm4_1 {S : fS} {v : Int32} (h0 : 0 ≤ (S.1 145 1).toInt) (h1 : (S.1 145 1).toInt ≤ 99990) : ((zm4 S v).1 145 1).toInt = (S.1 145 1).toInt + 4 := by
  have a1 := op_inc h0 (by omega)
  have a2 := op_inc (a := S.1 145 1 + 1) (by omega) (by omega)
  have a3 := op_inc (a := S.1 145 1 + 1 + 1) (by omega) (by omega)
  have a4 := op_inc (a := S.1 145 1 + 1 + 1 + 1) (by omega) (by omega)
  show (S.1 145 1 + 1 + 1 + 1 + 1).toInt = _
  omega
theorem zc4_m {S : fS} {v : Int32} : (zc4 S v).1 145 1 = S.1 145 1 := rfl
theorem op_feed {a b c d e : Int32} {S : fS} (h0 : 0 ≤ (S.1 1 1).toInt) (h1 : (S.1 1 1).toInt ≤ 380) : f_X10_feed a b c d e S = some ((zc4 (zc4 (zc4 (zc4 (zc4 S a) b) c) d) e).1 1 1, zc4 (zc4 (zc4 (zc4 (zc4 S a) b) c) d) e) := by
  unfold f_X10_feed
  have x1 := zc4_1 (v := a) h0 (by omega)
  have x2 := zc4_1 (S := zc4 S a) (v := b) (by omega) (by omega)
  have x3 := zc4_1 (S := zc4 (zc4 S a) b) (v := c) (by omega) (by omega)
  have x4 := zc4_1 (S := zc4 (zc4 (zc4 S a) b) c) (v := d) (by omega) (by omega)
  rw [if_pos (ni_le.mpr (by rw [ni_add (b := 20) (by show _ ≤ _ + (20 : Int); omega) (by show _ + (20 : Int) < _; omega)]; show _ + (20 : Int) ≤ 400; omega))]
  rw [op_put h0 (by omega), Option.bind_some, op_put (by omega) (by omega), Option.bind_some, op_put (by omega) (by omega), Option.bind_some, op_put (by omega) (by omega), Option.bind_some, op_put (by omega) (by omega), Option.bind_some]
theorem om_feed {a b c d e : Int32} {S : fS} (h0 : 0 ≤ (S.1 145 1).toInt) (h1 : (S.1 145 1).toInt ≤ 380) : f_X11_feed a b c d e S = some ((zm4 (zm4 (zm4 (zm4 (zm4 S a) b) c) d) e).1 145 1, zm4 (zm4 (zm4 (zm4 (zm4 S a) b) c) d) e) := by
  unfold f_X11_feed
  have x1 := zm4_1 (v := a) h0 (by omega)
  have x2 := zm4_1 (S := zm4 S a) (v := b) (by omega) (by omega)
  have x3 := zm4_1 (S := zm4 (zm4 S a) b) (v := c) (by omega) (by omega)
  have x4 := zm4_1 (S := zm4 (zm4 (zm4 S a) b) c) (v := d) (by omega) (by omega)
  rw [if_pos (ni_le.mpr (by rw [ni_add (b := 20) (by show _ ≤ _ + (20 : Int); omega) (by show _ + (20 : Int) < _; omega)]; show _ + (20 : Int) ≤ 400; omega))]
  rw [op_four h0 (by omega), Option.bind_some, op_four (by omega) (by omega), Option.bind_some, op_four (by omega) (by omega), Option.bind_some, op_four (by omega) (by omega), Option.bind_some, op_four (by omega) (by omega), Option.bind_some]
/-! tick -/
theorem op_pass {S : fS} (h : S.1 11 5 = 0) : f_X0_passHour 11 4 S = some (pI S 11 6 (S.1 11 6 + 1)) := by
  obtain ⟨m, hm⟩ := op_FU
  unfold f_X0_passHour
  rw [hm, lp_X0_passHour_2.eq_2, if_pos (by rw [h]; decide)]
  rfl
theorem op_live {v2 : Int32} (hv : v2.toInt ≤ 200) : ∀ (n : Nat) (p4 : Int32) (S : fS), S.1 11 5 = 0 → 0 ≤ p4.toInt → p4.toInt ≤ v2.toInt → v2.toInt - p4.toInt < n →
    ∃ S', lp_X0_live_3 11 4 none v2 (fun S12 => some S12) n p4 S = some S' ∧ S'.1 11 6 = S.1 11 6 + (v2 - p4) ∧ ∀ a, a ≠ 11 → S'.1 a = S.1 a := by
  intro n
  induction n with
  | zero => intro p4 S _ _ _ h; exfalso; omega
  | succ n ih =>
    intro p4 S h5 h0 h1 h2
    rw [lp_X0_live_3.eq_2]
    by_cases hc : v2 ≤ p4
    · rw [if_pos hc]
      have e : v2 = p4 := ni_eq.mpr (by have := ni_le.mp hc; omega)
      exact ⟨S, rfl, by rw [e, Int32.sub_self, Int32.add_zero], fun _ _ => rfl⟩
    · rw [if_neg hc]
      have hlt : p4.toInt < v2.toInt := by
        have : ¬ v2.toInt ≤ p4.toInt := fun q => hc (ni_le.mpr q)
        omega
      have ei := op_inc h0 (by omega)
      show ∃ S', (f_X0_passHour 11 4 S).bind (fun q3 => lp_X0_live_3 11 4 none v2 (fun S12 => some S12) n (p4 + (1 : Int32)) q3) = some S' ∧ _
      rw [op_pass h5, Option.bind_some]
      obtain ⟨S', g1, g2, g3⟩ := ih (p4 + 1) (pI S 11 6 (S.1 11 6 + 1)) h5 (by omega) (by omega) (by omega)
      refine ⟨S', g1, ?_, fun a ha => ?_⟩
      · rw [g2]
        show S.1 11 6 + 1 + (v2 - (p4 + 1)) = _
        grind
      · rw [g3 a ha]
        show mm_up S.1 11 6 _ a = _
        unfold mm_up
        rw [if_neg ha]
theorem om_hour {S : fS} (h : S.1 157 2 = 0) : f_X11_hour (-1) S = some (pI S 157 3 (S.1 157 3 + 1)) := by
  obtain ⟨m, hm⟩ := op_FU
  unfold f_X11_hour
  rw [hm, lp_X11_hour_2.eq_2]
  show (if S.1 157 2 ≤ 0 then _ else _) = _
  rw [if_pos (by rw [h]; decide)]
  unfold f_X11_ageAll
  rw [hm, lp_X11_ageAll_2.eq_2]
  show Option.bind (if S.1 157 2 ≤ 0 then _ else _) _ = _
  rw [if_pos (by rw [h]; decide)]
  rfl
theorem om_tick {v2 : Int32} {K : fS → Option (Int32 × fS)} (hv : v2.toInt ≤ 200) : ∀ (n : Nat) (p4 : Int32) (S : fS), S.1 157 2 = 0 → 0 ≤ p4.toInt → p4.toInt ≤ v2.toInt → v2.toInt - p4.toInt < n →
    ∃ S', lp_X11_tick_43 (-1) v2 K n p4 S = K S' ∧ S'.1 157 3 = S.1 157 3 + (v2 - p4) := by
  intro n
  induction n with
  | zero => intro p4 S _ _ _ h; exfalso; omega
  | succ n ih =>
    intro p4 S h5 h0 h1 h2
    rw [lp_X11_tick_43.eq_2]
    by_cases hc : v2 ≤ p4
    · rw [if_pos hc]
      have e : v2 = p4 := ni_eq.mpr (by have := ni_le.mp hc; omega)
      exact ⟨S, rfl, by rw [e, Int32.sub_self, Int32.add_zero]⟩
    · rw [if_neg hc]
      have hlt : p4.toInt < v2.toInt := by
        have : ¬ v2.toInt ≤ p4.toInt := fun q => hc (ni_le.mpr q)
        omega
      have ei := op_inc h0 (by omega)
      rw [om_hour h5, Option.bind_some]
      obtain ⟨S', g1, g2⟩ := ih (p4 + 1) (pI S 157 3 (S.1 157 3 + 1)) h5 (by omega) (by omega) (by omega)
      refine ⟨S', g1, ?_⟩
      rw [g2]
      show S.1 157 3 + 1 + (v2 - (p4 + 1)) = _
      grind
theorem op_isFrom01 {v a b : Int32} {S : fS} : (f_X10_isFrom v a b S = some 0 ∧ ¬ (a.toInt ≤ v.toInt ∧ v.toInt ≤ b.toInt)) ∨ (f_X10_isFrom v a b S = some 1 ∧ a.toInt ≤ v.toInt ∧ v.toInt ≤ b.toInt) := by
  unfold f_X10_isFrom
  by_cases h : v < a
  · rw [if_pos h]; have := ni_lt.mp h; exact Or.inl ⟨rfl, by omega⟩
  · rw [if_neg h]
    have h' : ¬ v.toInt < a.toInt := fun q => h (ni_lt.mpr q)
    by_cases g : b < v
    · rw [if_pos g]; have := ni_lt.mp g; exact Or.inl ⟨rfl, by omega⟩
    · rw [if_neg g]
      have g' : ¬ b.toInt < v.toInt := fun q => g (ni_lt.mpr q)
      exact Or.inr ⟨rfl, by omega, by omega⟩
theorem zc4_v {S : fS} {v : Int32} : (zc4 S v).1 1 1 = S.1 1 1 + 1 + 1 + 1 + 1 := rfl
theorem zm4_v {S : fS} {v : Int32} : (zm4 S v).1 145 1 = S.1 145 1 + 1 + 1 + 1 + 1 := rfl
