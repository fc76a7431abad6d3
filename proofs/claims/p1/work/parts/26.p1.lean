/-! p1: one call on a fresh object -/
theorem op_FU : ∃ m, FU = m + 1 + 1 + 1 + 1 + 1 := ⟨99995, rfl⟩
def op_chk (x : Option (Int32 × fS)) (y : fS → Option (Int32 × fS)) : Bool := match x with
  | some q => match y q.2 with
    | some p => decide (q.1 = p.1)
    | none => false
  | none => false
theorem op_ex {x : Option (Int32 × fS)} {y : fS → Option (Int32 × fS)} (h : op_chk x y = true) : ∃ r S1 S2, x = some (r, S1) ∧ y S1 = some (r, S2) := by
  match x, h with
  | some (r, S1), h =>
    have h : (match y S1 with
      | some p => decide (r = p.1)
      | none => false) = true := h
    match hy : y S1, h with
    | some (r', S2), h =>
      have e : r = r' := of_decide_eq_true h
      exact ⟨r, S1, S2, rfl, by rw [hy, e]⟩
theorem op_isFrom {v : Int32} {S : fS} : f_X10_isFrom v 0 ((0 : Int32) - 1) S = some 0 := by
  unfold f_X10_isFrom
  by_cases h : v < 0
  · rw [if_pos h]
  · rw [if_neg h, if_pos]
    rw [ni_lt] at h ⊢
    rw [ni_0] at h
    show (-1 : Int) < v.toInt
    omega
theorem op_in {v lo hi : Int32} {S : fS} : f_X11_in v.toInt64 lo.toInt64 hi.toInt64 S = f_X10_isFrom v lo hi S := by
  unfold f_X11_in f_X10_isFrom
  simp only [Int32.toInt64_lt]
theorem op_isFloor {v : Int32} : f_X10_isFloor v S00 = some 0 := by
  unfold f_X10_isFloor
  show (f_X10_isFrom v 0 ((0 : Int32) - 1) S00).bind _ = _
  rw [op_isFrom]; rfl
theorem op_isThing {v : Int32} : f_X10_isThing v S00 = some 0 := by
  unfold f_X10_isThing
  show (f_X10_isFrom v 0 ((0 : Int32) - 1) S00).bind _ = _
  rw [op_isFrom]; rfl
theorem op_isStanding {v : Int32} : f_X10_isStanding v S00 = some 0 := by
  unfold f_X10_isStanding
  rw [op_isThing]; rfl
theorem om_isFloor {v : Int32} : f_X11_isFloor v S00 = some 0 := by
  unfold f_X11_isFloor
  by_cases h : v < 0
  · rw [if_pos h]
  · rw [if_neg h]
    show (if (0 : Int32) ≤ v then _ else _) = _
    rw [if_pos (Int32.not_lt.mp h)]
theorem om_isStair {v : Int32} : f_X11_isStair v S00 = some 0 := om_isFloor
theorem om_isThing {v : Int32} : f_X11_isThing v S00 = some 0 := om_isFloor
theorem om_isRule {v : Int32} : f_X11_isRule v S00 = some 0 := by
  unfold f_X11_isRule
  by_cases h : v < 0
  · rw [if_pos h]
  · rw [if_neg h]
    exact if_pos (show (0 : Int32) ≤ v from Int32.not_lt.mp h)
theorem op_from0 {v : Int32} : f_X10_isFrom v 0 ((S00.1 4 7) - 1) S00 = some 0 := op_isFrom
theorem op_from1 {v : Int32} : f_X10_isFrom v 0 ((S00.1 0 10) - 1) S00 = some 0 := op_isFrom
theorem op_from2 {v : Int32} : f_X10_isFrom v 0 ((S00.1 17 4) - 1) S00 = some 0 := op_isFrom
theorem om_in0 {v : Int32} : f_X11_in v.toInt64 0 (Int32.toInt64 ((0 : Int32) - 1)) S00 = some 0 := by
  rw [show (0 : Int64) = Int32.toInt64 0 from rfl, op_in, op_isFrom]
/-! feed -/
def zt (v k : Int32) : Int32 := Int8.toInt32 (Int32.toInt8 (Int8.toInt32 (Int32.toInt8 (v >>> (k &&& 31)))))
def zc (S : fS) (b : Int32) : fS := pI (pI S 2 (S.1 1 1).toNatClampNeg b) 1 1 (S.1 1 1 + 1)
def zm (S : fS) (b : Int32) : fS := pI (pI S 146 (S.1 145 1).toNatClampNeg b) 145 1 (S.1 145 1 + 1)
theorem zc_1 {S : fS} {b : Int32} : (zc S b).1 1 1 = S.1 1 1 + 1 := rfl
theorem zm_1 {S : fS} {b : Int32} : (zm S b).1 145 1 = S.1 145 1 + 1 := rfl
theorem zc_m {S : fS} {b : Int32} : (zc S b).1 145 1 = S.1 145 1 := rfl
theorem op_put1 {v : Int32} {K : fS → Option fS} {n : Nat} {p : Int32} {S : fS} (hp : ¬ p < 0) (h0 : 0 ≤ (S.1 1 1).toInt) (h1 : (S.1 1 1).toInt < 400) : lp_X7_put_3 v K (n + 1) p S = lp_X7_put_3 v K n (p + (-8 : Int32)) (zc S (zt v p)) := by
  have hn := ni_nat h0
  rw [lp_X7_put_3.eq_2, if_neg hp, if_neg (fun h => by have := ni_le.mp h; rw [show (400 : Int32).toInt = 400 from rfl] at this; omega)]
  unfold sI
  rw [if_neg (fun h => by
    rcases h with h | h
    · have := ni_lt.mp h; rw [ni_0] at this; omega
    · omega)]
  rfl
theorem op_four1 {v : Int32} {K : fS → Option fS} {n : Nat} {p : Int32} {S : fS} (hp : ¬ p < 0) (h0 : 0 ≤ (S.1 145 1).toInt) (h1 : (S.1 145 1).toInt < 400) : lp_X11_four_3 v K (n + 1) p S = lp_X11_four_3 v K n (p + (-8 : Int32)) (zm S (zt v p)) := by
  have hn := ni_nat h0
  rw [lp_X11_four_3.eq_2, if_neg hp]
  unfold sI
  rw [if_neg (fun h => by
    rcases h with h | h
    · have := ni_lt.mp h; rw [ni_0] at this; omega
    · omega)]
  rfl
theorem op_inc {a : Int32} (h0 : 0 ≤ a.toInt) (h1 : a.toInt ≤ 100000) : (a + 1).toInt = a.toInt + 1 := ni_add (b := 1) (by show _ ≤ a.toInt + 1; omega) (by show a.toInt + 1 < _; omega)
def zc4 (S : fS) (v : Int32) : fS := zc (zc (zc (zc S (zt v 24)) (zt v 16)) (zt v 8)) (zt v 0)
def zm4 (S : fS) (v : Int32) : fS := zm (zm (zm (zm S (zt v 24)) (zt v 16)) (zt v 8)) (zt v 0)
theorem op_put {v : Int32} {S : fS} (h0 : 0 ≤ (S.1 1 1).toInt) (h1 : (S.1 1 1).toInt ≤ 396) : f_X7_put v S = some (zc4 S v) := by
  obtain ⟨m, hm⟩ := op_FU
  unfold f_X7_put
  rw [hm]
  have a1 := op_inc h0 (by omega)
  have a2 := op_inc (a := S.1 1 1 + 1) (by omega) (by omega)
  have a3 := op_inc (a := S.1 1 1 + 1 + 1) (by omega) (by omega)
  rw [op_put1 (by decide) h0 (by omega)]
  rw [op_put1 (by decide) (by rw [zc_1]; omega) (by rw [zc_1]; omega)]
  rw [op_put1 (by decide) (by rw [zc_1, zc_1]; omega) (by rw [zc_1, zc_1]; omega)]
  rw [op_put1 (by decide) (by rw [zc_1, zc_1, zc_1]; omega) (by rw [zc_1, zc_1, zc_1]; omega)]
  rw [lp_X7_put_3.eq_2, if_pos (by decide)]
  rfl
theorem op_four {v : Int32} {S : fS} (h0 : 0 ≤ (S.1 145 1).toInt) (h1 : (S.1 145 1).toInt ≤ 396) : f_X11_four v S = some (zm4 S v) := by
  obtain ⟨m, hm⟩ := op_FU
  unfold f_X11_four
  rw [hm]
  have a1 := op_inc h0 (by omega)
  have a2 := op_inc (a := S.1 145 1 + 1) (by omega) (by omega)
  have a3 := op_inc (a := S.1 145 1 + 1 + 1) (by omega) (by omega)
  rw [op_four1 (by decide) h0 (by omega)]
  rw [op_four1 (by decide) (by rw [zm_1]; omega) (by rw [zm_1]; omega)]
  rw [op_four1 (by decide) (by rw [zm_1, zm_1]; omega) (by rw [zm_1, zm_1]; omega)]
  rw [op_four1 (by decide) (by rw [zm_1, zm_1, zm_1]; omega) (by rw [zm_1, zm_1, zm_1]; omega)]
  rw [lp_X11_four_3.eq_2, if_pos (by decide)]
  rfl
theorem zc4_1 {S : fS} {v : Int32} (h0 : 0 ≤ (S.1 1 1).toInt) (h1 : (S.1 1 1).toInt ≤ 99990) : ((zc4 S v).1 1 1).toInt = (S.1 1 1).toInt + 4 := by
  have a1 := op_inc h0 (by omega)
  have a2 := op_inc (a := S.1 1 1 + 1) (by omega) (by omega)
  have a3 := op_inc (a := S.1 1 1 + 1 + 1) (by omega) (by omega)
  have a4 := op_inc (a := S.1 1 1 + 1 + 1 + 1) (by omega) (by omega)
  show (S.1 1 1 + 1 + 1 + 1 + 1).toInt = _
  omega
theorem zm4_1 {S : fS} {v : Int32} (h0 : 0 ≤ (S.1 145 1).toInt) (h1 : (S.1 145 1).toInt ≤ 99990) : ((zm4 S v).1 145 1).toInt = (S.1 145 1).toInt + 4 := by
  have a1 := op_inc h0 (by omega)
  have a2 := op_inc (a := S.1 145 1 + 1) (by omega) (by omega)
  have a3 := op_inc (a := S.1 145 1 + 1 + 1) (by omega) (by omega)
  have a4 := op_inc (a := S.1 145 1 + 1 + 1 + 1) (by omega) (by omega)
  show (S.1 145 1 + 1 + 1 + 1 + 1).toInt = _
  omega
theorem zc4_m {S : fS} {v : Int32} : (zc4 S v).1 145 1 = S.1 145 1 := rfl
theorem op_feed {a b c d e : Int32} {S : fS} (h0 : 0 ≤ (S.1 1 1).toInt) (h1 : (S.1 1 1).toInt ≤ 380) : f_X10_feed a b c d e S = some ((zc4 (zc4 (zc4 (zc4 (zc4 S a) b) c) d) e).1 1 1, zc4 (zc4 (zc4 (zc4 (zc4 S a) b) c) d) e) := by
  unfold f_X10_feed
  have x1 := zc4_1 (v := a) h0 (by omega)
  have x2 := zc4_1 (S := zc4 S a) (v := b) (by omega) (by omega)
  have x3 := zc4_1 (S := zc4 (zc4 S a) b) (v := c) (by omega) (by omega)
  have x4 := zc4_1 (S := zc4 (zc4 (zc4 S a) b) c) (v := d) (by omega) (by omega)
  rw [if_pos (ni_le.mpr (by rw [ni_add (b := 20) (by show _ ≤ _ + (20 : Int); omega) (by show _ + (20 : Int) < _; omega)]; show _ + (20 : Int) ≤ 400; omega))]
  rw [op_put h0 (by omega), Option.bind_some, op_put (by omega) (by omega), Option.bind_some, op_put (by omega) (by omega), Option.bind_some, op_put (by omega) (by omega), Option.bind_some, op_put (by omega) (by omega), Option.bind_some]
theorem om_feed {a b c d e : Int32} {S : fS} (h0 : 0 ≤ (S.1 145 1).toInt) (h1 : (S.1 145 1).toInt ≤ 380) : f_X11_feed a b c d e S = some ((zm4 (zm4 (zm4 (zm4 (zm4 S a) b) c) d) e).1 145 1, zm4 (zm4 (zm4 (zm4 (zm4 S a) b) c) d) e) := by
  unfold f_X11_feed
  have x1 := zm4_1 (v := a) h0 (by omega)
  have x2 := zm4_1 (S := zm4 S a) (v := b) (by omega) (by omega)
  have x3 := zm4_1 (S := zm4 (zm4 S a) b) (v := c) (by omega) (by omega)
  have x4 := zm4_1 (S := zm4 (zm4 (zm4 S a) b) c) (v := d) (by omega) (by omega)
  rw [if_pos (ni_le.mpr (by rw [ni_add (b := 20) (by show _ ≤ _ + (20 : Int); omega) (by show _ + (20 : Int) < _; omega)]; show _ + (20 : Int) ≤ 400; omega))]
  rw [op_four h0 (by omega), Option.bind_some, op_four (by omega) (by omega), Option.bind_some, op_four (by omega) (by omega), Option.bind_some, op_four (by omega) (by omega), Option.bind_some, op_four (by omega) (by omega), Option.bind_some]
/-! tick -/
theorem op_pass {S : fS} (h : S.1 11 5 = 0) : f_X0_passHour 11 4 S = some (pI S 11 6 (S.1 11 6 + 1)) := by
  obtain ⟨m, hm⟩ := op_FU
  unfold f_X0_passHour
  rw [hm, lp_X0_passHour_2.eq_2, if_pos (by rw [h]; decide)]
  rfl
theorem op_live {v2 : Int32} (hv : v2.toInt ≤ 200) : ∀ (n : Nat) (p4 : Int32) (S : fS), S.1 11 5 = 0 → 0 ≤ p4.toInt → p4.toInt ≤ v2.toInt → v2.toInt - p4.toInt < n →
    ∃ S', lp_X0_live_3 11 4 none v2 (fun S12 => some S12) n p4 S = some S' ∧ S'.1 11 6 = S.1 11 6 + (v2 - p4) ∧ ∀ a, a ≠ 11 → S'.1 a = S.1 a := by
  intro n
  induction n with
  | zero => intro p4 S _ _ _ h; exfalso; omega
  | succ n ih =>
    intro p4 S h5 h0 h1 h2
    rw [lp_X0_live_3.eq_2]
    by_cases hc : v2 ≤ p4
    · rw [if_pos hc]
      have e : v2 = p4 := ni_eq.mpr (by have := ni_le.mp hc; omega)
      exact ⟨S, rfl, by rw [e, Int32.sub_self, Int32.add_zero], fun _ _ => rfl⟩
    · rw [if_neg hc]
      have hlt : p4.toInt < v2.toInt := by
        have : ¬ v2.toInt ≤ p4.toInt := fun q => hc (ni_le.mpr q)
        omega
      have ei := op_inc h0 (by omega)
      show ∃ S', (f_X0_passHour 11 4 S).bind (fun q3 => lp_X0_live_3 11 4 none v2 (fun S12 => some S12) n (p4 + (1 : Int32)) q3) = some S' ∧ _
      rw [op_pass h5, Option.bind_some]
      obtain ⟨S', g1, g2, g3⟩ := ih (p4 + 1) (pI S 11 6 (S.1 11 6 + 1)) h5 (by omega) (by omega) (by omega)
      refine ⟨S', g1, ?_, fun a ha => ?_⟩
      · rw [g2]
        show S.1 11 6 + 1 + (v2 - (p4 + 1)) = _
        grind
      · rw [g3 a ha]
        show mm_up S.1 11 6 _ a = _
        unfold mm_up
        rw [if_neg ha]
theorem om_hour {S : fS} (h : S.1 157 2 = 0) : f_X11_hour (-1) S = some (pI S 157 3 (S.1 157 3 + 1)) := by
  obtain ⟨m, hm⟩ := op_FU
  unfold f_X11_hour
  rw [hm, lp_X11_hour_2.eq_2]
  show (if S.1 157 2 ≤ 0 then _ else _) = _
  rw [if_pos (by rw [h]; decide)]
  unfold f_X11_ageAll
  rw [hm, lp_X11_ageAll_2.eq_2]
  show Option.bind (if S.1 157 2 ≤ 0 then _ else _) _ = _
  rw [if_pos (by rw [h]; decide)]
  rfl
theorem om_tick {v2 : Int32} {K : fS → Option (Int32 × fS)} (hv : v2.toInt ≤ 200) : ∀ (n : Nat) (p4 : Int32) (S : fS), S.1 157 2 = 0 → 0 ≤ p4.toInt → p4.toInt ≤ v2.toInt → v2.toInt - p4.toInt < n →
    ∃ S', lp_X11_tick_43 (-1) v2 K n p4 S = K S' ∧ S'.1 157 3 = S.1 157 3 + (v2 - p4) := by
  intro n
  induction n with
  | zero => intro p4 S _ _ _ h; exfalso; omega
  | succ n ih =>
    intro p4 S h5 h0 h1 h2
    rw [lp_X11_tick_43.eq_2]
    by_cases hc : v2 ≤ p4
    · rw [if_pos hc]
      have e : v2 = p4 := ni_eq.mpr (by have := ni_le.mp hc; omega)
      exact ⟨S, rfl, by rw [e, Int32.sub_self, Int32.add_zero]⟩
    · rw [if_neg hc]
      have hlt : p4.toInt < v2.toInt := by
        have : ¬ v2.toInt ≤ p4.toInt := fun q => hc (ni_le.mpr q)
        omega
      have ei := op_inc h0 (by omega)
      rw [om_hour h5, Option.bind_some]
      obtain ⟨S', g1, g2⟩ := ih (p4 + 1) (pI S 157 3 (S.1 157 3 + 1)) h5 (by omega) (by omega) (by omega)
      refine ⟨S', g1, ?_⟩
      rw [g2]
      show S.1 157 3 + 1 + (v2 - (p4 + 1)) = _
      grind
theorem op_isFrom01 {v a b : Int32} {S : fS} : (f_X10_isFrom v a b S = some 0 ∧ ¬ (a.toInt ≤ v.toInt ∧ v.toInt ≤ b.toInt)) ∨ (f_X10_isFrom v a b S = some 1 ∧ a.toInt ≤ v.toInt ∧ v.toInt ≤ b.toInt) := by
  unfold f_X10_isFrom
  by_cases h : v < a
  · rw [if_pos h]; have := ni_lt.mp h; exact Or.inl ⟨rfl, by omega⟩
  · rw [if_neg h]
    have h' : ¬ v.toInt < a.toInt := fun q => h (ni_lt.mpr q)
    by_cases g : b < v
    · rw [if_pos g]; have := ni_lt.mp g; exact Or.inl ⟨rfl, by omega⟩
    · rw [if_neg g]
      have g' : ¬ b.toInt < v.toInt := fun q => g (ni_lt.mpr q)
      exact Or.inr ⟨rfl, by omega, by omega⟩
def P0 (S : fS) : Prop := S = S00
def Q0 (_ : fS) : Prop := True
theorem p1_10 : H_10 P0 Q0 := by
  intro a1 a2 S hS
  cases (show S = S00 from hS)
  unfold f_X10_tick f_X11_tick
  by_cases hr : a1 = -1
  · cases hr
    rw [show f_X10_isRuleOrNone (-1) S00 = some 1 from rfl, Option.bind_some, if_neg (by decide)]
    simp only [if_pos]
    rw [show (1 : Int64) = Int32.toInt64 1 from rfl, show (200 : Int64) = Int32.toInt64 200 from rfl]
    rcases op_isFrom01 (v := a2) (a := 1) (b := 200) (S := S00) with ⟨h, -⟩ | ⟨h, h1, h2⟩
    · rw [h]
      exact ⟨-1, S00, S00, rfl, by rw [op_in, h]; rfl, trivial⟩
    · rw [h, Option.bind_some, if_neg (by decide)]
      have h1 : 1 ≤ a2.toInt := h1
      have h2 : a2.toInt ≤ 200 := h2
      have hs : (0 : Int32) + a2 ≤ 9999 := by rw [Int32.zero_add, ni_le]; show _ ≤ (9999 : Int); omega
      rw [show S00.1 11 6 + a2 = 0 + a2 from rfl, if_pos hs]
      rw [show f_X10_ruleOrNull (-1) S00 = some none from rfl, Option.bind_some]
      obtain ⟨S1, g1, g2, g3⟩ := op_live h2 FU 0 S00 rfl (by decide) (by show (0 : Int) ≤ _; omega) (by show _ - (0 : Int) < (100000 : Int); omega)
      unfold f_X0_live
      rw [g1, Option.bind_some]
      refine ⟨S1.1 11 6, S1, ?_⟩
      rw [op_in, show f_X10_isFrom a2 1 200 S1 = f_X10_isFrom a2 1 200 S00 from rfl, h, Option.bind_some, if_neg (by decide)]
      have e157 : S1.1 157 = S00.1 157 := g3 157 (by decide)
      have e3 : S1.1 157 3 = 0 := by rw [e157]; rfl
      rw [show gI S1 157 158 3 = some (S1.1 157 3) from rfl, Option.bind_some, e3, if_pos hs]
      obtain ⟨S2, k1, k2⟩ := om_tick (K := fun S14 => (gI S14 157 158 (3 : Int32)).bind fun a16 => some (a16, S14)) h2 FU 0 S1 (by rw [e157]; rfl) (by decide) (by show (0 : Int) ≤ _; omega) (by show _ - (0 : Int) < (100000 : Int); omega)
      refine ⟨S2, rfl, ?_, trivial⟩
      rw [k1]
      show some (S2.1 157 3, S2) = _
      rw [k2, g2, e3]
      rfl
  · have hR : f_X10_isRuleOrNone a1 S00 = some 0 := by
      unfold f_X10_isRuleOrNone
      rcases op_isFrom01 (v := a1) (a := -1) (b := S00.1 0 10 - 1) (S := S00) with ⟨h, -⟩ | ⟨h, h1, h2⟩
      · rw [h]; rfl
      · exact absurd (ni_eq.mpr (by have h1 : (-1 : Int) ≤ _ := h1; have h2 : _ ≤ (-1 : Int) := h2; show _ = (-1 : Int); omega)) hr
    rw [hR]
    exact ⟨-1, S00, S00, rfl, by rw [if_neg hr, om_isRule]; rfl, trivial⟩
theorem zc4_v {S : fS} {v : Int32} : (zc4 S v).1 1 1 = S.1 1 1 + 1 + 1 + 1 + 1 := rfl
theorem zm4_v {S : fS} {v : Int32} : (zm4 S v).1 145 1 = S.1 145 1 + 1 + 1 + 1 + 1 := rfl
theorem p1_0 : H_0 P0 Q0 := by
  intro a b c d e S hS
  cases (show S = S00 from hS)
  have em : (zc4 (zc4 (zc4 (zc4 (zc4 S00 a) b) c) d) e).1 145 1 = S00.1 145 1 := by rw [zc4_m, zc4_m, zc4_m, zc4_m, zc4_m]
  have ec : (zm4 (zm4 (zm4 (zm4 (zm4 (zc4 (zc4 (zc4 (zc4 (zc4 S00 a) b) c) d) e) a) b) c) d) e).1 145 1 = (zc4 (zc4 (zc4 (zc4 (zc4 S00 a) b) c) d) e).1 1 1 := by
    rw [zm4_v, zm4_v, zm4_v, zm4_v, zm4_v, em, zc4_v, zc4_v, zc4_v, zc4_v, zc4_v]
    rfl
  refine ⟨_, _, zm4 (zm4 (zm4 (zm4 (zm4 (zc4 (zc4 (zc4 (zc4 (zc4 S00 a) b) c) d) e) a) b) c) d) e, op_feed (by decide) (by decide), ?_, trivial⟩
  rw [om_feed (by rw [em]; decide) (by rw [em]; decide), ec]
theorem p1_1 : H_1 P0 Q0 := by
  intro a1 S hS
  cases (show S = S00 from hS)
  unfold f_X10_end f_X11_end
  rcases op_isFrom01 (v := a1) (a := 0) (b := S00.1 1 1) (S := S00) with ⟨h, h1⟩ | ⟨h, h1, h2⟩
  · rw [h]
    refine ⟨-1, S00, S00, rfl, ?_, trivial⟩
    by_cases hl : a1 < 0
    · rw [if_pos hl]
    · rw [if_neg hl, if_neg]
      intro h3
      have h3 : a1.toInt ≤ 0 := ni_le.mp h3
      have hl : ¬ a1.toInt < 0 := fun q => hl (ni_lt.mpr q)
      exact h1 ⟨by show (0 : Int) ≤ _; omega, h3⟩
  · rw [h]
    have h1 : 0 ≤ a1.toInt := h1
    have h2 : a1.toInt ≤ 0 := h2
    refine ⟨a1, pI S00 1 1 a1, pI (pI S00 1 1 a1) 145 1 a1, rfl, ?_, trivial⟩
    rw [if_neg (fun q => by have q : a1.toInt < 0 := ni_lt.mp q; omega), if_pos (ni_le.mpr (by show _ ≤ (0 : Int); omega))]
    rfl
set_option maxRecDepth 100000 in
theorem p1_t : op_chk (f_X10_tower S00) f_X11_tower = true := by decide +kernel
set_option maxRecDepth 100000 in
theorem p1_r : op_chk (f_X10_rule S00) f_X11_rule = true := by decide +kernel
theorem p1_2 : H_2 P0 Q0 := by
  intro S hS
  cases (show S = S00 from hS)
  obtain ⟨r, S1, S2, h1, h2⟩ := op_ex p1_t
  exact ⟨r, S1, S2, h1, h2, trivial⟩
theorem p1_3 : H_3 P0 Q0 := by
  intro S hS
  cases (show S = S00 from hS)
  obtain ⟨r, S1, S2, h1, h2⟩ := op_ex p1_r
  exact ⟨r, S1, S2, h1, h2, trivial⟩
set_option maxRecDepth 100000 in
theorem p1_im : op_chk (f_X10_image 0 S00) (f_X11_image 0) = true ∧ op_chk (f_X10_image 1 S00) (f_X11_image 1) = true ∧ op_chk (f_X10_image 2 S00) (f_X11_image 2) = true ∧ op_chk (f_X10_image 3 S00) (f_X11_image 3) = true := by decide +kernel
theorem p1_four {v : Int32} (h1 : 0 ≤ v.toInt) (h2 : v.toInt ≤ 3) : v = 0 ∨ v = 1 ∨ v = 2 ∨ v = 3 := by
  have : v.toInt = 0 ∨ v.toInt = 1 ∨ v.toInt = 2 ∨ v.toInt = 3 := by omega
  rcases this with h | h | h | h
  · exact Or.inl (ni_eq.mpr h)
  · exact Or.inr (Or.inl (ni_eq.mpr h))
  · exact Or.inr (Or.inr (Or.inl (ni_eq.mpr h)))
  · exact Or.inr (Or.inr (Or.inr (ni_eq.mpr h)))
theorem p1_35 : H_35 P0 Q0 := by
  intro a1 S hS
  cases (show S = S00 from hS)
  rcases op_isFrom01 (v := a1) (a := 0) (b := 3) (S := S00) with ⟨h, h1⟩ | ⟨h, h1, h2⟩
  · refine ⟨-1, S00, S00, ?_, ?_, trivial⟩
    · unfold f_X10_image; rw [h]; rfl
    · unfold f_X11_image; rw [show (0 : Int64) = Int32.toInt64 0 from rfl, show (3 : Int64) = Int32.toInt64 3 from rfl, op_in, h]; rfl
  · have hx : op_chk (f_X10_image a1 S00) (f_X11_image a1) = true := by
      rcases p1_four h1 h2 with h | h | h | h
      · rw [h]; exact p1_im.1
      · rw [h]; exact p1_im.2.1
      · rw [h]; exact p1_im.2.2.1
      · rw [h]; exact p1_im.2.2.2
    obtain ⟨r, S1, S2, h1, h2⟩ := op_ex hx
    exact ⟨r, S1, S2, h1, h2, trivial⟩
theorem p1_36 : H_36 P0 Q0 := by
  intro a1 S hS
  cases (show S = S00 from hS)
  unfold f_X10_back f_X11_back
  rcases op_isFrom01 (v := a1) (a := 0) (b := 3) (S := S00) with ⟨h, h1⟩ | ⟨h, h1, h2⟩
  · refine ⟨-1, S00, S00, ?_, ?_, trivial⟩
    · rw [h]; rfl
    · rw [show (0 : Int64) = Int32.toInt64 0 from rfl, show (3 : Int64) = Int32.toInt64 3 from rfl, op_in, h]; rfl
  · refine ⟨-1, S00, S00, ?_, ?_, trivial⟩
    · rw [h]
      rcases p1_four h1 h2 with h | h | h | h <;> (rw [h]; rfl)
    · rw [show (0 : Int64) = Int32.toInt64 0 from rfl, show (3 : Int64) = Int32.toInt64 3 from rfl, op_in, h]
      rcases p1_four h1 h2 with h | h | h | h <;> (rw [h]; rfl)
theorem p1_26 : H_26 P0 Q0 := by
  intro S hS
  cases (show S = S00 from hS)
  obtain ⟨m, hm⟩ := op_FU
  refine ⟨0, S00, ?_, ?_, trivial⟩
  · unfold f_X10_needed; rw [hm, lp_X10_needed_4.eq_2]; rfl
  · unfold f_X11_needed; rw [hm, lp_X11_needed_4.eq_2]; rfl
theorem p1_30 : H_30 P0 Q0 := by
  intro S hS
  cases (show S = S00 from hS)
  obtain ⟨m, hm⟩ := op_FU
  refine ⟨0, ?_, ?_, trivial⟩
  · unfold f_X10_crossed; rw [hm, lp_X10_crossed_4.eq_2]; rfl
  · unfold f_X11_crossed; rw [hm, lp_X11_crossed_4.eq_2]; rfl
theorem p1_27 : H_27 P0 Q0 := by
  intro a1 a2 a3 S hS
  cases (show S = S00 from hS)
  refine ⟨-1, S00, S00, ?_, ?_, trivial⟩
  · unfold f_X10_elder f_X10_isRuleOrNone
    rcases op_isFrom01 (v := a1) (a := -1) (b := S00.1 0 10 - 1) (S := S00) with ⟨h, -⟩ | ⟨h, -⟩
    · rw [h]; rfl
    · rw [h]
      rcases op_isFrom01 (v := a2) (a := 0) (b := 200) (S := S00) with ⟨g, -⟩ | ⟨g, -⟩
      · rw [g]; rfl
      · rw [g]; rfl
  · unfold f_X11_elder
    rw [om_isRule]
    rw [show (0 : Int64) = Int32.toInt64 0 from rfl, show (200 : Int64) = Int32.toInt64 200 from rfl, show (3 : Int64) = Int32.toInt64 3 from rfl, op_in, op_in]
    by_cases hr : a1 = -1
    · rw [if_pos hr]
      rcases op_isFrom01 (v := a2) (a := 0) (b := 200) (S := S00) with ⟨g, -⟩ | ⟨g, -⟩
      · rw [g]; rfl
      · rw [g]
        rcases op_isFrom01 (v := a3) (a := 0) (b := 3) (S := S00) with ⟨g, -⟩ | ⟨g, -⟩
        · rw [g]; rfl
        · rw [g]; rfl
    · rw [if_neg hr]; rfl
theorem p1_28 : H_28 P0 Q0 := by
  intro a1 a2 a3 S hS
  cases (show S = S00 from hS)
  unfold f_X10_letter f_X11_letter
  by_cases h : a1 = -1
  · simp only [if_pos h]
    exact ⟨0, _, _, rfl, rfl, trivial⟩
  · simp only [if_neg h]
    rw [op_isFloor]
    refine ⟨-2, S00, S00, rfl, ?_, trivial⟩
    rw [om_isFloor]; rfl
theorem p1_32 : H_32 P0 Q0 := by
  intro a1 S hS
  cases (show S = S00 from hS)
  unfold f_X10_seed f_X11_seed
  by_cases h : (0 : Int32) ≤ a1
  · simp only [if_pos h]
    exact ⟨0, _, _, rfl, rfl, trivial⟩
  · simp only [if_neg h]
    exact ⟨-1, _, _, rfl, rfl, trivial⟩
set_option maxRecDepth 100000 in
theorem p1_c6 : f_X10_count 6 S00 = some 0 ∧ f_X11_count 6 S00 = some 0 ∧ f_X10_count 7 S00 = some 0 ∧ f_X11_count 7 S00 = some 0 := by decide +kernel
theorem p1_34 : H_34 P0 Q0 := by
  intro a1 S hS
  cases (show S = S00 from hS)
  by_cases h6 : a1 = 6
  · exact ⟨0, by rw [h6]; exact p1_c6.1, by rw [h6]; exact p1_c6.2.1, trivial⟩
  by_cases h7 : a1 = 7
  · exact ⟨0, by rw [h7]; exact p1_c6.2.2.1, by rw [h7]; exact p1_c6.2.2.2, trivial⟩
  unfold f_X10_count f_X11_count
  by_cases h0 : a1 = 0
  · rw [h0]; exact ⟨0, rfl, rfl, trivial⟩
  by_cases h1 : a1 = 1
  · rw [h1]; exact ⟨0, rfl, rfl, trivial⟩
  by_cases h2 : a1 = 2
  · rw [h2]; exact ⟨0, rfl, rfl, trivial⟩
  by_cases h3 : a1 = 3
  · rw [h3]; exact ⟨0, rfl, rfl, trivial⟩
  by_cases h4 : a1 = 4
  · rw [h4]; exact ⟨0, rfl, rfl, trivial⟩
  by_cases h5 : a1 = 5
  · rw [h5]; exact ⟨0, rfl, rfl, trivial⟩
  by_cases h8 : a1 = 8
  · rw [h8]; exact ⟨0, rfl, rfl, trivial⟩
  by_cases h9 : a1 = 9
  · rw [h9]; exact ⟨0, rfl, rfl, trivial⟩
  simp only [if_neg h0, if_neg h1, if_neg h2, if_neg h3, if_neg h4, if_neg h5, if_neg h6, if_neg h7, if_neg h8, if_neg h9]
  exact ⟨-1, rfl, rfl, trivial⟩
theorem p1_4 : H_4 P0 Q0 := by
  intro a1 a2 S hS
  cases (show S = S00 from hS)
  exact ⟨-1, by unfold f_X10_floor; rw [op_isFloor]; rfl, by unfold f_X11_floor; rw [om_isFloor]; rfl, trivial⟩
theorem p1_5 : H_5 P0 Q0 := by
  intro a1 a2 S hS
  cases (show S = S00 from hS)
  exact ⟨-1, by unfold f_X10_stair; rw [op_from0]; rfl, by unfold f_X11_stair; rw [om_isStair]; rfl, trivial⟩
theorem p1_6 : H_6 P0 Q0 := by
  intro a1 a2 S hS
  cases (show S = S00 from hS)
  exact ⟨-2, by unfold f_X10_thing; rw [op_isThing]; rfl, by unfold f_X11_thing; rw [om_isThing]; rfl, trivial⟩
theorem p1_7 : H_7 P0 Q0 := by
  intro a1 a2 S hS
  cases (show S = S00 from hS)
  exact ⟨-1, by unfold f_X10_age; rw [op_isThing]; rfl, by unfold f_X11_age; rw [om_isThing]; rfl, trivial⟩
theorem p1_8 : H_8 P0 Q0 := by
  intro a1 a2 S hS
  cases (show S = S00 from hS)
  exact ⟨-2, by unfold f_X10_older; rw [op_isThing]; rfl, by unfold f_X11_older; rw [om_isThing]; rfl, trivial⟩
theorem p1_9 : H_9 P0 Q0 := by
  intro a1 a2 S hS
  cases (show S = S00 from hS)
  exact ⟨0, S00, S00, by unfold f_X10_go; rw [op_isStanding]; rfl, by unfold f_X11_go; rw [om_isThing]; rfl, trivial⟩
theorem p1_11 : H_11 P0 Q0 := by
  intro a1 a2 a3 a4 S hS
  cases (show S = S00 from hS)
  exact ⟨-1, S00, S00, by unfold f_X10_ahead; rw [op_from1]; rfl, by unfold f_X11_ahead; rw [om_isRule]; rfl, trivial⟩
theorem p1_12 : H_12 P0 Q0 := by
  intro a1 a2 S hS
  cases (show S = S00 from hS)
  exact ⟨-1, by unfold f_X10_far; rw [op_isFloor]; rfl, by unfold f_X11_far; rw [om_isFloor]; rfl, trivial⟩
theorem p1_13 : H_13 P0 Q0 := by
  intro a1 a2 S hS
  cases (show S = S00 from hS)
  exact ⟨-1, by unfold f_X10_next; rw [op_isFloor]; rfl, by unfold f_X11_next; rw [om_isFloor]; rfl, trivial⟩
theorem p1_14 : H_14 P0 Q0 := by
  intro a1 a2 a3 S hS
  cases (show S = S00 from hS)
  exact ⟨-1, by unfold f_X10_clock; rw [op_isFloor]; rfl, by unfold f_X11_clock; rw [om_isFloor]; rfl, trivial⟩
theorem p1_15 : H_15 P0 Q0 := by
  intro a1 a2 a3 S hS
  cases (show S = S00 from hS)
  exact ⟨-1, by unfold f_X10_noons; rw [op_isFloor]; rfl, by unfold f_X11_noons; rw [om_isFloor]; rfl, trivial⟩
theorem p1_16 : H_16 P0 Q0 := by
  intro a1 a2 a3 a4 a5 S hS hb
  cases (show S = S00 from hS)
  exact ⟨-1, S00, S00, by unfold f_X10_plan; rw [op_isStanding]; rfl, by unfold f_X11_plan; rw [om_isThing]; rfl, trivial⟩
theorem p1_17 : H_17 P0 Q0 := by
  intro a1 a2 a3 a4 a5 S hS
  cases (show S = S00 from hS)
  exact ⟨-1, by unfold f_X10_even; rw [op_isThing]; rfl, by unfold f_X11_even; rw [om_isThing]; rfl, trivial⟩
theorem p1_18 : H_18 P0 Q0 := by
  intro a1 a2 a3 a4 a5 S hS
  cases (show S = S00 from hS)
  exact ⟨-1, S00, S00, by unfold f_X10_ripe; rw [op_isFloor]; rfl, by unfold f_X11_ripe; rw [om_isFloor]; rfl, trivial⟩
theorem p1_19 : H_19 P0 Q0 := by
  intro a1 a2 a3 a4 a5 S hS
  cases (show S = S00 from hS)
  exact ⟨-1, by unfold f_X10_owed; rw [op_isFloor]; rfl, by unfold f_X11_owed; rw [om_isFloor]; rfl, trivial⟩
theorem p1_20 : H_20 P0 Q0 := by
  intro a1 a2 a3 a4 S hS
  cases (show S = S00 from hS)
  exact ⟨-1, by unfold f_X10_hands; rw [op_isFloor]; rfl, by unfold f_X11_hands; rw [om_isFloor]; rfl, trivial⟩
theorem p1_21 : H_21 P0 Q0 := by
  intro a1 a2 a3 S hS hb
  cases (show S = S00 from hS)
  exact ⟨-1, S00, S00, by unfold f_X10_waiting; rw [op_isStanding]; rfl, by unfold f_X11_waiting; rw [om_isThing]; rfl, trivial⟩
theorem p1_22 : H_22 P0 Q0 := by
  intro a1 a2 a3 a4 S hS
  cases (show S = S00 from hS)
  exact ⟨-1, by unfold f_X10_when; rw [op_isThing]; rfl, by unfold f_X11_when; rw [om_isThing]; rfl, trivial⟩
theorem p1_23 : H_23 P0 Q0 := by
  intro a1 a2 a3 S hS
  cases (show S = S00 from hS)
  exact ⟨-1, by unfold f_X10_shown; rw [op_isFloor]; rfl, by unfold f_X11_shown; rw [om_isFloor]; rfl, trivial⟩
theorem p1_24 : H_24 P0 Q0 := by
  intro a1 a2 a3 S hS
  cases (show S = S00 from hS)
  exact ⟨-1, by unfold f_X10_noonsIn; rw [op_isFloor]; rfl, by unfold f_X11_noonsIn; rw [om_isFloor]; rfl, trivial⟩
theorem p1_25 : H_25 P0 Q0 := by
  intro a1 a2 S hS
  cases (show S = S00 from hS)
  exact ⟨-1, by unfold f_X10_due; rw [op_isFloor]; rfl, by unfold f_X11_due; rw [om_isFloor]; rfl, trivial⟩
theorem p1_29 : H_29 P0 Q0 := by
  intro a1 a2 S hS
  cases (show S = S00 from hS)
  refine ⟨-1, by unfold f_X10_letters; rw [op_from2]; rfl, ?_, trivial⟩
  unfold f_X11_letters
  show (f_X11_in a1.toInt64 0 (Int32.toInt64 ((0 : Int32) - 1)) S00).bind _ = _
  rw [om_in0]; rfl
theorem p1_31 : H_31 P0 Q0 := by
  intro a1 S hS
  cases (show S = S00 from hS)
  refine ⟨-1, by unfold f_X10_order; rw [op_from2]; rfl, ?_, trivial⟩
  unfold f_X11_order
  show (f_X11_in a1.toInt64 0 (Int32.toInt64 ((0 : Int32) - 1)) S00).bind _ = _
  rw [om_in0]; rfl
theorem p1_33 : H_33 P0 Q0 := by
  intro a1 a2 a3 a4 a5 S hS
  cases (show S = S00 from hS)
  exact ⟨-1, S00, S00, by unfold f_X10_meetings; rw [op_isThing]; rfl, by unfold f_X11_meetings; rw [om_isThing]; rfl, trivial⟩
theorem p1_all : HH P0 Q0 := ⟨p1_0, p1_1, p1_2, p1_3, p1_4, p1_5, p1_6, p1_7, p1_8, p1_9, p1_10, p1_11, p1_12, p1_13, p1_14, p1_15, p1_16, p1_17, p1_18, p1_19, p1_20, p1_21, p1_22, p1_23, p1_24, p1_25, p1_26, p1_27, p1_28, p1_29, p1_30, p1_31, p1_32, p1_33, p1_34, p1_35, p1_36⟩
theorem p1_law {X : mm_C} (h : X.1 ≤ 6) : mm_Law X := by
  have hFU : FU = 99998 + 1 + 1 := rfl
  by_cases h6 : X.1 = 6
  · obtain ⟨S', -, e⟩ := law_it (X := X) (K := fun S => some (1, S)) (n := 99998 + 1) p1_all (fun _ _ => trivial) (show P0 S00 from rfl) (p3 := 0) (by decide) (by rw [h6]; decide) (by omega)
    refine mm_law_of (S := S') (by omega) ?_
    rw [hFU, e, law_end (by rw [h6]; decide) (by omega)]
  · refine mm_law_of (S := S00) (by omega) ?_
    rw [hFU, law_end (by show (X.1 : Int) < 0 + 6; omega) (by omega)]
