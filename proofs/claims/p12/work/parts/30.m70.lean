section
/-! noonsIn, even -/
def nu (N D : Nat) : Nat := if 12 * D ≤ N then (N - 12 * D) / (24 * D) + 1 else 0
theorem nu_sc {N D z : Nat} (hz : 0 < z) : nu (N * z) (D * z) = nu N D := by
  unfold nu
  rw [← Nat.mul_assoc, ← Nat.mul_assoc]
  by_cases h : 12 * D ≤ N
  · rw [if_pos h, if_pos (Nat.mul_le_mul_right z h), ← Nat.sub_mul, Nat.mul_div_mul_right _ _ hz]
  · rw [if_neg h, if_neg (fun q => h (Nat.le_of_mul_le_mul_right q hz))]
theorem nu_sc1 {N D z : Nat} (hz : 0 < z) (hN : 0 < N) : nu (N * z - 1) (D * z) = nu (N - 1) D := by
  unfold nu
  rw [← Nat.mul_assoc, ← Nat.mul_assoc]
  have h3 : 1 * z ≤ N * z := Nat.mul_le_mul_right z hN
  by_cases h : 12 * D ≤ N - 1
  · have h1 : (12 * D + 1) * z ≤ N * z := Nat.mul_le_mul_right z (by omega)
    have h2 : (12 * D + 1) * z = 12 * D * z + z := Nat.succ_mul _ _
    rw [if_pos h, if_pos (by omega)]
    have e : N * z - 1 - 12 * D * z = (z - 1) + (N - 1 - 12 * D) * z := by
      have h4 : (N - 1 - 12 * D) * z = N * z - (12 * D + 1) * z := by rw [show N - 1 - 12 * D = N - (12 * D + 1) by omega, Nat.sub_mul]
      omega
    rw [e, Nat.mul_comm (24 * D) z, ← Nat.div_div_eq_div_mul, Nat.add_mul_div_right _ _ hz, show (z - 1) / z = 0 from Nat.div_eq_of_lt (by omega), Nat.zero_add]
  · have h1 : N * z ≤ 12 * D * z := Nat.mul_le_mul_right z (by omega)
    rw [if_neg h, if_neg (by omega)]
theorem c_nu {N : Nat} {S : fS} (hN : N < 900000000000000) : f_X10_noonsUpTo (o6 N) S = some (o6 (nu N 232792560)) := by
  unfold f_X10_noonsUpTo nu
  rw [show (2793510720 : Int64) = o6 2793510720 from rfl, show (5587021440 : Int64) = o6 5587021440 from rfl]
  by_cases h : 12 * 232792560 ≤ N
  · rw [if_pos ((o6_le (by omega) (by omega)).mpr h), if_pos h, o6_sub h, o6_dL (by omega) (by omega) (by omega), bd_some, show (1 : Int64) = o6 1 from rfl, o6_add]
  · rw [if_neg (fun q => h ((o6_le (by omega) (by omega)).mp q)), if_neg h]
    rfl
theorem m_nu {N D : Nat} {S : fS} (hN : N < 1000000) (hD : 0 < D ∧ D ≤ 20) : f_X11_noonsTill (o3 N) (o3 D) S = some (o3 (nu N D)) := by
  unfold f_X11_noonsTill nu
  rw [show (12 : Int32) = o3 12 from rfl, show (24 : Int32) = o3 24 from rfl, o3_mul, o3_mul]
  by_cases h : 12 * D ≤ N
  · rw [if_pos ((o3_le (by omega) (by omega)).mpr h), if_pos h, o3_sub h, o3_dI (by omega) (by omega) (by omega), bd_some, o3_s]
  · rw [if_neg (fun q => h ((o3_le (by omega) (by omega)).mp q)), if_neg h]
    rfl
theorem nu_le {N D : Nat} : nu N D ≤ N + 1 := by
  unfold nu
  split
  · have := Nat.div_le_self (N - 12 * D) (24 * D)
    omega
  · omega
theorem t_24 (a1 a2 a3 : Int32) (S : fS) (hR : Rel S) : ∃ r, f_X10_noonsIn a1 a2 a3 S = some r ∧ f_X11_noonsIn a1 a2 a3 S = some r ∧ Rel S := by
  have hR0 := hR
  obtain ⟨n, s, L, M, hT, ⟨⟨n1, n2, n3, n4, n5, n6⟩, ⟨b1, b2, b3, b4, b5⟩, ⟨m1, m2, m3, m4⟩, d⟩, hL, hM⟩ := hR
  unfold f_X10_noonsIn f_X11_noonsIn
  rw [ci_floor b1.1 (by omega), mi_floor m1.1 (by omega), bd_some, bd_some, hour_c, hour_m, bd_some, bd_some, show (9999 : Int64) = Int32.toInt64 9999 from rfl, op_in]
  by_cases h1 : 0 ≤ a1.toInt ∧ a1.toInt < s.1.length
  · rw [if_pos h1, if_neg (show ¬ (1 : Int32) = 0 by decide), if_neg (show ¬ (1 : Int32) = 0 by decide)]
    by_cases h2 : ((0 : Nat) : Int) ≤ a2.toInt ∧ a2.toInt ≤ ((9999 : Nat) : Int)
    · rw [if_pos h2, if_neg (show ¬ (1 : Int32) = 0 by decide), if_neg (show ¬ (1 : Int32) = 0 by decide)]
      rcases op_isFrom01 (v := a3) (a := a2) (b := 9999) (S := S) with ⟨h, g⟩ | ⟨h, g1, g2⟩
      · rw [h, bd_some, bd_some, if_pos rfl, if_pos rfl]
        exact ⟨_, rfl, rfl, hR0⟩
      · rw [h, bd_some, bd_some, if_neg (show ¬ (1 : Int32) = 0 by decide), if_neg (show ¬ (1 : Int32) = 0 by decide)]
        rw [show (9999 : Int32).toInt = 9999 from rfl] at g2
        obtain ⟨f, e1, e2⟩ := o3_ex h1.1
        obtain ⟨u, e3, e4⟩ := o3_ex (x := a2) (by omega)
        obtain ⟨v, e5, e6⟩ := o3_ex (x := a3) (by omega)
        have hf : f < s.1.length := by omega
        have hq := n3 _ (gd_mem (d := (0, 0)) hf)
        unfold f_X8_clockAt
        rw [e1, e3, e5, show gL S (4 + 1) 10 (o3 f) = some (pc (s.1.getD f (0, 0))) from cf_p b1 n1 hf, mf_a m1 n1 hf, mf_b m1 n1 hf, bd_some, bd_some, bd_some, bd_some, bd_some, bd_some]
        generalize s.1.getD f (0, 0) = q at hq
        have hp := pcn_le hq
        obtain ⟨z1, z2, z3⟩ := pz_eq hq
        obtain ⟨q1, q2, q3, q4⟩ := hq
        have x1 : u * (q.1 * pz q) ≤ 9999 * 4655851200 := Nat.mul_le_mul (by omega) hp.2
        have x2 : v * (q.1 * pz q) ≤ 9999 * 4655851200 := Nat.mul_le_mul (by omega) hp.2
        have x3 : u * q.1 ≤ 9999 * 20 := Nat.mul_le_mul (by omega) q2
        have x4 : v * q.1 ≤ 9999 * 20 := Nat.mul_le_mul (by omega) q2
        have hnu : nu (v * (q.1 * pz q)) 232792560 = nu (v * q.1) q.2 := by
          rw [← Nat.mul_assoc, ← z1, Nat.mul_comm (pz q) q.2, nu_sc z2]
        rw [pc_o, o6_of3 (by omega), o6_of3 (by omega), o6_mul, o6_mul, c_nu (by omega), bd_some, o3_mul, o3_mul, m_nu (by omega) (by omega), bd_some, hnu]
        by_cases hu : u = 0
        · rw [hu, Nat.zero_mul, Nat.zero_mul]
          have c0 : f_X10_noonsUpTo (o6 0 - 1) S = some 0 := by
            unfold f_X10_noonsUpTo
            rw [if_neg (show ¬ (2793510720 : Int64) ≤ o6 0 - 1 by decide)]
          have c1 : f_X11_noonsTill (o3 0 - 1) (o3 q.2) S = some 0 := by
            unfold f_X11_noonsTill
            rw [show (12 : Int32) = o3 12 from rfl, o3_mul, if_neg (fun z => by
              have z := ni_le.mp z
              rw [o3_int (by omega), show (o3 0 - 1 : Int32).toInt = -1 from rfl] at z
              omega)]
          rw [c0, c1, bd_some, bd_some, show (o6 (nu (v * q.1) q.2) - 0 : Int64) = o6 (nu (v * q.1) q.2) from Int64.sub_zero _, show (o3 (nu (v * q.1) q.2) - 0 : Int32) = o3 (nu (v * q.1) q.2) from Int32.sub_zero _, o6_to3 (by have := nu_le (N := v * q.1) (D := q.2); omega)]
          exact ⟨_, rfl, rfl, hR0⟩
        · have hu1 : 0 < u * q.1 := Nat.mul_pos (by omega) (by omega)
          have hu2 : 0 < u * (q.1 * pz q) := Nat.mul_pos (by omega) hp.1
          have hnu1 : nu (u * (q.1 * pz q) - 1) 232792560 = nu (u * q.1 - 1) q.2 := by
            rw [← Nat.mul_assoc, ← z1, Nat.mul_comm (pz q) q.2, nu_sc1 z2 hu1]
          rw [show (1 : Int64) = o6 1 from rfl, o6_sub (by omega), c_nu (by omega), bd_some, show (1 : Int32) = o3 1 from rfl, o3_sub (by omega), m_nu (by omega) (by omega), bd_some, hnu1, Int64.toInt32_sub, o6_to3 (by have := nu_le (N := v * q.1) (D := q.2); omega), o6_to3 (by have := nu_le (N := u * q.1 - 1) (D := q.2); omega)]
          exact ⟨_, rfl, rfl, hR0⟩
    · rw [if_neg h2, if_pos rfl, if_pos rfl]
      exact ⟨_, rfl, rfl, hR0⟩
  · rw [if_neg h1, if_pos rfl, if_pos rfl]
    exact ⟨_, rfl, rfl, hR0⟩
/-- a difference of two numbers: how it stands -/
theorem df_cs {a b : Nat} (ha : a < 4000000000000000000) (hb : b < 4000000000000000000) : (a = b ∧ o6 a - o6 b = 0) ∨ (b < a ∧ o6 a - o6 b = o6 (a - b)) ∨ (a < b ∧ o6 a - o6 b = -(o6 (b - a))) := by
  have hs : (o6 a - o6 b).toInt = (a : Int) - b := by rw [nl_sub (by rw [o6_int (by omega), o6_int (by omega)]; omega) (by rw [o6_int (by omega), o6_int (by omega)]; omega), o6_int (by omega), o6_int (by omega)]
  rcases Nat.lt_trichotomy a b with h | h | h
  · refine Or.inr (Or.inr ⟨h, nl_eq.mpr ?_⟩)
    rw [hs, Int64.toInt_neg, o6_int (by omega)]
    rw [nl_bm (by omega) (by omega)]
    omega
  · exact Or.inl ⟨h, nl_eq.mpr (by rw [hs, nl_0]; omega)⟩
  · exact Or.inr (Or.inl ⟨h, o6_sub (by omega)⟩)
theorem ng_int {m : Nat} (h : m < 9223372036854775808) : (-(o6 m)).toInt = -(m : Int) := by
  rw [Int64.toInt_neg, o6_int h, nl_bm (by omega) (by omega)]
theorem ng_ng {m : Nat} (h : m < 9223372036854775808) : -(-(o6 m)) = o6 m := nl_eq.mpr (by rw [Int64.toInt_neg, ng_int h, o6_int h, nl_bm (by omega) (by omega)]; omega)
theorem ng_div {a b : Nat} (ha : a < 9223372036854775808) (hb : b < 9223372036854775808) : -(o6 a) / o6 b = -(o6 (a / b)) := by
  have h1 : a / b ≤ a := Nat.div_le_self a b
  rw [nl_eq, Int64.toInt_div, ng_int ha, o6_int hb, ng_int (by omega), Int.neg_tdiv]
  have e : (a : Int).tdiv (b : Int) = ((a / b : Nat) : Int) := by
    rw [Int.tdiv_eq_ediv_of_nonneg (by omega)]
    exact (Int.natCast_ediv a b).symm
  rw [e]
  clear e
  generalize a / b = q at h1
  exact nl_bm (by omega) (by omega)
theorem ng_abs {m : Nat} {S : fS} (h : m < 9223372036854775808) (h0 : m ≠ 0) : f_J9_abs_067f4 (-(o6 m)) S = some (o6 m) := by
  unfold f_J9_abs_067f4
  rw [if_neg (fun q => by have q := nl_le.mp q; rw [ng_int h, nl_0] at q; omega), ng_ng h]
theorem ps_abs {m : Nat} {S : fS} (h : m < 9223372036854775808) : f_J9_abs_067f4 (o6 m) S = some (o6 m) := by
  unfold f_J9_abs_067f4
  rw [if_pos (o6_0le h)]
theorem ev_p {a b : Nat} {v : Int32} {S : fS} (ha : a < 9223372036854775808) (hb : b < 9223372036854775808) (h0 : 0 < b) : ((f_X11_divisor (o6 a) (o6 b) S).bind fun q79 => if v = (0 : Int32) then ((dL (o6 a) q79).bind fun a87 => if (0 : Int64) ≤ a87 then (some a87) else (some (-a87))) else ((dL (o6 b) q79).bind fun a83 => if (0 : Int64) ≤ a83 then (some a83) else (some (-a83)))) = some (lw a b v) := by
  obtain ⟨g1, g2⟩ := gcd_lt ha hb h0
  have k1 := Nat.div_le_self a (Nat.gcd a b)
  have k2 := Nat.div_le_self b (Nat.gcd a b)
  rw [m_cd ha hb, bd_some, o6_dL ha g1 g2, o6_dL hb g1 g2, bd_some, bd_some, if_pos (o6_0le (by omega)), if_pos (o6_0le (by omega))]
  unfold lw
  split <;> rfl
theorem ev_n {a b : Nat} {v : Int32} {S : fS} (ha : a < 9223372036854775808) (hb : b < 9223372036854775808) (ha0 : 0 < a) (h0 : 0 < b) : ((f_X11_divisor (-(o6 a)) (-(o6 b)) S).bind fun q79 => if v = (0 : Int32) then ((dL (-(o6 a)) q79).bind fun a87 => if (0 : Int64) ≤ a87 then (some a87) else (some (-a87))) else ((dL (-(o6 b)) q79).bind fun a83 => if (0 : Int64) ≤ a83 then (some a83) else (some (-a83)))) = some (lw a b v) := by
  obtain ⟨g1, g2⟩ := gcd_lt ha hb h0
  have k1 := Nat.div_le_self a (Nat.gcd a b)
  have k2 := Nat.div_le_self b (Nat.gcd a b)
  have hd : f_X11_divisor (-(o6 a)) (-(o6 b)) S = f_X11_divisor (o6 a) (o6 b) S := by
    unfold f_X11_divisor
    rw [if_neg (fun q => by have q := nl_le.mp q; rw [ng_int ha, nl_0] at q; omega), if_neg (fun q => by have q := nl_le.mp q; rw [ng_int hb, nl_0] at q; omega), ng_ng ha, ng_ng hb, if_pos (o6_0le ha), if_pos (o6_0le hb)]
  have dn : ∀ m, m < 9223372036854775808 → dL (-(o6 m)) (o6 (Nat.gcd a b)) = some (-(o6 (m / Nat.gcd a b))) := fun m hm => by
    unfold dL
    rw [if_neg (o6_ne0 g1 g2), ng_div hm g1]
  have ab : ∀ m, m < 9223372036854775808 → (if (0 : Int64) ≤ -(o6 m) then some (-(o6 m)) else some (-(-(o6 m)))) = some (o6 m) := fun m hm => by
    by_cases hm0 : m = 0
    · rw [hm0]; rfl
    · rw [if_neg (fun q => by have q := nl_le.mp q; rw [ng_int hm, nl_0] at q; omega), ng_ng hm]
  rw [hd, m_cd ha hb, bd_some, dn a ha, dn b hb, bd_some, bd_some, ab _ (by omega), ab _ (by omega)]
  unfold lw
  split <;> rfl
theorem ev_c {v : Int32} {a b : Nat} {S : fS} (ha : a < 9223372036854775808) (hb : b < 9223372036854775808) (h0 : 0 < b) (x y : Int64) (hx : f_J9_abs_067f4 x S = some (o6 a)) (hy : f_J9_abs_067f4 y S = some (o6 b)) : ((f_J9_abs_067f4 x S).bind fun q39 => (f_J9_abs_067f4 y S).bind fun q42 => (f_X10_lowest q39 q42 v S).bind fun q45 => some q45) = some (lw a b v) := by
  rw [hx, hy, bd_some, bd_some, c_low ha hb h0, bd_some]
theorem t_17 (a1 a2 a3 a4 a5 : Int32) (S : fS) (hR : Rel S) : ∃ r, f_X10_even a1 a2 a3 a4 a5 S = some r ∧ f_X11_even a1 a2 a3 a4 a5 S = some r ∧ Rel S := by
  have hR0 := hR
  obtain ⟨n, s, L, M, hT, ⟨⟨n1, n2, n3, n4, n5, n6⟩, ⟨b1, b2, b3, b4, b5⟩, ⟨m1, m2, m3, m4⟩, d⟩, hL, hM⟩ := hR
  have h8 := n5.1
  unfold f_X10_even f_X11_even
  rw [ci_thing b3.1 (by omega), mi_thing m2.1 (by omega), ci_thing b3.1 (by omega), mi_thing m2.1 (by omega), ci_floor b1.1 (by omega), mi_floor m1.1 (by omega), ci_floor b1.1 (by omega), mi_floor m1.1 (by omega), part_c, part_m]
  simp only [bd_some]
  by_cases h1 : 0 ≤ a1.toInt ∧ a1.toInt < s.2.2.1.1
  · rw [if_pos h1, if_neg (show ¬ (1 : Int32) = 0 by decide), if_neg (show ¬ (1 : Int32) = 0 by decide)]
    by_cases h2 : 0 ≤ a2.toInt ∧ a2.toInt < s.2.2.1.1
    · rw [if_pos h2, if_neg (show ¬ (1 : Int32) = 0 by decide), if_neg (show ¬ (1 : Int32) = 0 by decide)]
      by_cases h12 : a1 = a2
      · rw [if_pos h12, if_pos h12]
        exact ⟨_, rfl, rfl, hR0⟩
      rw [if_neg h12, if_neg h12]
      by_cases h3 : 0 ≤ a3.toInt ∧ a3.toInt < s.1.length
      · rw [if_pos h3, if_neg (show ¬ (1 : Int32) = 0 by decide), if_neg (show ¬ (1 : Int32) = 0 by decide)]
        by_cases h4 : 0 ≤ a4.toInt ∧ a4.toInt < s.1.length
        · rw [if_pos h4, if_neg (show ¬ (1 : Int32) = 0 by decide), if_neg (show ¬ (1 : Int32) = 0 by decide)]
          by_cases h5 : ((0 : Nat) : Int) ≤ a5.toInt ∧ a5.toInt ≤ ((1 : Nat) : Int)
          · rw [if_pos h5, if_neg (show ¬ (1 : Int32) = 0 by decide), if_neg (show ¬ (1 : Int32) = 0 by decide)]
            obtain ⟨f, e1, e2⟩ := o3_ex h1.1
            obtain ⟨g, e3, e4⟩ := o3_ex h2.1
            obtain ⟨p, e5, e6⟩ := o3_ex h3.1
            obtain ⟨q, e7, e8⟩ := o3_ex h4.1
            have hf : f < s.2.2.1.1 := by omega
            have hg : g < s.2.2.1.1 := by omega
            have hp : p < s.1.length := by omega
            have hq : q < s.1.length := by omega
            obtain ⟨a, u1, u2⟩ := age_o n5 hf
            obtain ⟨b, w1, w2⟩ := age_o n5 hg
            have gc : gL S 16 8 (o3 f) = some (o6 a) := (gL_o (by omega) (by omega)).trans (congrArg some (((b3.2.2 f hf).2.2.2.2).trans u1))
            have gm : gL S 158 8 (o3 f) = some (o6 a) := (gL_o (by omega) (by omega)).trans (congrArg some (((m2.2.2 f hf).2.2.2.2).trans u1))
            have gc' : gL S 16 8 (o3 g) = some (o6 b) := (gL_o (by omega) (by omega)).trans (congrArg some (((b3.2.2 g hg).2.2.2.2).trans w1))
            have gm' : gL S 158 8 (o3 g) = some (o6 b) := (gL_o (by omega) (by omega)).trans (congrArg some (((m2.2.2 g hg).2.2.2.2).trans w1))
            have hok := pcn_le (n3 _ (gd_mem (d := (0, 0)) hp))
            have hok' := pcn_le (n3 _ (gd_mem (d := (0, 0)) hq))
            rw [e1, e3, e5, e7, gc, gm, gc', gm', cf_p b1 n1 hp, cf_p b1 n1 hq, mp_floor m1 n3 n1 hp, mp_floor m1 n3 n1 hq, pc_o, pc_o]
            simp only [bd_some]
            generalize (s.1.getD p (0, 0)).1 * pz (s.1.getD p (0, 0)) = x at hok
            generalize (s.1.getD q (0, 0)).1 * pz (s.1.getD q (0, 0)) = y at hok'
            rcases df_cs (a := b) (b := a) (by omega) (by omega) with ⟨_, c1⟩ | ⟨c0, c1⟩ | ⟨c0, c1⟩
            · rw [c1, if_pos rfl, if_pos rfl, show (0 : Int64) = o6 0 from rfl, show (1 : Int64) = o6 1 from rfl, c_low (by omega) (by omega) (by omega), bd_some]
              refine ⟨_, rfl, ?_, hR0⟩
              congr 1
              unfold lw
              by_cases h7 : a5 = 0
              · rw [if_pos h7, h7]; rfl
              · have : a5 = 1 := by
                  have : a5.toInt ≠ 0 := fun z => h7 (ni_eq.mpr z)
                  exact ni_eq.mpr (by show a5.toInt = 1; omega)
                rw [if_neg h7, this]; rfl
            · rw [c1, if_neg (o6_ne0 (by omega) (by omega)), if_neg (o6_ne0 (by omega) (by omega)), if_pos (o6_0le (by omega)), if_neg (show ¬ o6 (b - a) ≤ 0 from fun q => by have q := (o6_le (b := 0) (by omega) (by omega)).mp q; omega)]
              rcases df_cs (a := x) (b := y) (by omega) (by omega) with ⟨_, c3⟩ | ⟨c2, c3⟩ | ⟨c2, c3⟩
              · rw [c3, if_pos rfl, if_pos rfl]
                exact ⟨_, rfl, rfl, hR0⟩
              · rw [c3, if_neg (o6_ne0 (by omega) (by omega)), if_neg (o6_ne0 (by omega) (by omega)), if_pos (o6_0le (by omega)), if_neg (show ¬ o6 (x - y) ≤ 0 from fun q => by have q := (o6_le (b := 0) (by omega) (by omega)).mp q; omega), if_pos trivial, if_pos trivial, ev_c (by omega) (by omega) (by omega) _ _ (ps_abs (by omega)) (ps_abs (by omega)), ev_p (by omega) (by omega) (by omega)]
                exact ⟨_, rfl, rfl, hR0⟩
              · have hn0 : ¬ -(o6 (y - x)) = 0 := fun q => by have q := nl_eq.mp q; rw [ng_int (by omega), nl_0] at q; omega
                rw [c3, if_neg hn0, if_neg hn0, if_neg (show ¬ (0 : Int64) ≤ -(o6 (y - x)) from fun q => by have q := nl_le.mp q; rw [ng_int (by omega), nl_0] at q; omega), if_pos (show -(o6 (y - x)) ≤ 0 from nl_le.mpr (by rw [ng_int (by omega), nl_0]; omega)), if_neg (by decide), if_neg (by decide)]
                exact ⟨_, rfl, rfl, hR0⟩
            · have hm0 : ¬ -(o6 (a - b)) = 0 := fun q => by have q := nl_eq.mp q; rw [ng_int (by omega), nl_0] at q; omega
              rw [c1, if_neg hm0, if_neg hm0, if_neg (show ¬ (0 : Int64) ≤ -(o6 (a - b)) from fun q => by have q := nl_le.mp q; rw [ng_int (by omega), nl_0] at q; omega), if_pos (show -(o6 (a - b)) ≤ 0 from nl_le.mpr (by rw [ng_int (by omega), nl_0]; omega))]
              rcases df_cs (a := x) (b := y) (by omega) (by omega) with ⟨_, c3⟩ | ⟨c2, c3⟩ | ⟨c2, c3⟩
              · rw [c3, if_pos rfl, if_pos rfl]
                exact ⟨_, rfl, rfl, hR0⟩
              · rw [c3, if_neg (o6_ne0 (by omega) (by omega)), if_neg (o6_ne0 (by omega) (by omega)), if_pos (o6_0le (by omega)), if_neg (show ¬ o6 (x - y) ≤ 0 from fun q => by have q := (o6_le (b := 0) (by omega) (by omega)).mp q; omega), if_neg (by decide), if_neg (by decide)]
                exact ⟨_, rfl, rfl, hR0⟩
              · have hn0 : ¬ -(o6 (y - x)) = 0 := fun q => by have q := nl_eq.mp q; rw [ng_int (by omega), nl_0] at q; omega
                rw [c3, if_neg hn0, if_neg hn0, if_neg (show ¬ (0 : Int64) ≤ -(o6 (y - x)) from fun q => by have q := nl_le.mp q; rw [ng_int (by omega), nl_0] at q; omega), if_pos (show -(o6 (y - x)) ≤ 0 from nl_le.mpr (by rw [ng_int (by omega), nl_0]; omega)), if_pos trivial, if_pos trivial, ev_c (by omega) (by omega) (by omega) _ _ (ng_abs (by omega) (by omega)) (ng_abs (by omega) (by omega)), ev_n (by omega) (by omega) (by omega) (by omega)]
                exact ⟨_, rfl, rfl, hR0⟩
          · rw [if_neg h5, if_pos rfl, if_pos rfl]
            exact ⟨_, rfl, rfl, hR0⟩
        · rw [if_neg h4, if_pos rfl, if_pos rfl]
          exact ⟨_, rfl, rfl, hR0⟩
      · rw [if_neg h3, if_pos rfl, if_pos rfl]
        exact ⟨_, rfl, rfl, hR0⟩
    · rw [if_neg h2, if_pos rfl, if_pos rfl]
      exact ⟨_, rfl, rfl, hR0⟩
  · rw [if_neg h1, if_pos rfl, if_pos rfl]
    exact ⟨_, rfl, rfl, hR0⟩
end
