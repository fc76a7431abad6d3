noncomputable section
/-! owed, hands, when, shown, noonsIn, due -/
theorem from_m {v : Int32} {a b : Nat} {S : fS} {x y : Int64} (hx : x = o6 a) (hy : y = o6 b) (ha : a < 2147483648) (hb : b < 2147483648) : f_X11_in (Int32.toInt64 v) x y S = some (if (a : Int) ≤ v.toInt ∧ v.toInt ≤ b then 1 else 0) := by
  rw [hx, hy]; exact in_c ha hb
theorem t_19 (a1 a2 a3 a4 a5 : Int32) (S : fS) (hR : Rel S) : ∃ r, f_X10_owed a1 a2 a3 a4 a5 S = some r ∧ f_X11_owed a1 a2 a3 a4 a5 S = some r ∧ Rel S := by
  have hR0 := hR
  obtain ⟨n, s, L, M, hT, ⟨⟨n1, n2, n3, n4, n5, n6⟩, ⟨b1, b2, b3, b4, b5⟩, ⟨m1, m2, m3, m4⟩, d⟩, hL, hM⟩ := hR
  have i1 : f_X10_isFrom a2 1 9999 S = some (if ((1 : Nat) : Int) ≤ a2.toInt ∧ a2.toInt ≤ ((9999 : Nat) : Int) then 1 else 0) := from_c (a := 1) (b := 9999) (by omega) (by omega)
  have i2 : f_X10_isFrom a3 0 999 S = some (if ((0 : Nat) : Int) ≤ a3.toInt ∧ a3.toInt ≤ ((999 : Nat) : Int) then 1 else 0) := from_c (a := 0) (b := 999) (by omega) (by omega)
  have j1 : f_X11_in (Int32.toInt64 a2) 1 9999 S = some (if ((1 : Nat) : Int) ≤ a2.toInt ∧ a2.toInt ≤ ((9999 : Nat) : Int) then 1 else 0) := in_c (a := 1) (b := 9999) (by omega) (by omega)
  have j2 : f_X11_in (Int32.toInt64 a3) 0 999 S = some (if ((0 : Nat) : Int) ≤ a3.toInt ∧ a3.toInt ≤ ((999 : Nat) : Int) then 1 else 0) := in_c (a := 0) (b := 999) (by omega) (by omega)
  unfold f_X10_owed f_X11_owed
  rw [ci_floor b1.1 (by omega), mi_floor m1.1 (by omega), bd_some, bd_some, i1, j1, bd_some, bd_some, i2, j2, bd_some, bd_some, hour_c, hour_m, bd_some, bd_some, part_c, part_m, bd_some, bd_some]
  by_cases h1 : 0 ≤ a1.toInt ∧ a1.toInt < s.1.length
  · rw [if_pos h1, if_neg (show ¬ (1 : Int32) = 0 by decide), if_neg (show ¬ (1 : Int32) = 0 by decide)]
    by_cases h2 : ((1 : Nat) : Int) ≤ a2.toInt ∧ a2.toInt ≤ ((9999 : Nat) : Int)
    · rw [if_pos h2, if_neg (show ¬ (1 : Int32) = 0 by decide), if_neg (show ¬ (1 : Int32) = 0 by decide)]
      by_cases h3 : ((0 : Nat) : Int) ≤ a3.toInt ∧ a3.toInt ≤ ((999 : Nat) : Int)
      · rw [if_pos h3, if_neg (show ¬ (1 : Int32) = 0 by decide), if_neg (show ¬ (1 : Int32) = 0 by decide)]
        by_cases h4 : ((0 : Nat) : Int) ≤ a4.toInt ∧ a4.toInt ≤ ((9999 : Nat) : Int)
        · rw [if_pos h4, if_neg (show ¬ (1 : Int32) = 0 by decide), if_neg (show ¬ (1 : Int32) = 0 by decide)]
          by_cases h5 : ((0 : Nat) : Int) ≤ a5.toInt ∧ a5.toInt ≤ ((1 : Nat) : Int)
          · rw [if_pos h5, if_neg (show ¬ (1 : Int32) = 0 by decide), if_neg (show ¬ (1 : Int32) = 0 by decide)]
            obtain ⟨f, e1, e2⟩ := o3_ex h1.1
            obtain ⟨u, e3, e4⟩ := o3_ex (x := a2) (by omega)
            obtain ⟨v, e5, e6⟩ := o3_ex (x := a3) (by omega)
            obtain ⟨w, e7, e8⟩ := o3_ex (x := a4) (by omega)
            have hf : f < s.1.length := by omega
            have hq := n3 _ (gd_mem (d := (0, 0)) hf)
            rw [e1, e3, e5, e7, cf_p b1 n1 hf, mf_a m1 n1 hf, mf_b m1 n1 hf, bd_some, bd_some, bd_some]
            generalize s.1.getD f (0, 0) = q at hq
            have hp := pcn_le hq
            have hlw := lwF (q := q) (v := 0) hq
            have hlw1 := lwF (q := q) (v := 1) hq
            obtain ⟨q1, q2, q3, q4⟩ := hq
            rw [pc_o, show (232792560 : Int64) = o6 232792560 from rfl, c_low (by omega) (by omega) (by omega), bd_some, bd_some, c_low (by omega) (by omega) (by omega), bd_some, hlw, hlw1]
            obtain ⟨g1, g2⟩ := gcd_lt (a := q.1) (b := q.2) (by omega) (by omega) (by omega)
            have l0 : lw q.1 q.2 0 = o6 (q.1 / Nat.gcd q.1 q.2) := if_pos rfl
            have l1 : lw q.1 q.2 1 = o6 (q.2 / Nat.gcd q.1 q.2) := if_neg (by decide)
            have c1 := Nat.div_mul_cancel (Nat.gcd_dvd_left q.1 q.2)
            have c2 := Nat.div_mul_cancel (Nat.gcd_dvd_right q.1 q.2)
            have k1 := Nat.div_le_self q.1 (Nat.gcd q.1 q.2)
            have k2 := Nat.div_le_self q.2 (Nat.gcd q.1 q.2)
            rw [l0, l1]
            generalize Nat.gcd q.1 q.2 = g at *
            generalize q.1 / g = x at *
            generalize q.2 / g = y at *
            have hy : 0 < y := by
              rcases Nat.eq_zero_or_pos y with h | h
              · rw [h, Nat.zero_mul] at c2; omega
              · exact h
            have x1 : v * x ≤ 999 * 20 := Nat.mul_le_mul (by omega) (by omega)
            have x2 : v * x * w ≤ 19980 * 9999 := Nat.mul_le_mul (by omega) (by omega)
            have x3 : u * (24000 * y + v * x * w) ≤ 9999 * (480000 + 199780020) := Nat.mul_le_mul (by omega) (by omega)
            have x4 : u * (24000 * q.2) ≤ 9999 * 480000 := Nat.mul_le_mul (by omega) (by omega)
            have x5 : u * v ≤ 9999 * 999 := Nat.mul_le_mul (by omega) (by omega)
            have x6 : u * v * w ≤ 9989001 * 9999 := Nat.mul_le_mul (by omega) (by omega)
            have x7 : u * v * w * q.1 ≤ 99880020999 * 20 := Nat.mul_le_mul (by omega) (by omega)
            rw [o6_of3 (by omega), o6_of3 (by omega), o6_of3 (by omega), o6_of3 (by omega), o6_of3 (by omega), show (24000 : Int64) = o6 24000 from rfl, o6_mul, o6_mul, o6_mul, o6_add, o6_mul, c_low (by omega) (by omega) (by omega), bd_some, o6_mul, o6_mul, o6_mul, o6_mul, o6_mul, o6_add, m_low (by omega) (by omega) (by omega), bd_some]
            refine ⟨_, rfl, ?_, hR0⟩
            congr 1
            refine (lw_cross (by omega) (by omega) ?_).symm
            rw [← c2]
            have y1 : u * (24000 * (y * g)) + u * v * w * q.1 = u * (24000 * y + v * x * w) * g := by
              rw [← c1, Nat.mul_add, Nat.add_mul]
              congr 1
              · rw [Nat.mul_assoc, Nat.mul_assoc 24000 y g]
              · rw [← Nat.mul_assoc, Nat.mul_assoc u v w, Nat.mul_assoc u (v * w) x, Nat.mul_right_comm v w x]
            rw [y1, ← Nat.mul_assoc 24000 y g, Nat.mul_comm (24000 * y) g]
            simp only [Nat.mul_assoc]
          · rw [if_neg h5, if_pos rfl, if_pos rfl]
            exact ⟨_, rfl, rfl, hR0⟩
        · rw [if_neg h4, if_pos rfl, if_pos rfl]
          exact ⟨_, rfl, rfl, hR0⟩
      · rw [if_neg h3, if_pos rfl, if_pos rfl]
        exact ⟨_, rfl, rfl, hR0⟩
    · rw [if_neg h2, if_pos rfl, if_pos rfl]
      exact ⟨_, rfl, rfl, hR0⟩
  · rw [if_neg h1, if_pos rfl, if_pos rfl]
    exact ⟨_, rfl, rfl, hR0⟩
theorem cl_sc {X Y z : Nat} (hz : 0 < z) (hY : 0 < Y) : (X * z + Y * z - 1) / (Y * z) = (X + Y - 1) / Y := by
  have e : X * z + Y * z - 1 = (z - 1) + (X + Y - 1) * z := by
    have h1 : (X + Y) * z = X * z + Y * z := Nat.add_mul X Y z
    have h2 : (X + Y - 1) * z = (X + Y) * z - z := Nat.sub_one_mul (X + Y) z
    have h3 : 1 * z ≤ (X + Y) * z := Nat.mul_le_mul_right z (by omega)
    omega
  rw [e, Nat.mul_comm Y z, ← Nat.div_div_eq_div_mul, Nat.add_mul_div_right _ _ hz, show (z - 1) / z = 0 from Nat.div_eq_of_lt (by omega), Nat.zero_add]
theorem cl_cross {X Y X' Y' : Nat} (hY : 0 < Y) (hY' : 0 < Y') (h : X * Y' = X' * Y) : (X + Y - 1) / Y = (X' + Y' - 1) / Y' := by
  rw [← cl_sc (X := X) hY' hY, h, Nat.mul_comm Y Y', cl_sc hY hY']
theorem t_20 (a1 a2 a3 a4 : Int32) (S : fS) (hR : Rel S) : ∃ r, f_X10_hands a1 a2 a3 a4 S = some r ∧ f_X11_hands a1 a2 a3 a4 S = some r ∧ Rel S := by
  have hR0 := hR
  obtain ⟨n, s, L, M, hT, ⟨⟨n1, n2, n3, n4, n5, n6⟩, ⟨b1, b2, b3, b4, b5⟩, ⟨m1, m2, m3, m4⟩, d⟩, hL, hM⟩ := hR
  have i1 : ∀ v : Int32, f_X10_isFrom v 1 9999 S = some (if ((1 : Nat) : Int) ≤ v.toInt ∧ v.toInt ≤ ((9999 : Nat) : Int) then 1 else 0) := fun v => from_c (a := 1) (b := 9999) (by omega) (by omega)
  have i2 : ∀ v : Int32, f_X11_in (Int32.toInt64 v) 1 9999 S = some (if ((1 : Nat) : Int) ≤ v.toInt ∧ v.toInt ≤ ((9999 : Nat) : Int) then 1 else 0) := fun v => in_c (a := 1) (b := 9999) (by omega) (by omega)
  unfold f_X10_hands f_X11_hands
  rw [ci_floor b1.1 (by omega), mi_floor m1.1 (by omega), ci_floor b1.1 (by omega), mi_floor m1.1 (by omega), bd_some, bd_some, bd_some, bd_some, i1, i2, bd_some, bd_some, i1, i2, bd_some, bd_some]
  by_cases h1 : 0 ≤ a1.toInt ∧ a1.toInt < s.1.length
  · rw [if_pos h1, if_neg (show ¬ (1 : Int32) = 0 by decide), if_neg (show ¬ (1 : Int32) = 0 by decide)]
    by_cases h2 : 0 ≤ a2.toInt ∧ a2.toInt < s.1.length
    · rw [if_pos h2, if_neg (show ¬ (1 : Int32) = 0 by decide), if_neg (show ¬ (1 : Int32) = 0 by decide)]
      by_cases h3 : ((1 : Nat) : Int) ≤ a3.toInt ∧ a3.toInt ≤ ((9999 : Nat) : Int)
      · rw [if_pos h3, if_neg (show ¬ (1 : Int32) = 0 by decide), if_neg (show ¬ (1 : Int32) = 0 by decide)]
        by_cases h4 : ((1 : Nat) : Int) ≤ a4.toInt ∧ a4.toInt ≤ ((9999 : Nat) : Int)
        · rw [if_pos h4, if_neg (show ¬ (1 : Int32) = 0 by decide), if_neg (show ¬ (1 : Int32) = 0 by decide)]
          obtain ⟨f, e1, e2⟩ := o3_ex h1.1
          obtain ⟨g, e3, e4⟩ := o3_ex h2.1
          obtain ⟨v, e5, e6⟩ := o3_ex (x := a3) (by omega)
          obtain ⟨w, e7, e8⟩ := o3_ex (x := a4) (by omega)
          have hf : f < s.1.length := by omega
          have hg : g < s.1.length := by omega
          have hq := n3 _ (gd_mem (d := (0, 0)) hf)
          have hq' := n3 _ (gd_mem (d := (0, 0)) hg)
          rw [e1, e3, e5, e7, cf_p b1 n1 hf, cf_p b1 n1 hg, mf_a m1 n1 hf, mf_b m1 n1 hf, mf_a m1 n1 hg, mf_b m1 n1 hg, bd_some, bd_some, bd_some, bd_some, bd_some, bd_some]
          generalize s.1.getD f (0, 0) = q at hq
          generalize s.1.getD g (0, 0) = q' at hq'
          have hp := pcn_le hq
          have hp' := pcn_le hq'
          obtain ⟨z1, z2, z3⟩ := pz_eq hq
          obtain ⟨z1', z2', z3'⟩ := pz_eq hq'
          obtain ⟨q1, q2, q3, q4⟩ := hq
          obtain ⟨q1', q2', q3', q4'⟩ := hq'
          have x1 : v * (q'.1 * pz q') ≤ 9999 * 4655851200 := Nat.mul_le_mul (by omega) hp'.2
          have x2 : w * (q.1 * pz q) ≤ 9999 * 4655851200 := Nat.mul_le_mul (by omega) hp.2
          have x3 : 0 < w * (q.1 * pz q) := Nat.mul_pos (by omega) hp.1
          have x4 : v * q'.1 ≤ 9999 * 20 := Nat.mul_le_mul (by omega) q2'
          have x5 : v * q'.1 * q.2 ≤ 199980 * 20 := Nat.mul_le_mul (by omega) q4
          have x6 : w * q'.2 ≤ 9999 * 20 := Nat.mul_le_mul (by omega) q4'
          have x7 : w * q'.2 * q.1 ≤ 199980 * 20 := Nat.mul_le_mul (by omega) q2
          have x8 : 0 < w * q'.2 * q.1 := Nat.mul_pos (Nat.mul_pos (by omega) (by omega)) (by omega)
          unfold f_X10_upwards
          rw [pc_o, pc_o, o6_of3 (by omega), o6_of3 (by omega), o6_mul, o6_mul, if_pos (show (0 : Int64) < o6 (w * (q.1 * pz q)) from (o6_lt (a := 0) (by omega) (by omega)).mpr x3), show (1 : Int64) = o6 1 from rfl, o6_add, o6_sub (by omega), o6_dL (by omega) (by omega) (by omega), bd_some, bd_some, o6_of3 (by omega), o6_of3 (by omega), o6_of3 (by omega), o6_of3 (by omega), o6_mul, o6_mul, o6_mul, o6_mul, o6_add, o6_sub (by omega), o6_dL (by omega) (by omega) (by omega), bd_some]
          refine ⟨_, rfl, ?_, hR0⟩
          congr 2
          congr 1
          refine (cl_cross x3 x8 ?_).symm
          have y1 : v * (q'.1 * pz q') * (w * q'.2 * q.1) = v * q'.1 * w * q.1 * (pz q' * q'.2) := by
            have : ∀ A B C D E G : Nat, A * (B * C) * (D * E * G) = A * B * D * G * (C * E) := fun A B C D E G => by
              simp only [Nat.mul_left_comm, Nat.mul_comm]
            exact this _ _ _ _ _ _
          have y2 : v * q'.1 * q.2 * (w * (q.1 * pz q)) = v * q'.1 * w * q.1 * (pz q * q.2) := by
            have : ∀ A B C D E G : Nat, A * B * C * (D * (E * G)) = A * B * D * E * (G * C) := fun A B C D E G => by
              simp only [Nat.mul_left_comm, Nat.mul_comm]
            exact this _ _ _ _ _ _
          rw [y1, y2, z1, z1']
        · rw [if_neg h4, if_pos rfl, if_pos rfl]
          exact ⟨_, rfl, rfl, hR0⟩
      · rw [if_neg h3, if_pos rfl, if_pos rfl]
        exact ⟨_, rfl, rfl, hR0⟩
    · rw [if_neg h2, if_pos rfl, if_pos rfl]
      exact ⟨_, rfl, rfl, hR0⟩
  · rw [if_neg h1, if_pos rfl, if_pos rfl]
    exact ⟨_, rfl, rfl, hR0⟩
theorem t_22 (a1 a2 a3 a4 : Int32) (S : fS) (hR : Rel S) : ∃ r, f_X10_when a1 a2 a3 a4 S = some r ∧ f_X11_when a1 a2 a3 a4 S = some r ∧ Rel S := by
  have hR0 := hR
  obtain ⟨n, s, L, M, hT, ⟨⟨n1, n2, n3, n4, n5, n6⟩, ⟨b1, b2, b3, b4, b5⟩, ⟨m1, m2, m3, m4⟩, d⟩, hL, hM⟩ := hR
  have h8 := n5.1
  have i1 : f_X10_isFrom a3 0 9999 S = some (if ((0 : Nat) : Int) ≤ a3.toInt ∧ a3.toInt ≤ ((9999 : Nat) : Int) then 1 else 0) := from_c (a := 0) (b := 9999) (by omega) (by omega)
  unfold f_X10_when f_X11_when
  rw [ci_thing b3.1 (by omega), mi_thing m2.1 (by omega), bd_some, bd_some, ci_floor b1.1 (by omega), mi_floor m1.1 (by omega), bd_some, bd_some, i1, hour_m, bd_some, bd_some, part_c, part_m, bd_some, bd_some]
  by_cases h1 : 0 ≤ a1.toInt ∧ a1.toInt < s.2.2.1.1
  · rw [if_pos h1, if_neg (show ¬ (1 : Int32) = 0 by decide), if_neg (show ¬ (1 : Int32) = 0 by decide)]
    by_cases h2 : 0 ≤ a2.toInt ∧ a2.toInt < s.1.length
    · rw [if_pos h2, if_neg (show ¬ (1 : Int32) = 0 by decide), if_neg (show ¬ (1 : Int32) = 0 by decide)]
      by_cases h3 : ((0 : Nat) : Int) ≤ a3.toInt ∧ a3.toInt ≤ ((9999 : Nat) : Int)
      · rw [if_pos h3, if_neg (show ¬ (1 : Int32) = 0 by decide), if_neg (show ¬ (1 : Int32) = 0 by decide)]
        by_cases h4 : ((0 : Nat) : Int) ≤ a4.toInt ∧ a4.toInt ≤ ((1 : Nat) : Int)
        · rw [if_pos h4, if_neg (show ¬ (1 : Int32) = 0 by decide), if_neg (show ¬ (1 : Int32) = 0 by decide)]
          obtain ⟨f, e1, e2⟩ := o3_ex h1.1
          obtain ⟨g, e3, e4⟩ := o3_ex h2.1
          obtain ⟨v, e5, e6⟩ := o3_ex (x := a3) (by omega)
          have hf : f < s.2.2.1.1 := by omega
          have hg : g < s.1.length := by omega
          obtain ⟨a, g1, g2⟩ := age_o n5 hf
          have hq := n3 _ (gd_mem (d := (0, 0)) hg)
          have gc : gL S 16 8 (o3 f) = some (o6 a) := (gL_o (by omega) (by omega)).trans (congrArg some (((b3.2.2 f hf).2.2.2.2).trans g1))
          have gm : gL S 158 8 (o3 f) = some (o6 a) := (gL_o (by omega) (by omega)).trans (congrArg some (((m2.2.2 f hf).2.2.2.2).trans g1))
          rw [e1, e3, e5, gc, gm, bd_some, bd_some, cf_p b1 n1 hg, bd_some, mp_floor m1 n3 n1 hg, bd_some]
          generalize s.1.getD g (0, 0) = q at hq
          have hp := pcn_le hq
          rw [pc_o, show (232792560 : Int64) = o6 232792560 from rfl, o6_of3 (by omega), o6_mul]
          by_cases h5 : a ≤ v * 232792560
          · rw [o6_sub h5, if_pos (o6_0le (by omega)), if_pos (o6_0le (by omega)), c_low (by omega) (by omega) hp.1, bd_some]
            by_cases h6 : v * 232792560 - a = 0
            · rw [h6, if_pos (show o6 0 = (0 : Int64) from rfl)]
              refine ⟨_, rfl, ?_, hR0⟩
              congr 1
              unfold lw
              rw [Nat.gcd_zero_left]
              by_cases h7 : a4 = 0
              · rw [if_pos h7, h7, Nat.zero_div]; rfl
              · have : a4 = 1 := by
                  have : a4.toInt ≠ 0 := fun z => h7 (ni_eq.mpr z)
                  exact ni_eq.mpr (by show a4.toInt = 1; omega)
                rw [if_neg h7, this, Nat.div_self hp.1]; rfl
            · rw [if_neg (o6_ne0 (by omega) h6), m_low (by omega) (by omega) hp.1, bd_some]
              exact ⟨_, rfl, rfl, hR0⟩
          · have hn : ¬ (0 : Int64) ≤ o6 (v * 232792560) - o6 a := fun z => by
              have z := nl_le.mp z
              rw [nl_sub (by rw [o6_int (by omega), o6_int (by omega)]; omega) (by rw [o6_int (by omega), o6_int (by omega)]; omega), o6_int (by omega), o6_int (by omega), nl_0] at z
              omega
            rw [if_neg hn, if_neg hn]
            exact ⟨_, rfl, rfl, hR0⟩
        · rw [if_neg h4, if_pos rfl, if_pos rfl]
          exact ⟨_, rfl, rfl, hR0⟩
      · rw [if_neg h3, if_pos rfl, if_pos rfl]
        exact ⟨_, rfl, rfl, hR0⟩
    · rw [if_neg h2, if_pos rfl, if_pos rfl]
      exact ⟨_, rfl, rfl, hR0⟩
  · rw [if_neg h1, if_pos rfl, if_pos rfl]
    exact ⟨_, rfl, rfl, hR0⟩
theorem t_23 (a1 a2 a3 : Int32) (S : fS) (hR : Rel S) : ∃ r, f_X10_shown a1 a2 a3 S = some r ∧ f_X11_shown a1 a2 a3 S = some r ∧ Rel S := by
  have hR0 := hR
  obtain ⟨n, s, L, M, hT, ⟨⟨n1, n2, n3, n4, n5, n6⟩, ⟨b1, b2, b3, b4, b5⟩, ⟨m1, m2, m3, m4⟩, d⟩, hL, hM⟩ := hR
  have i1 : f_X10_isFrom a3 0 1 S = some (if ((0 : Nat) : Int) ≤ a3.toInt ∧ a3.toInt ≤ ((1 : Nat) : Int) then 1 else 0) := from_c (a := 0) (b := 1) (by omega) (by omega)
  unfold f_X10_shown f_X11_shown
  rw [ci_floor b1.1 (by omega), mi_floor m1.1 (by omega), bd_some, bd_some, hour_c, hour_m, bd_some, bd_some, i1, part_m, bd_some, bd_some]
  by_cases h1 : 0 ≤ a1.toInt ∧ a1.toInt < s.1.length
  · rw [if_pos h1, if_neg (show ¬ (1 : Int32) = 0 by decide), if_neg (show ¬ (1 : Int32) = 0 by decide)]
    by_cases h2 : ((0 : Nat) : Int) ≤ a2.toInt ∧ a2.toInt ≤ ((9999 : Nat) : Int)
    · rw [if_pos h2, if_neg (show ¬ (1 : Int32) = 0 by decide), if_neg (show ¬ (1 : Int32) = 0 by decide)]
      by_cases h3 : ((0 : Nat) : Int) ≤ a3.toInt ∧ a3.toInt ≤ ((1 : Nat) : Int)
      · rw [if_pos h3, if_neg (show ¬ (1 : Int32) = 0 by decide), if_neg (show ¬ (1 : Int32) = 0 by decide)]
        obtain ⟨f, e1, e2⟩ := o3_ex h1.1
        obtain ⟨v, e3, e4⟩ := o3_ex (x := a2) (by omega)
        have hf : f < s.1.length := by omega
        have hq := n3 _ (gd_mem (d := (0, 0)) hf)
        unfold f_X8_clockAt
        rw [e1, e3, show gL S (4 + 1) 10 (o3 f) = some (pc (s.1.getD f (0, 0))) from cf_p b1 n1 hf, mf_a m1 n1 hf, mf_b m1 n1 hf, bd_some, bd_some, bd_some, bd_some]
        generalize s.1.getD f (0, 0) = q at hq
        have hp := pcn_le hq
        obtain ⟨z1, z2, z3⟩ := pz_eq hq
        obtain ⟨q1, q2, q3, q4⟩ := hq
        have x1 : v * (q.1 * pz q) ≤ 9999 * 4655851200 := Nat.mul_le_mul (by omega) hp.2
        have x2 : v * q.1 ≤ 9999 * 20 := Nat.mul_le_mul (by omega) q2
        have x3 : v * q.1 / q.2 ≤ v * q.1 := Nat.div_le_self _ _
        have k0 : v * (q.1 * pz q) / 232792560 = v * q.1 / q.2 := by
          rw [← Nat.mul_assoc, ← z1, Nat.mul_comm (pz q) q.2]
          exact Nat.mul_div_mul_right _ _ z2
        have k1 : v * (q.1 * pz q) / 5587021440 = v * q.1 / q.2 / 24 := by
          rw [← k0, Nat.div_div_eq_div_mul]
        have k2 : v * (q.1 * pz q) % 5587021440 / 232792560 = v * q.1 / q.2 % 24 := by
          rw [← k0, show 5587021440 = 232792560 * 24 from rfl, Nat.mod_mul_right_div_self]
        have x4 : v * q.1 / q.2 / 24 ≤ v * q.1 / q.2 := Nat.div_le_self _ _
        have x5 : v * q.1 / q.2 % 24 < 24 := Nat.mod_lt _ (by omega)
        have x6 : v * (q.1 * pz q) % 5587021440 < 5587021440 := Nat.mod_lt _ (by omega)
        rw [o3_mul, o3_dI (by omega) (by omega) (by omega), bd_some, pc_o, o6_of3 (by omega), o6_mul, show (5587021440 : Int64) = o6 5587021440 from rfl, show (24 : Int32) = o3 24 from rfl, o6_dL (by omega) (by omega) (by omega), o6_rL (by omega) (by omega) (by omega), bd_some, bd_some, show (232792560 : Int64) = o6 232792560 from rfl, o6_dL (by omega) (by omega) (by omega), bd_some, k1, k2, o6_to3 (by omega), o6_to3 (by omega), o3_dI (by omega) (by omega) (by omega), o3_rI (by omega) (by omega) (by omega), bd_some, bd_some]
        by_cases h4 : a3 = 0
        · rw [if_pos h4]
          exact ⟨_, rfl, rfl, hR0⟩
        · rw [if_neg h4]
          exact ⟨_, rfl, rfl, hR0⟩
      · rw [if_neg h3, if_pos rfl, if_pos rfl]
        exact ⟨_, rfl, rfl, hR0⟩
    · rw [if_neg h2, if_pos rfl, if_pos rfl]
      exact ⟨_, rfl, rfl, hR0⟩
  · rw [if_neg h1, if_pos rfl, if_pos rfl]
    exact ⟨_, rfl, rfl, hR0⟩
theorem t_25 (a1 a2 : Int32) (S : fS) (hR : Rel S) : ∃ r, f_X10_due a1 a2 S = some r ∧ f_X11_due a1 a2 S = some r ∧ Rel S := by
  have hR0 := hR
  obtain ⟨n, s, L, M, hT, ⟨⟨n1, n2, n3, n4, n5, n6⟩, ⟨b1, b2, b3, b4, b5⟩, ⟨m1, m2, m3, m4⟩, d⟩, hL, hM⟩ := hR
  have i1 : f_X10_isFrom a2 0 9999 S = some (if ((0 : Nat) : Int) ≤ a2.toInt ∧ a2.toInt ≤ ((9999 : Nat) : Int) then 1 else 0) := from_c (a := 0) (b := 9999) (by omega) (by omega)
  unfold f_X10_due f_X11_due
  rw [ci_floor b1.1 (by omega), mi_floor m1.1 (by omega), bd_some, bd_some, i1, hour_m, bd_some, bd_some]
  by_cases h1 : 0 ≤ a1.toInt ∧ a1.toInt < s.1.length
  · rw [if_pos h1, if_neg (show ¬ (1 : Int32) = 0 by decide), if_neg (show ¬ (1 : Int32) = 0 by decide)]
    by_cases h2 : ((0 : Nat) : Int) ≤ a2.toInt ∧ a2.toInt ≤ ((9999 : Nat) : Int)
    · rw [if_pos h2, if_neg (show ¬ (1 : Int32) = 0 by decide), if_neg (show ¬ (1 : Int32) = 0 by decide)]
      obtain ⟨f, e1, e2⟩ := o3_ex h1.1
      obtain ⟨v, e3, e4⟩ := o3_ex (x := a2) (by omega)
      have hf : f < s.1.length := by omega
      have hq := n3 _ (gd_mem (d := (0, 0)) hf)
      rw [e1, e3, cf_p b1 n1 hf, mf_a m1 n1 hf, mf_b m1 n1 hf, bd_some, bd_some, bd_some]
      generalize s.1.getD f (0, 0) = q at hq
      have hp := pcn_le hq
      obtain ⟨z1, z2, z3⟩ := pz_eq hq
      obtain ⟨q1, q2, q3, q4⟩ := hq
      have x2 : 24 * v * q.2 ≤ 24 * 9999 * 20 := Nat.mul_le_mul (by omega) q4
      have kk : (v * 5587021440 + q.1 * pz q - 1) / (q.1 * pz q) = (24 * v * q.2 + q.1 - 1) / q.1 := by
        refine cl_cross hp.1 (by omega) ?_
        have : ∀ A B C D : Nat, 24 * A * B * (C * D) = 24 * A * C * (D * B) := fun A B C D => by
          simp only [Nat.mul_assoc, Nat.mul_left_comm, Nat.mul_comm]
        rw [this, z1, show 5587021440 = 24 * 232792560 from rfl, Nat.mul_comm 24 v, Nat.mul_assoc v 24 q.1, Nat.mul_assoc v, Nat.mul_assoc v]
        congr 1
        rw [Nat.mul_right_comm]
      have x3 : (24 * v * q.2 + q.1 - 1) / q.1 ≤ 24 * v * q.2 + q.1 - 1 := Nat.div_le_self _ _
      unfold f_X10_upwards
      rw [pc_o, show (5587021440 : Int64) = o6 5587021440 from rfl, o6_of3 (by omega), o6_mul, if_pos (show (0 : Int64) < o6 (q.1 * pz q) from (o6_lt (a := 0) (by omega) (by omega)).mpr hp.1), show (1 : Int64) = o6 1 from rfl, o6_add, o6_sub (by omega), o6_dL (by omega) (by omega) (by omega), bd_some, bd_some, kk, o6_to3 (by omega), show (24 : Int32) = o3 24 from rfl, show (1 : Int32) = o3 1 from rfl, o3_mul, o3_mul, o3_add, o3_sub (by omega), o3_dI (by omega) (by omega) (by omega), bd_some]
      exact ⟨_, rfl, rfl, hR0⟩
    · rw [if_neg h2, if_pos rfl, if_pos rfl]
      exact ⟨_, rfl, rfl, hR0⟩
  · rw [if_neg h1, if_pos rfl, if_pos rfl]
    exact ⟨_, rfl, rfl, hR0⟩
end
noncomputable section
/-! noonsIn, even -/
def nu (N D : Nat) : Nat := if 12 * D ≤ N then (N - 12 * D) / (24 * D) + 1 else 0
theorem nu_sc {N D z : Nat} (hz : 0 < z) : nu (N * z) (D * z) = nu N D := by
  unfold nu
  rw [← Nat.mul_assoc, ← Nat.mul_assoc]
  by_cases h : 12 * D ≤ N
  · rw [if_pos h, if_pos (Nat.mul_le_mul_right z h), ← Nat.sub_mul, Nat.mul_div_mul_right _ _ hz]
  · rw [if_neg h, if_neg (fun q => h (Nat.le_of_mul_le_mul_right q hz))]
theorem nu_sc1 {N D z : Nat} (hz : 0 < z) (hN : 0 < N) : nu (N * z - 1) (D * z) = nu (N - 1) D := by
  unfold nu
  rw [← Nat.mul_assoc, ← Nat.mul_assoc]
  have h3 : 1 * z ≤ N * z := Nat.mul_le_mul_right z hN
  by_cases h : 12 * D ≤ N - 1
  · have h1 : (12 * D + 1) * z ≤ N * z := Nat.mul_le_mul_right z (by omega)
    have h2 : (12 * D + 1) * z = 12 * D * z + z := Nat.succ_mul _ _
    rw [if_pos h, if_pos (by omega)]
    have e : N * z - 1 - 12 * D * z = (z - 1) + (N - 1 - 12 * D) * z := by
      have h4 : (N - 1 - 12 * D) * z = N * z - (12 * D + 1) * z := by rw [show N - 1 - 12 * D = N - (12 * D + 1) by omega, Nat.sub_mul]
      omega
    rw [e, Nat.mul_comm (24 * D) z, ← Nat.div_div_eq_div_mul, Nat.add_mul_div_right _ _ hz, show (z - 1) / z = 0 from Nat.div_eq_of_lt (by omega), Nat.zero_add]
  · have h1 : N * z ≤ 12 * D * z := Nat.mul_le_mul_right z (by omega)
    rw [if_neg h, if_neg (by omega)]
theorem c_nu {N : Nat} {S : fS} (hN : N < 900000000000000) : f_X10_noonsUpTo (o6 N) S = some (o6 (nu N 232792560)) := by
  unfold f_X10_noonsUpTo nu
  rw [show (2793510720 : Int64) = o6 2793510720 from rfl, show (5587021440 : Int64) = o6 5587021440 from rfl]
  by_cases h : 12 * 232792560 ≤ N
  · rw [if_pos ((o6_le (by omega) (by omega)).mpr h), if_pos h, o6_sub h, o6_dL (by omega) (by omega) (by omega), bd_some, show (1 : Int64) = o6 1 from rfl, o6_add]
  · rw [if_neg (fun q => h ((o6_le (by omega) (by omega)).mp q)), if_neg h]
    rfl
theorem m_nu {N D : Nat} {S : fS} (hN : N < 1000000) (hD : 0 < D ∧ D ≤ 20) : f_X11_noonsTill (o3 N) (o3 D) S = some (o3 (nu N D)) := by
  unfold f_X11_noonsTill nu
  rw [show (12 : Int32) = o3 12 from rfl, show (24 : Int32) = o3 24 from rfl, o3_mul, o3_mul]
  by_cases h : 12 * D ≤ N
  · rw [if_pos ((o3_le (by omega) (by omega)).mpr h), if_pos h, o3_sub h, o3_dI (by omega) (by omega) (by omega), bd_some, o3_s]
  · rw [if_neg (fun q => h ((o3_le (by omega) (by omega)).mp q)), if_neg h]
    rfl
theorem nu_le {N D : Nat} : nu N D ≤ N + 1 := by
  unfold nu
  split
  · have := Nat.div_le_self (N - 12 * D) (24 * D)
    omega
  · omega
theorem t_24 (a1 a2 a3 : Int32) (S : fS) (hR : Rel S) : ∃ r, f_X10_noonsIn a1 a2 a3 S = some r ∧ f_X11_noonsIn a1 a2 a3 S = some r ∧ Rel S := by
  have hR0 := hR
  obtain ⟨n, s, L, M, hT, ⟨⟨n1, n2, n3, n4, n5, n6⟩, ⟨b1, b2, b3, b4, b5⟩, ⟨m1, m2, m3, m4⟩, d⟩, hL, hM⟩ := hR
  unfold f_X10_noonsIn f_X11_noonsIn
  rw [ci_floor b1.1 (by omega), mi_floor m1.1 (by omega), bd_some, bd_some, hour_c, hour_m, bd_some, bd_some, show (9999 : Int64) = Int32.toInt64 9999 from rfl, op_in]
  by_cases h1 : 0 ≤ a1.toInt ∧ a1.toInt < s.1.length
  · rw [if_pos h1, if_neg (show ¬ (1 : Int32) = 0 by decide), if_neg (show ¬ (1 : Int32) = 0 by decide)]
    by_cases h2 : ((0 : Nat) : Int) ≤ a2.toInt ∧ a2.toInt ≤ ((9999 : Nat) : Int)
    · rw [if_pos h2, if_neg (show ¬ (1 : Int32) = 0 by decide), if_neg (show ¬ (1 : Int32) = 0 by decide)]
      rcases op_isFrom01 (v := a3) (a := a2) (b := 9999) (S := S) with ⟨h, g⟩ | ⟨h, g1, g2⟩
      · rw [h, bd_some, bd_some, if_pos rfl, if_pos rfl]
        exact ⟨_, rfl, rfl, hR0⟩
      · rw [h, bd_some, bd_some, if_neg (show ¬ (1 : Int32) = 0 by decide), if_neg (show ¬ (1 : Int32) = 0 by decide)]
        rw [show (9999 : Int32).toInt = 9999 from rfl] at g2
        obtain ⟨f, e1, e2⟩ := o3_ex h1.1
        obtain ⟨u, e3, e4⟩ := o3_ex (x := a2) (by omega)
        obtain ⟨v, e5, e6⟩ := o3_ex (x := a3) (by omega)
        have hf : f < s.1.length := by omega
        have hq := n3 _ (gd_mem (d := (0, 0)) hf)
        unfold f_X8_clockAt
        rw [e1, e3, e5, show gL S (4 + 1) 10 (o3 f) = some (pc (s.1.getD f (0, 0))) from cf_p b1 n1 hf, mf_a m1 n1 hf, mf_b m1 n1 hf, bd_some, bd_some, bd_some, bd_some, bd_some, bd_some]
        generalize s.1.getD f (0, 0) = q at hq
        have hp := pcn_le hq
        obtain ⟨z1, z2, z3⟩ := pz_eq hq
        obtain ⟨q1, q2, q3, q4⟩ := hq
        have x1 : u * (q.1 * pz q) ≤ 9999 * 4655851200 := Nat.mul_le_mul (by omega) hp.2
        have x2 : v * (q.1 * pz q) ≤ 9999 * 4655851200 := Nat.mul_le_mul (by omega) hp.2
        have x3 : u * q.1 ≤ 9999 * 20 := Nat.mul_le_mul (by omega) q2
        have x4 : v * q.1 ≤ 9999 * 20 := Nat.mul_le_mul (by omega) q2
        have hnu : nu (v * (q.1 * pz q)) 232792560 = nu (v * q.1) q.2 := by
          rw [← Nat.mul_assoc, ← z1, Nat.mul_comm (pz q) q.2, nu_sc z2]
        rw [pc_o, o6_of3 (by omega), o6_of3 (by omega), o6_mul, o6_mul, c_nu (by omega), bd_some, o3_mul, o3_mul, m_nu (by omega) (by omega), bd_some, hnu]
        by_cases hu : u = 0
        · rw [hu, Nat.zero_mul, Nat.zero_mul]
          have c0 : f_X10_noonsUpTo (o6 0 - 1) S = some 0 := by
            unfold f_X10_noonsUpTo
            rw [if_neg (show ¬ (2793510720 : Int64) ≤ o6 0 - 1 by decide)]
          have c1 : f_X11_noonsTill (o3 0 - 1) (o3 q.2) S = some 0 := by
            unfold f_X11_noonsTill
            rw [show (12 : Int32) = o3 12 from rfl, o3_mul, if_neg (fun z => by
              have z := ni_le.mp z
              rw [o3_int (by omega), show (o3 0 - 1 : Int32).toInt = -1 from rfl] at z
              omega)]
          rw [c0, c1, bd_some, bd_some, show (o6 (nu (v * q.1) q.2) - 0 : Int64) = o6 (nu (v * q.1) q.2) from Int64.sub_zero _, show (o3 (nu (v * q.1) q.2) - 0 : Int32) = o3 (nu (v * q.1) q.2) from Int32.sub_zero _, o6_to3 (by have := nu_le (N := v * q.1) (D := q.2); omega)]
          exact ⟨_, rfl, rfl, hR0⟩
        · have hu1 : 0 < u * q.1 := Nat.mul_pos (by omega) (by omega)
          have hu2 : 0 < u * (q.1 * pz q) := Nat.mul_pos (by omega) hp.1
          have hnu1 : nu (u * (q.1 * pz q) - 1) 232792560 = nu (u * q.1 - 1) q.2 := by
            rw [← Nat.mul_assoc, ← z1, Nat.mul_comm (pz q) q.2, nu_sc1 z2 hu1]
          rw [show (1 : Int64) = o6 1 from rfl, o6_sub (by omega), c_nu (by omega), bd_some, show (1 : Int32) = o3 1 from rfl, o3_sub (by omega), m_nu (by omega) (by omega), bd_some, hnu1, Int64.toInt32_sub, o6_to3 (by have := nu_le (N := v * q.1) (D := q.2); omega), o6_to3 (by have := nu_le (N := u * q.1 - 1) (D := q.2); omega)]
          exact ⟨_, rfl, rfl, hR0⟩
    · rw [if_neg h2, if_pos rfl, if_pos rfl]
      exact ⟨_, rfl, rfl, hR0⟩
  · rw [if_neg h1, if_pos rfl, if_pos rfl]
    exact ⟨_, rfl, rfl, hR0⟩
/-- a difference of two numbers: how it stands -/
theorem df_cs {a b : Nat} (ha : a < 4000000000000000000) (hb : b < 4000000000000000000) : (a = b ∧ o6 a - o6 b = 0) ∨ (b < a ∧ o6 a - o6 b = o6 (a - b)) ∨ (a < b ∧ o6 a - o6 b = -(o6 (b - a))) := by
  have hs : (o6 a - o6 b).toInt = (a : Int) - b := by rw [nl_sub (by rw [o6_int (by omega), o6_int (by omega)]; omega) (by rw [o6_int (by omega), o6_int (by omega)]; omega), o6_int (by omega), o6_int (by omega)]
  rcases Nat.lt_trichotomy a b with h | h | h
  · refine Or.inr (Or.inr ⟨h, nl_eq.mpr ?_⟩)
    rw [hs, Int64.toInt_neg, o6_int (by omega)]
    rw [nl_bm (by omega) (by omega)]
    omega
  · exact Or.inl ⟨h, nl_eq.mpr (by rw [hs, nl_0]; omega)⟩
  · exact Or.inr (Or.inl ⟨h, o6_sub (by omega)⟩)
theorem ng_int {m : Nat} (h : m < 9223372036854775808) : (-(o6 m)).toInt = -(m : Int) := by
  rw [Int64.toInt_neg, o6_int h, nl_bm (by omega) (by omega)]
theorem ng_ng {m : Nat} (h : m < 9223372036854775808) : -(-(o6 m)) = o6 m := nl_eq.mpr (by rw [Int64.toInt_neg, ng_int h, o6_int h, nl_bm (by omega) (by omega)]; omega)
theorem ng_div {a b : Nat} (ha : a < 9223372036854775808) (hb : b < 9223372036854775808) : -(o6 a) / o6 b = -(o6 (a / b)) := by
  have h1 : a / b ≤ a := Nat.div_le_self a b
  rw [nl_eq, Int64.toInt_div, ng_int ha, o6_int hb, ng_int (by omega), Int.neg_tdiv]
  have e : (a : Int).tdiv (b : Int) = ((a / b : Nat) : Int) := by
    rw [Int.tdiv_eq_ediv_of_nonneg (by omega)]
    exact (Int.natCast_ediv a b).symm
  rw [e]
  clear e
  generalize a / b = q at h1
  exact nl_bm (by omega) (by omega)
theorem ng_abs {m : Nat} {S : fS} (h : m < 9223372036854775808) (h0 : m ≠ 0) : f_J9_abs_067f4 (-(o6 m)) S = some (o6 m) := by
  unfold f_J9_abs_067f4
  rw [if_neg (fun q => by have q := nl_le.mp q; rw [ng_int h, nl_0] at q; omega), ng_ng h]
theorem ps_abs {m : Nat} {S : fS} (h : m < 9223372036854775808) : f_J9_abs_067f4 (o6 m) S = some (o6 m) := by
  unfold f_J9_abs_067f4
  rw [if_pos (o6_0le h)]
theorem ev_p {a b : Nat} {v : Int32} {S : fS} (ha : a < 9223372036854775808) (hb : b < 9223372036854775808) (h0 : 0 < b) : ((f_X11_divisor (o6 a) (o6 b) S).bind fun q79 => if v = (0 : Int32) then ((dL (o6 a) q79).bind fun a87 => if (0 : Int64) ≤ a87 then (some a87) else (some (-a87))) else ((dL (o6 b) q79).bind fun a83 => if (0 : Int64) ≤ a83 then (some a83) else (some (-a83)))) = some (lw a b v) := by
  obtain ⟨g1, g2⟩ := gcd_lt ha hb h0
  have k1 := Nat.div_le_self a (Nat.gcd a b)
  have k2 := Nat.div_le_self b (Nat.gcd a b)
  rw [m_cd ha hb, bd_some, o6_dL ha g1 g2, o6_dL hb g1 g2, bd_some, bd_some, if_pos (o6_0le (by omega)), if_pos (o6_0le (by omega))]
  unfold lw
  split <;> rfl
theorem ev_n {a b : Nat} {v : Int32} {S : fS} (ha : a < 9223372036854775808) (hb : b < 9223372036854775808) (ha0 : 0 < a) (h0 : 0 < b) : ((f_X11_divisor (-(o6 a)) (-(o6 b)) S).bind fun q79 => if v = (0 : Int32) then ((dL (-(o6 a)) q79).bind fun a87 => if (0 : Int64) ≤ a87 then (some a87) else (some (-a87))) else ((dL (-(o6 b)) q79).bind fun a83 => if (0 : Int64) ≤ a83 then (some a83) else (some (-a83)))) = some (lw a b v) := by
  obtain ⟨g1, g2⟩ := gcd_lt ha hb h0
  have k1 := Nat.div_le_self a (Nat.gcd a b)
  have k2 := Nat.div_le_self b (Nat.gcd a b)
  have hd : f_X11_divisor (-(o6 a)) (-(o6 b)) S = f_X11_divisor (o6 a) (o6 b) S := by
    unfold f_X11_divisor
    rw [if_neg (fun q => by have q := nl_le.mp q; rw [ng_int ha, nl_0] at q; omega), if_neg (fun q => by have q := nl_le.mp q; rw [ng_int hb, nl_0] at q; omega), ng_ng ha, ng_ng hb, if_pos (o6_0le ha), if_pos (o6_0le hb)]
  have dn : ∀ m, m < 9223372036854775808 → dL (-(o6 m)) (o6 (Nat.gcd a b)) = some (-(o6 (m / Nat.gcd a b))) := fun m hm => by
    unfold dL
    rw [if_neg (o6_ne0 g1 g2), ng_div hm g1]
  have ab : ∀ m, m < 9223372036854775808 → (if (0 : Int64) ≤ -(o6 m) then some (-(o6 m)) else some (-(-(o6 m)))) = some (o6 m) := fun m hm => by
    by_cases hm0 : m = 0
    · rw [hm0]; rfl
    · rw [if_neg (fun q => by have q := nl_le.mp q; rw [ng_int hm, nl_0] at q; omega), ng_ng hm]
  rw [hd, m_cd ha hb, bd_some, dn a ha, dn b hb, bd_some, bd_some, ab _ (by omega), ab _ (by omega)]
  unfold lw
  split <;> rfl
theorem ev_c {v : Int32} {a b : Nat} {S : fS} (ha : a < 9223372036854775808) (hb : b < 9223372036854775808) (h0 : 0 < b) (x y : Int64) (hx : f_J9_abs_067f4 x S = some (o6 a)) (hy : f_J9_abs_067f4 y S = some (o6 b)) : ((f_J9_abs_067f4 x S).bind fun q39 => (f_J9_abs_067f4 y S).bind fun q42 => (f_X10_lowest q39 q42 v S).bind fun q45 => some q45) = some (lw a b v) := by
  rw [hx, hy, bd_some, bd_some, c_low ha hb h0, bd_some]
theorem t_17 (a1 a2 a3 a4 a5 : Int32) (S : fS) (hR : Rel S) : ∃ r, f_X10_even a1 a2 a3 a4 a5 S = some r ∧ f_X11_even a1 a2 a3 a4 a5 S = some r ∧ Rel S := by
  have hR0 := hR
  obtain ⟨n, s, L, M, hT, ⟨⟨n1, n2, n3, n4, n5, n6⟩, ⟨b1, b2, b3, b4, b5⟩, ⟨m1, m2, m3, m4⟩, d⟩, hL, hM⟩ := hR
  have h8 := n5.1
  unfold f_X10_even f_X11_even
  rw [ci_thing b3.1 (by omega), mi_thing m2.1 (by omega), ci_thing b3.1 (by omega), mi_thing m2.1 (by omega), ci_floor b1.1 (by omega), mi_floor m1.1 (by omega), ci_floor b1.1 (by omega), mi_floor m1.1 (by omega), part_c, part_m]
  simp only [bd_some]
  by_cases h1 : 0 ≤ a1.toInt ∧ a1.toInt < s.2.2.1.1
  · rw [if_pos h1, if_neg (show ¬ (1 : Int32) = 0 by decide), if_neg (show ¬ (1 : Int32) = 0 by decide)]
    by_cases h2 : 0 ≤ a2.toInt ∧ a2.toInt < s.2.2.1.1
    · rw [if_pos h2, if_neg (show ¬ (1 : Int32) = 0 by decide), if_neg (show ¬ (1 : Int32) = 0 by decide)]
      by_cases h12 : a1 = a2
      · rw [if_pos h12, if_pos h12]
        exact ⟨_, rfl, rfl, hR0⟩
      rw [if_neg h12, if_neg h12]
      by_cases h3 : 0 ≤ a3.toInt ∧ a3.toInt < s.1.length
      · rw [if_pos h3, if_neg (show ¬ (1 : Int32) = 0 by decide), if_neg (show ¬ (1 : Int32) = 0 by decide)]
        by_cases h4 : 0 ≤ a4.toInt ∧ a4.toInt < s.1.length
        · rw [if_pos h4, if_neg (show ¬ (1 : Int32) = 0 by decide), if_neg (show ¬ (1 : Int32) = 0 by decide)]
          by_cases h5 : ((0 : Nat) : Int) ≤ a5.toInt ∧ a5.toInt ≤ ((1 : Nat) : Int)
          · rw [if_pos h5, if_neg (show ¬ (1 : Int32) = 0 by decide), if_neg (show ¬ (1 : Int32) = 0 by decide)]
            obtain ⟨f, e1, e2⟩ := o3_ex h1.1
            obtain ⟨g, e3, e4⟩ := o3_ex h2.1
            obtain ⟨p, e5, e6⟩ := o3_ex h3.1
            obtain ⟨q, e7, e8⟩ := o3_ex h4.1
            have hf : f < s.2.2.1.1 := by omega
            have hg : g < s.2.2.1.1 := by omega
            have hp : p < s.1.length := by omega
            have hq : q < s.1.length := by omega
            obtain ⟨a, u1, u2⟩ := age_o n5 hf
            obtain ⟨b, w1, w2⟩ := age_o n5 hg
            have gc : gL S 16 8 (o3 f) = some (o6 a) := (gL_o (by omega) (by omega)).trans (congrArg some (((b3.2.2 f hf).2.2.2.2).trans u1))
            have gm : gL S 158 8 (o3 f) = some (o6 a) := (gL_o (by omega) (by omega)).trans (congrArg some (((m2.2.2 f hf).2.2.2.2).trans u1))
            have gc' : gL S 16 8 (o3 g) = some (o6 b) := (gL_o (by omega) (by omega)).trans (congrArg some (((b3.2.2 g hg).2.2.2.2).trans w1))
            have gm' : gL S 158 8 (o3 g) = some (o6 b) := (gL_o (by omega) (by omega)).trans (congrArg some (((m2.2.2 g hg).2.2.2.2).trans w1))
            have hok := pcn_le (n3 _ (gd_mem (d := (0, 0)) hp))
            have hok' := pcn_le (n3 _ (gd_mem (d := (0, 0)) hq))
            rw [e1, e3, e5, e7, gc, gm, gc', gm', cf_p b1 n1 hp, cf_p b1 n1 hq, mp_floor m1 n3 n1 hp, mp_floor m1 n3 n1 hq, pc_o, pc_o]
            simp only [bd_some]
            generalize (s.1.getD p (0, 0)).1 * pz (s.1.getD p (0, 0)) = x at hok
            generalize (s.1.getD q (0, 0)).1 * pz (s.1.getD q (0, 0)) = y at hok'
            rcases df_cs (a := b) (b := a) (by omega) (by omega) with ⟨_, c1⟩ | ⟨c0, c1⟩ | ⟨c0, c1⟩
            · rw [c1, if_pos rfl, if_pos rfl, show (0 : Int64) = o6 0 from rfl, show (1 : Int64) = o6 1 from rfl, c_low (by omega) (by omega) (by omega), bd_some]
              refine ⟨_, rfl, ?_, hR0⟩
              congr 1
              unfold lw
              by_cases h7 : a5 = 0
              · rw [if_pos h7, h7]; rfl
              · have : a5 = 1 := by
                  have : a5.toInt ≠ 0 := fun z => h7 (ni_eq.mpr z)
                  exact ni_eq.mpr (by show a5.toInt = 1; omega)
                rw [if_neg h7, this]; rfl
            · rw [c1, if_neg (o6_ne0 (by omega) (by omega)), if_neg (o6_ne0 (by omega) (by omega)), if_pos (o6_0le (by omega)), if_neg (show ¬ o6 (b - a) ≤ 0 from fun q => by have q := (o6_le (b := 0) (by omega) (by omega)).mp q; omega)]
              rcases df_cs (a := x) (b := y) (by omega) (by omega) with ⟨_, c3⟩ | ⟨c2, c3⟩ | ⟨c2, c3⟩
              · rw [c3, if_pos rfl, if_pos rfl]
                exact ⟨_, rfl, rfl, hR0⟩
              · rw [c3, if_neg (o6_ne0 (by omega) (by omega)), if_neg (o6_ne0 (by omega) (by omega)), if_pos (o6_0le (by omega)), if_neg (show ¬ o6 (x - y) ≤ 0 from fun q => by have q := (o6_le (b := 0) (by omega) (by omega)).mp q; omega), if_pos trivial, if_pos trivial, ev_c (by omega) (by omega) (by omega) _ _ (ps_abs (by omega)) (ps_abs (by omega)), ev_p (by omega) (by omega) (by omega)]
                exact ⟨_, rfl, rfl, hR0⟩
              · have hn0 : ¬ -(o6 (y - x)) = 0 := fun q => by have q := nl_eq.mp q; rw [ng_int (by omega), nl_0] at q; omega
                rw [c3, if_neg hn0, if_neg hn0, if_neg (show ¬ (0 : Int64) ≤ -(o6 (y - x)) from fun q => by have q := nl_le.mp q; rw [ng_int (by omega), nl_0] at q; omega), if_pos (show -(o6 (y - x)) ≤ 0 from nl_le.mpr (by rw [ng_int (by omega), nl_0]; omega)), if_neg (by decide), if_neg (by decide)]
                exact ⟨_, rfl, rfl, hR0⟩
            · have hm0 : ¬ -(o6 (a - b)) = 0 := fun q => by have q := nl_eq.mp q; rw [ng_int (by omega), nl_0] at q; omega
              rw [c1, if_neg hm0, if_neg hm0, if_neg (show ¬ (0 : Int64) ≤ -(o6 (a - b)) from fun q => by have q := nl_le.mp q; rw [ng_int (by omega), nl_0] at q; omega), if_pos (show -(o6 (a - b)) ≤ 0 from nl_le.mpr (by rw [ng_int (by omega), nl_0]; omega))]
              rcases df_cs (a := x) (b := y) (by omega) (by omega) with ⟨_, c3⟩ | ⟨c2, c3⟩ | ⟨c2, c3⟩
              · rw [c3, if_pos rfl, if_pos rfl]
                exact ⟨_, rfl, rfl, hR0⟩
              · rw [c3, if_neg (o6_ne0 (by omega) (by omega)), if_neg (o6_ne0 (by omega) (by omega)), if_pos (o6_0le (by omega)), if_neg (show ¬ o6 (x - y) ≤ 0 from fun q => by have q := (o6_le (b := 0) (by omega) (by omega)).mp q; omega), if_neg (by decide), if_neg (by decide)]
                exact ⟨_, rfl, rfl, hR0⟩
              · have hn0 : ¬ -(o6 (y - x)) = 0 := fun q => by have q := nl_eq.mp q; rw [ng_int (by omega), nl_0] at q; omega
                rw [c3, if_neg hn0, if_neg hn0, if_neg (show ¬ (0 : Int64) ≤ -(o6 (y - x)) from fun q => by have q := nl_le.mp q; rw [ng_int (by omega), nl_0] at q; omega), if_pos (show -(o6 (y - x)) ≤ 0 from nl_le.mpr (by rw [ng_int (by omega), nl_0]; omega)), if_pos trivial, if_pos trivial, ev_c (by omega) (by omega) (by omega) _ _ (ng_abs (by omega) (by omega)) (ng_abs (by omega) (by omega)), ev_n (by omega) (by omega) (by omega) (by omega)]
                exact ⟨_, rfl, rfl, hR0⟩
          · rw [if_neg h5, if_pos rfl, if_pos rfl]
            exact ⟨_, rfl, rfl, hR0⟩
        · rw [if_neg h4, if_pos rfl, if_pos rfl]
          exact ⟨_, rfl, rfl, hR0⟩
      · rw [if_neg h3, if_pos rfl, if_pos rfl]
        exact ⟨_, rfl, rfl, hR0⟩
    · rw [if_neg h2, if_pos rfl, if_pos rfl]
      exact ⟨_, rfl, rfl, hR0⟩
  · rw [if_neg h1, if_pos rfl, if_pos rfl]
    exact ⟨_, rfl, rfl, hR0⟩
end
noncomputable section
/-! letters -/
def cfn (f : Nat → Bool) : Nat → Nat
  | 0 => 0
  | k + 1 => cfn f k + (if f k = true then 1 else 0)
theorem cfn_le {f : Nat → Bool} : ∀ k, cfn f k ≤ k := by
  intro k
  induction k with
  | zero => exact Nat.le_refl _
  | succ k ih =>
    show cfn f k + _ ≤ k + 1
    split <;> omega
section PO
variable {S : fS} {F : List (Nat × Nat)} {E : List St5} {P : Po}
def cmg (E : List St5) (P : Po) (k : Nat) : Nat := P.2.2.2 k + dst E (P.2.1 k) (P.2.2.1 k)
def stg (F : List (Nat × Nat)) (P : Po) (k : Nat) : Nat := P.2.2.2 k * ((F.getD (P.2.1 k) (0, 0)).1 * pz (F.getD (P.2.1 k) (0, 0)))
def ctg (F : List (Nat × Nat)) (E : List St5) (P : Po) (k : Nat) : Nat := cmg E P k * ((F.getD (P.2.2.1 k) (0, 0)).1 * pz (F.getD (P.2.2.1 k) (0, 0)))
theorem po_b (hF : ∀ q ∈ F, okF q) (hP : okP F.length (dst E) P) {k : Nat} (hk : k < P.1) : cmg E P k ≤ 109998 ∧ stg F P k ≤ 46553856148800 ∧ ctg F E P k ≤ 512134320297600 := by
  obtain ⟨p1, p2, p3, p4⟩ := hP.2 k hk
  have h1 := pcn_le (hF _ (gd_mem (d := (0, 0)) p1))
  have h2 := pcn_le (hF _ (gd_mem (d := (0, 0)) p2))
  have h3 : cmg E P k ≤ 109998 := by unfold cmg; omega
  refine ⟨h3, ?_, ?_⟩
  · have : stg F P k ≤ 9999 * 4655851200 := Nat.mul_le_mul p3 h1.2
    omega
  · have : ctg F E P k ≤ 109998 * 4655851200 := Nat.mul_le_mul h3 h2.2
    omega
theorem pc_sent (b1 : twC S 4 F E) (b4 : poC S 17 (dst E) P) (hF : ∀ q ∈ F, okF q) (hm : F.length ≤ 10) (hP : okP F.length (dst E) P) {k : Nat} (hk : k < P.1) : f_X2_sentByClock 17 4 (o3 k) S = some (o6 (stg F P k)) ∧ gI S 21 12 (o3 k) = some (o3 (cmg E P k)) ∧ f_X2_isEarly 17 4 (o3 k) S = some (if stg F P k ≤ ctg F E P k then 0 else 1) := by
  obtain ⟨c1, c2, c3, c4⟩ := b4.2 k hk
  obtain ⟨p1, p2, p3, p4⟩ := hP.2 k hk
  obtain ⟨w1, w2, w3⟩ := po_b hF hP hk
  have h12 := hP.1
  have e1 : f_X2_sentByClock 17 4 (o3 k) S = some (o6 (stg F P k)) := by
    unfold f_X2_sentByClock f_X8_clockAt
    rw [gI_o (by omega) (by omega), bd_some, gI_o (by omega) (by omega), bd_some, c1, c3, show gL S (4 + 1) 10 (o3 (P.2.1 k)) = some (pc (F.getD (P.2.1 k) (0, 0))) from cf_p b1 hm p1, bd_some, bd_some, pc_o, o6_of3 (by omega), o6_mul]
    rfl
  have e2 : gI S 21 12 (o3 k) = some (o3 (cmg E P k)) := (gI_o (by omega) (by omega)).trans (congrArg some c4)
  refine ⟨e1, e2, ?_⟩
  unfold f_X2_isEarly f_X8_clockAt
  rw [gI_o (by omega) (by omega), bd_some, show gI S (17 + 4) 12 (o3 k) = some (o3 (cmg E P k)) from e2, bd_some, c2, show gL S (4 + 1) 10 (o3 (P.2.2.1 k)) = some (pc (F.getD (P.2.2.1 k) (0, 0))) from cf_p b1 hm p2, bd_some, bd_some, e1, bd_some, pc_o, o6_of3 (by omega), o6_mul]
  by_cases h : stg F P k ≤ ctg F E P k
  · rw [if_pos h, if_pos (show o6 (stg F P k) ≤ o6 (cmg E P k * ((F.getD (P.2.2.1 k) (0, 0)).1 * pz (F.getD (P.2.2.1 k) (0, 0)))) from (o6_le (by omega) (by have : cmg E P k * ((F.getD (P.2.2.1 k) (0, 0)).1 * pz (F.getD (P.2.2.1 k) (0, 0))) = ctg F E P k := rfl; omega)).mpr h)]
  · rw [if_neg h, if_neg (show ¬ o6 (stg F P k) ≤ o6 (cmg E P k * ((F.getD (P.2.2.1 k) (0, 0)).1 * pz (F.getD (P.2.2.1 k) (0, 0)))) from fun q => h ((o6_le (by omega) (by have : cmg E P k * ((F.getD (P.2.2.1 k) (0, 0)).1 * pz (F.getD (P.2.2.1 k) (0, 0))) = ctg F E P k := rfl; omega)).mp q))]
theorem pm_of (m3 : poM (S.1 157) P) (h12 : P.1 ≤ 12) {k : Nat} (hk : k < P.1) : f_X11_letterOf (o3 k) 0 S = some (o3 (P.2.1 k)) ∧ f_X11_letterOf (o3 k) 1 S = some (o3 (P.2.2.1 k)) ∧ f_X11_letterOf (o3 k) 2 S = some (o3 (P.2.2.2 k)) := by
  obtain ⟨c1, c2, c3⟩ := m3.2 k hk
  have key : ∀ a, a < 3 → f_X11_letterOf (o3 k) (o3 a) S = some (S.1 157 (122 + 3 * k + a)) := fun a ha => by
    unfold f_X11_letterOf
    rw [show (122 : Int32) = o3 122 from rfl, show (3 : Int32) = o3 3 from rfl, o3_mul, o3_add, o3_add, gI_o (by omega) (by omega), bd_some]
  exact ⟨(key 0 (by omega)).trans (congrArg some c1), (key 1 (by omega)).trans (congrArg some c2), (key 2 (by omega)).trans (congrArg some c3)⟩
theorem pm_all (m1 : twM (S.1 157) F E) (m3 : poM (S.1 157) P) (d : rHm S F.length (dst E)) (hF : ∀ q ∈ F, okF q) (hm : F.length ≤ 10) (hP : okP F.length (dst E) P) {k : Nat} (hk : k < P.1) : f_X11_sentAt (o3 k) S = some (o6 (stg F P k)) ∧ f_X11_comesAt (o3 k) S = some (o3 (cmg E P k)) ∧ f_X11_isEarly (o3 k) S = some (if stg F P k ≤ ctg F E P k then 0 else 1) := by
  obtain ⟨c1, c2, c3⟩ := pm_of m3 hP.1 hk
  obtain ⟨p1, p2, p3, p4⟩ := hP.2 k hk
  obtain ⟨w1, w2, w3⟩ := po_b hF hP hk
  have e1 : f_X11_comesAt (o3 k) S = some (o3 (cmg E P k)) := by
    unfold f_X11_comesAt
    rw [c3, bd_some, c1, bd_some, c2, bd_some, mh_btw d hm p1 p2, bd_some, o6_to3 (by omega), o3_add]
    rfl
  have e2 : f_X11_sentAt (o3 k) S = some (o6 (stg F P k)) := by
    unfold f_X11_sentAt
    rw [c3, bd_some, c1, bd_some, mp_floor m1 hF hm p1, bd_some, pc_o, o6_of3 (by omega), o6_mul]
    rfl
  refine ⟨e2, e1, ?_⟩
  unfold f_X11_isEarly
  rw [e1, bd_some, c2, bd_some, mp_floor m1 hF hm p2, bd_some, c3, bd_some, c1, bd_some, mp_floor m1 hF hm p1, bd_some, pc_o, pc_o, o6_of3 (by omega), o6_of3 (by omega), o6_mul, o6_mul]
  by_cases h : stg F P k ≤ ctg F E P k
  · rw [if_pos h, if_pos (show o6 (P.2.2.2 k * ((F.getD (P.2.1 k) (0, 0)).1 * pz (F.getD (P.2.1 k) (0, 0)))) ≤ o6 (cmg E P k * ((F.getD (P.2.2.1 k) (0, 0)).1 * pz (F.getD (P.2.2.1 k) (0, 0)))) from (o6_le (a := stg F P k) (b := ctg F E P k) (by omega) (by omega)).mpr h)]
  · rw [if_neg h, if_neg (show ¬ o6 (P.2.2.2 k * ((F.getD (P.2.1 k) (0, 0)).1 * pz (F.getD (P.2.1 k) (0, 0)))) ≤ o6 (cmg E P k * ((F.getD (P.2.2.1 k) (0, 0)).1 * pz (F.getD (P.2.2.1 k) (0, 0)))) from fun q => h ((o6_le (a := stg F P k) (b := ctg F E P k) (by omega) (by omega)).mp q))]
end PO
theorem t_29 (a1 a2 : Int32) (S : fS) (hR : Rel S) : ∃ r, f_X10_letters a1 a2 S = some r ∧ f_X11_letters a1 a2 S = some r ∧ Rel S := by
  have hR0 := hR
  obtain ⟨n, s, L, M, hT, ⟨⟨n1, n2, n3, n4, n5, n6⟩, ⟨b1, b2, b3, b4, b5⟩, ⟨m1, m2, m3, m4⟩, d⟩, hL, hM⟩ := hR
  have h12 := n6.1
  have hi1 : f_X10_isFrom a2 0 4 S = some (if ((0 : Nat) : Int) ≤ a2.toInt ∧ a2.toInt ≤ ((4 : Nat) : Int) then 1 else 0) := from_c (a := 0) (b := 4) (by omega) (by omega)
  have hi2 : f_X11_in (Int32.toInt64 a2) 0 4 S = some (if ((0 : Nat) : Int) ≤ a2.toInt ∧ a2.toInt ≤ ((4 : Nat) : Int) then 1 else 0) := in_c (a := 0) (b := 4) (by omega) (by omega)
  have hg4 : gI S 157 158 4 = some (o3 s.2.2.2.1) := (gI_o (k := 4) (by omega) (by omega)).trans (congrArg some m3.1)
  unfold f_X10_letters f_X11_letters
  rw [show S.1 17 4 = o3 s.2.2.2.1 from b4.1, from_o (by omega), hg4, bd_some, bd_some, show (0 : Int64) = Int32.toInt64 0 from rfl, op_in, from_o (by omega), bd_some, show Int32.toInt64 0 = (0 : Int64) from rfl, hi1, hi2, bd_some, bd_some]
  by_cases h1 : 0 ≤ a1.toInt ∧ a1.toInt < s.2.2.2.1
  · rw [if_pos h1, if_neg (show ¬ (1 : Int32) = 0 by decide), if_neg (show ¬ (1 : Int32) = 0 by decide)]
    by_cases h2 : ((0 : Nat) : Int) ≤ a2.toInt ∧ a2.toInt ≤ ((4 : Nat) : Int)
    · rw [if_pos h2, if_neg (show ¬ (1 : Int32) = 0 by decide), if_neg (show ¬ (1 : Int32) = 0 by decide)]
      obtain ⟨k, e1, e2⟩ := o3_ex h1.1
      obtain ⟨v, e3, e4⟩ := o3_ex (x := a2) (by omega)
      have hk : k < s.2.2.2.1 := by omega
      obtain ⟨c1, c2, c3, c4⟩ := b4.2 k hk
      obtain ⟨u1, u2, u3⟩ := pc_sent b1 b4 n3 n1 n6 hk
      obtain ⟨w1, w2, w3⟩ := pm_all m1 m3 d n3 n1 n6 hk
      obtain ⟨x1, x2, x3⟩ := pm_of m3 h12 hk
      rw [e1, e3]
      have : v = 0 ∨ v = 1 ∨ v = 2 ∨ v = 3 ∨ v = 4 := by omega
      rcases this with rfl | rfl | rfl | rfl | rfl
      · rw [if_pos (show o3 0 = (0 : Int32) from rfl), if_neg (show ¬ (3 : Int32) ≤ o3 0 by decide), gI_o (by omega) (by omega), bd_some, show f_X11_letterOf (o3 k) (o3 0) S = _ from x1, bd_some]
        exact ⟨_, congrArg some c1, rfl, hR0⟩
      · rw [if_neg (show ¬ o3 1 = (0 : Int32) by decide), if_pos (show o3 1 = (1 : Int32) from rfl), if_neg (show ¬ (3 : Int32) ≤ o3 1 by decide), gI_o (by omega) (by omega), bd_some, show f_X11_letterOf (o3 k) (o3 1) S = _ from x2, bd_some]
        exact ⟨_, congrArg some c2, rfl, hR0⟩
      · rw [if_neg (show ¬ o3 2 = (0 : Int32) by decide), if_neg (show ¬ o3 2 = (1 : Int32) by decide), if_pos (show o3 2 = (2 : Int32) from rfl), if_neg (show ¬ (3 : Int32) ≤ o3 2 by decide), gI_o (by omega) (by omega), bd_some, show f_X11_letterOf (o3 k) (o3 2) S = _ from x3, bd_some]
        exact ⟨_, congrArg some c3, rfl, hR0⟩
      · rw [if_neg (show ¬ o3 3 = (0 : Int32) by decide), if_neg (show ¬ o3 3 = (1 : Int32) by decide), if_neg (show ¬ o3 3 = (2 : Int32) by decide), if_pos (show o3 3 = (3 : Int32) from rfl), if_pos (show (3 : Int32) ≤ o3 3 by decide), if_pos (show o3 3 = (3 : Int32) from rfl), u2, bd_some, w2, bd_some]
        exact ⟨_, rfl, rfl, hR0⟩
      · rw [if_neg (show ¬ o3 4 = (0 : Int32) by decide), if_neg (show ¬ o3 4 = (1 : Int32) by decide), if_neg (show ¬ o3 4 = (2 : Int32) by decide), if_neg (show ¬ o3 4 = (3 : Int32) by decide), if_pos (show (3 : Int32) ≤ o3 4 by decide), if_neg (show ¬ o3 4 = (3 : Int32) by decide), u3, w3, bd_some]
        split <;> exact ⟨_, rfl, rfl, hR0⟩
    · rw [if_neg h2, if_pos rfl, if_pos rfl]
      exact ⟨_, rfl, rfl, hR0⟩
  · rw [if_neg h1, if_pos rfl, if_pos rfl]
    exact ⟨_, rfl, rfl, hR0⟩
/-! crossed() -/
def ovb (F : List (Nat × Nat)) (E : List St5) (P : Po) (p q : Nat) : Bool := decide (¬ stg F P q ≤ stg F P p ∧ ¬ cmg E P p ≤ cmg E P q)
def ovs (F : List (Nat × Nat)) (E : List St5) (P : Po) : Nat → Nat
  | 0 => 0
  | k + 1 => ovs F E P k + cfn (ovb F E P k) P.1
theorem ovs_le {F : List (Nat × Nat)} {E : List St5} {P : Po} : ∀ k, ovs F E P k ≤ k * P.1 := by
  intro k
  induction k with
  | zero => exact Nat.zero_le _
  | succ k ih =>
    have := cfn_le (f := ovb F E P k) P.1
    show ovs F E P k + _ ≤ (k + 1) * P.1
    rw [Nat.succ_mul]
    omega
theorem t_30 (S : fS) (hR : Rel S) : ∃ r, f_X10_crossed S = some r ∧ f_X11_crossed S = some r ∧ Rel S := by
  have hR0 := hR
  obtain ⟨n, s, L, M, hT, ⟨⟨n1, n2, n3, n4, n5, n6⟩, ⟨b1, b2, b3, b4, b5⟩, ⟨m1, m2, m3, m4⟩, d⟩, hL, hM⟩ := hR
  have h12 := n6.1
  have hg4 : gI S 157 158 4 = some (o3 s.2.2.2.1) := (gI_o (k := 4) (by omega) (by omega)).trans (congrArg some m3.1)
  have hc4 : S.1 17 4 = o3 s.2.2.2.1 := b4.1
  have ov1 : ∀ p q, p < s.2.2.2.1 → q < s.2.2.2.1 → f_X2_isOvertaken 17 4 (o3 p) (o3 q) S = some (if ovb s.1 s.2.1 s.2.2.2 p q = true then 1 else 0) := fun p q hp hq => by
    obtain ⟨u1, u2, u3⟩ := pc_sent b1 b4 n3 n1 n6 hp
    obtain ⟨w1, w2, w3⟩ := pc_sent b1 b4 n3 n1 n6 hq
    obtain ⟨x1, x2, x3⟩ := po_b n3 n6 hp
    obtain ⟨y1, y2, y3⟩ := po_b n3 n6 hq
    unfold f_X2_isOvertaken ovb
    rw [u1, bd_some, w1, bd_some]
    by_cases h : stg s.1 s.2.2.2 q ≤ stg s.1 s.2.2.2 p
    · rw [if_pos ((o6_le (by omega) (by omega)).mpr h), if_neg (by rw [decide_eq_true_eq]; exact fun z => z.1 h)]
    · rw [if_neg (fun z => h ((o6_le (by omega) (by omega)).mp z)), show gI S (17 + 4) 12 (o3 p) = _ from u2, bd_some, show gI S (17 + 4) 12 (o3 q) = _ from w2, bd_some]
      by_cases h' : cmg s.2.1 s.2.2.2 p ≤ cmg s.2.1 s.2.2.2 q
      · rw [if_pos ((o3_le (by omega) (by omega)).mpr h'), if_neg (by rw [decide_eq_true_eq]; exact fun z => z.2 h')]
      · rw [if_neg (fun z => h' ((o3_le (by omega) (by omega)).mp z)), if_pos (by rw [decide_eq_true_eq]; exact ⟨h, h'⟩)]
  have inC : ∀ p, p < s.2.2.2.1 → ∀ (K : Int32 → Option Int32) dd k nn base, k + dd = s.2.2.2.1 → dd < nn → lp_X10_crossed_20 (o3 p) S K nn (o3 (base + cfn (ovb s.1 s.2.1 s.2.2.2 p) k)) (o3 k) = K (o3 (base + cfn (ovb s.1 s.2.1 s.2.2.2 p) s.2.2.2.1)) := by
    intro p hp K dd
    induction dd with
    | zero =>
      intro k nn base hk hnn
      obtain ⟨nn, rfl⟩ : ∃ z, nn = z + 1 := ⟨nn - 1, by omega⟩
      rw [lp_X10_crossed_20.eq_2, hc4, if_pos ((o3_le (by omega) (by omega)).mpr (by omega)), show k = s.2.2.2.1 by omega]
    | succ dd ih =>
      intro k nn base hk hnn
      obtain ⟨nn, rfl⟩ : ∃ z, nn = z + 1 := ⟨nn - 1, by omega⟩
      have hs : cfn (ovb s.1 s.2.1 s.2.2.2 p) (k + 1) = cfn (ovb s.1 s.2.1 s.2.2.2 p) k + (if ovb s.1 s.2.1 s.2.2.2 p k = true then 1 else 0) := rfl
      rw [lp_X10_crossed_20.eq_2, hc4, if_neg (fun q => by have := (o3_le (by omega) (by omega)).mp q; omega), ov1 p k hp (by omega), bd_some]
      by_cases h : ovb s.1 s.2.1 s.2.2.2 p k = true
      · rw [if_pos h] at hs
        rw [if_pos h, if_neg (show ¬ (1 : Int32) = 0 by decide), o3_s, o3_s, Nat.add_assoc, ← hs]
        exact ih (k + 1) nn base (by omega) (by omega)
      · rw [if_neg h] at hs
        replace hs := hs.trans (Nat.add_zero _)
        rw [if_neg h, if_pos rfl, o3_s, ← hs]
        exact ih (k + 1) nn base (by omega) (by omega)
  have inM : ∀ p, p < s.2.2.2.1 → ∀ (K : Int32 → Option Int32) dd k nn base, k + dd = s.2.2.2.1 → dd < nn → lp_X11_crossed_16 (o3 p) S K nn (o3 (base + cfn (ovb s.1 s.2.1 s.2.2.2 p) k)) (o3 k) = K (o3 (base + cfn (ovb s.1 s.2.1 s.2.2.2 p) s.2.2.2.1)) := by
    intro p hp K dd
    induction dd with
    | zero =>
      intro k nn base hk hnn
      obtain ⟨nn, rfl⟩ : ∃ z, nn = z + 1 := ⟨nn - 1, by omega⟩
      rw [lp_X11_crossed_16.eq_2, hg4, bd_some, if_pos ((o3_le (by omega) (by omega)).mpr (by omega)), show k = s.2.2.2.1 by omega]
    | succ dd ih =>
      intro k nn base hk hnn
      obtain ⟨nn, rfl⟩ : ∃ z, nn = z + 1 := ⟨nn - 1, by omega⟩
      have hs : cfn (ovb s.1 s.2.1 s.2.2.2 p) (k + 1) = cfn (ovb s.1 s.2.1 s.2.2.2 p) k + (if ovb s.1 s.2.1 s.2.2.2 p k = true then 1 else 0) := rfl
      obtain ⟨u1, u2, u3⟩ := pm_all m1 m3 d n3 n1 n6 hp
      obtain ⟨w1, w2, w3⟩ := pm_all m1 m3 d n3 n1 n6 (show k < s.2.2.2.1 by omega)
      obtain ⟨x1, x2, x3⟩ := po_b n3 n6 hp
      obtain ⟨y1, y2, y3⟩ := po_b n3 n6 (show k < s.2.2.2.1 by omega)
      rw [lp_X11_crossed_16.eq_2, hg4, bd_some, if_neg (fun q => by have := (o3_le (by omega) (by omega)).mp q; omega), u1, bd_some, w1, bd_some]
      have hz : o3 (base + cfn (ovb s.1 s.2.1 s.2.2.2 p) k) + (0 : Int32) = o3 (base + cfn (ovb s.1 s.2.1 s.2.2.2 p) k) := Int32.add_zero _
      rw [hz, o3_s, o3_s]
      by_cases h : stg s.1 s.2.2.2 k ≤ stg s.1 s.2.2.2 p
      · rw [if_pos ((o6_le (by omega) (by omega)).mpr h)]
        rw [if_neg (by unfold ovb; rw [decide_eq_true_eq]; exact fun z => z.1 h)] at hs
        replace hs := hs.trans (Nat.add_zero _)
        rw [← hs]
        exact ih (k + 1) nn base (by omega) (by omega)
      · rw [if_neg (fun z => h ((o6_le (by omega) (by omega)).mp z)), u2, bd_some, w2, bd_some]
        by_cases h' : cmg s.2.1 s.2.2.2 p ≤ cmg s.2.1 s.2.2.2 k
        · rw [if_pos ((o3_le (by omega) (by omega)).mpr h')]
          rw [if_neg (by unfold ovb; rw [decide_eq_true_eq]; exact fun z => z.2 h')] at hs
          replace hs := hs.trans (Nat.add_zero _)
          rw [← hs]
          exact ih (k + 1) nn base (by omega) (by omega)
        · rw [if_neg (fun z => h' ((o3_le (by omega) (by omega)).mp z))]
          rw [if_pos (by unfold ovb; rw [decide_eq_true_eq]; exact ⟨h, h'⟩)] at hs
          rw [Nat.add_assoc, ← hs]
          exact ih (k + 1) nn base (by omega) (by omega)
  have ouC : ∀ dd k nn, k + dd = s.2.2.2.1 → dd < nn → lp_X10_crossed_4 S (fun u9 => some u9) nn (o3 (ovs s.1 s.2.1 s.2.2.2 k)) (o3 k) = some (o3 (ovs s.1 s.2.1 s.2.2.2 s.2.2.2.1)) := by
    intro dd
    induction dd with
    | zero =>
      intro k nn hk hnn
      obtain ⟨nn, rfl⟩ : ∃ z, nn = z + 1 := ⟨nn - 1, by omega⟩
      rw [lp_X10_crossed_4.eq_2, hc4, if_pos ((o3_le (by omega) (by omega)).mpr (by omega)), show k = s.2.2.2.1 by omega]
    | succ dd ih =>
      intro k nn hk hnn
      obtain ⟨nn, rfl⟩ : ∃ z, nn = z + 1 := ⟨nn - 1, by omega⟩
      rw [lp_X10_crossed_4.eq_2, hc4, if_neg (fun q => by have := (o3_le (by omega) (by omega)).mp q; omega)]
      have := inC k (by omega) (fun u7 => lp_X10_crossed_4 S (fun u9 => some u9) nn u7 (o3 k + (1 : Int32))) s.2.2.2.1 0 FU (ovs s.1 s.2.1 s.2.2.2 k) (by omega) (FU_lt (by omega))
      have e0 : ovs s.1 s.2.1 s.2.2.2 k + cfn (ovb s.1 s.2.1 s.2.2.2 k) 0 = ovs s.1 s.2.1 s.2.2.2 k := Nat.add_zero _
      rw [e0] at this
      refine this.trans ?_
      rw [o3_s]
      exact ih (k + 1) nn (by omega) (by omega)
  have ouM : ∀ dd k nn, k + dd = s.2.2.2.1 → dd < nn → lp_X11_crossed_4 S (fun u9 => some u9) nn (o3 (ovs s.1 s.2.1 s.2.2.2 k)) (o3 k) = some (o3 (ovs s.1 s.2.1 s.2.2.2 s.2.2.2.1)) := by
    intro dd
    induction dd with
    | zero =>
      intro k nn hk hnn
      obtain ⟨nn, rfl⟩ : ∃ z, nn = z + 1 := ⟨nn - 1, by omega⟩
      rw [lp_X11_crossed_4.eq_2, hg4, bd_some, if_pos ((o3_le (by omega) (by omega)).mpr (by omega)), show k = s.2.2.2.1 by omega]
    | succ dd ih =>
      intro k nn hk hnn
      obtain ⟨nn, rfl⟩ : ∃ z, nn = z + 1 := ⟨nn - 1, by omega⟩
      rw [lp_X11_crossed_4.eq_2, hg4, bd_some, if_neg (fun q => by have := (o3_le (by omega) (by omega)).mp q; omega)]
      have := inM k (by omega) (fun u7 => lp_X11_crossed_4 S (fun u9 => some u9) nn u7 (o3 k + (1 : Int32))) s.2.2.2.1 0 FU (ovs s.1 s.2.1 s.2.2.2 k) (by omega) (FU_lt (by omega))
      have e0 : ovs s.1 s.2.1 s.2.2.2 k + cfn (ovb s.1 s.2.1 s.2.2.2 k) 0 = ovs s.1 s.2.1 s.2.2.2 k := Nat.add_zero _
      rw [e0] at this
      refine this.trans ?_
      rw [o3_s]
      exact ih (k + 1) nn (by omega) (by omega)
  exact ⟨_, ouC s.2.2.2.1 0 FU (by omega) (FU_lt (by omega)), ouM s.2.2.2.1 0 FU (by omega) (FU_lt (by omega)), hR0⟩
/-! order() -/
def cbb (E : List St5) (P : Po) (p q : Nat) : Bool := decide (cmg E P q < cmg E P p ∨ (cmg E P q = cmg E P p ∧ q < p))
def odf (E : List St5) (P : Po) (v : Int32) : Nat → Nat → Int32
  | 0, _ => -1
  | d + 1, k => if o3 (cfn (cbb E P k) P.1) = v then o3 k else odf E P v d (k + 1)
theorem t_31 (a1 : Int32) (S : fS) (hR : Rel S) : ∃ r, f_X10_order a1 S = some r ∧ f_X11_order a1 S = some r ∧ Rel S := by
  have hR0 := hR
  obtain ⟨n, s, L, M, hT, ⟨⟨n1, n2, n3, n4, n5, n6⟩, ⟨b1, b2, b3, b4, b5⟩, ⟨m1, m2, m3, m4⟩, d⟩, hL, hM⟩ := hR
  have h12 := n6.1
  have hg4 : gI S 157 158 4 = some (o3 s.2.2.2.1) := (gI_o (k := 4) (by omega) (by omega)).trans (congrArg some m3.1)
  have hc4 : S.1 17 4 = o3 s.2.2.2.1 := b4.1
  have inC : ∀ p, p < s.2.2.2.1 → ∀ dd k nn, k + dd = s.2.2.2.1 → dd < nn → lp_X2_comingBefore_4 17 (o3 p) S (fun u21 => some u21) nn (o3 (cfn (cbb s.2.1 s.2.2.2 p) k)) (o3 k) = some (o3 (cfn (cbb s.2.1 s.2.2.2 p) s.2.2.2.1)) := by
    intro p hp dd
    induction dd with
    | zero =>
      intro k nn hk hnn
      obtain ⟨nn, rfl⟩ : ∃ z, nn = z + 1 := ⟨nn - 1, by omega⟩
      rw [lp_X2_comingBefore_4.eq_2, hc4, if_pos ((o3_le (by omega) (by omega)).mpr (by omega)), show k = s.2.2.2.1 by omega]
    | succ dd ih =>
      intro k nn hk hnn
      obtain ⟨nn, rfl⟩ : ∃ z, nn = z + 1 := ⟨nn - 1, by omega⟩
      have hs : cfn (cbb s.2.1 s.2.2.2 p) (k + 1) = cfn (cbb s.2.1 s.2.2.2 p) k + (if cbb s.2.1 s.2.2.2 p k = true then 1 else 0) := rfl
      obtain ⟨u1, u2, u3⟩ := pc_sent b1 b4 n3 n1 n6 hp
      obtain ⟨w1, w2, w3⟩ := pc_sent b1 b4 n3 n1 n6 (show k < s.2.2.2.1 by omega)
      obtain ⟨x1, x2, x3⟩ := po_b n3 n6 hp
      obtain ⟨y1, y2, y3⟩ := po_b n3 n6 (show k < s.2.2.2.1 by omega)
      have hz : o3 (cfn (cbb s.2.1 s.2.2.2 p) k) + (0 : Int32) = o3 (cfn (cbb s.2.1 s.2.2.2 p) k) := Int32.add_zero _
      rw [lp_X2_comingBefore_4.eq_2, hc4, if_neg (fun q => by have := (o3_le (by omega) (by omega)).mp q; omega), show gI S (17 + 4) 12 (o3 k) = _ from w2, bd_some, show gI S (17 + 4) 12 (o3 p) = _ from u2, bd_some, bd_some, bd_some, hz, o3_s, o3_s]
      by_cases h : cmg s.2.1 s.2.2.2 k < cmg s.2.1 s.2.2.2 p
      · rw [if_pos ((o3_lt (by omega) (by omega)).mpr h), if_neg (show ¬ (1 : Int32) = 0 by decide)]
        rw [if_pos (by unfold cbb; rw [decide_eq_true_eq]; exact Or.inl h)] at hs
        rw [← hs]
        exact ih (k + 1) nn (by omega) (by omega)
      · rw [if_neg (fun z => h ((o3_lt (by omega) (by omega)).mp z))]
        by_cases h' : cmg s.2.1 s.2.2.2 k = cmg s.2.1 s.2.2.2 p
        · rw [if_pos ((o3_inj (by omega) (by omega)).mpr h')]
          by_cases h3 : p ≤ k
          · rw [if_pos ((o3_le (by omega) (by omega)).mpr h3), if_pos rfl]
            rw [if_neg (by unfold cbb; rw [decide_eq_true_eq]; omega)] at hs
            replace hs := hs.trans (Nat.add_zero _)
            rw [← hs]
            exact ih (k + 1) nn (by omega) (by omega)
          · rw [if_neg (fun z => h3 ((o3_le (by omega) (by omega)).mp z)), if_neg (show ¬ (1 : Int32) = 0 by decide)]
            rw [if_pos (by unfold cbb; rw [decide_eq_true_eq]; omega)] at hs
            rw [← hs]
            exact ih (k + 1) nn (by omega) (by omega)
        · rw [if_neg (fun z => h' ((o3_inj (by omega) (by omega)).mp z)), if_pos rfl]
          rw [if_neg (by unfold cbb; rw [decide_eq_true_eq]; omega)] at hs
          replace hs := hs.trans (Nat.add_zero _)
          rw [← hs]
          exact ih (k + 1) nn (by omega) (by omega)
  have inM : ∀ p, p < s.2.2.2.1 → ∀ (K : Int32 → Option Int32) dd k nn, k + dd = s.2.2.2.1 → dd < nn → lp_X11_order_37 a1 (o3 p) S K nn (o3 (cfn (cbb s.2.1 s.2.2.2 p) k)) (o3 k) = K (o3 (cfn (cbb s.2.1 s.2.2.2 p) s.2.2.2.1)) := by
    intro p hp K dd
    induction dd with
    | zero =>
      intro k nn hk hnn
      obtain ⟨nn, rfl⟩ : ∃ z, nn = z + 1 := ⟨nn - 1, by omega⟩
      rw [lp_X11_order_37.eq_2, hg4, bd_some, if_pos ((o3_le (by omega) (by omega)).mpr (by omega)), show k = s.2.2.2.1 by omega]
    | succ dd ih =>
      intro k nn hk hnn
      obtain ⟨nn, rfl⟩ : ∃ z, nn = z + 1 := ⟨nn - 1, by omega⟩
      have hs : cfn (cbb s.2.1 s.2.2.2 p) (k + 1) = cfn (cbb s.2.1 s.2.2.2 p) k + (if cbb s.2.1 s.2.2.2 p k = true then 1 else 0) := rfl
      obtain ⟨u1, u2, u3⟩ := pm_all m1 m3 d n3 n1 n6 hp
      obtain ⟨w1, w2, w3⟩ := pm_all m1 m3 d n3 n1 n6 (show k < s.2.2.2.1 by omega)
      obtain ⟨x1, x2, x3⟩ := po_b n3 n6 hp
      obtain ⟨y1, y2, y3⟩ := po_b n3 n6 (show k < s.2.2.2.1 by omega)
      have hz : o3 (cfn (cbb s.2.1 s.2.2.2 p) k) + (0 : Int32) = o3 (cfn (cbb s.2.1 s.2.2.2 p) k) := Int32.add_zero _
      rw [lp_X11_order_37.eq_2, hg4, bd_some, if_neg (fun q => by have := (o3_le (by omega) (by omega)).mp q; omega), w2, bd_some, u2, bd_some, bd_some, bd_some, hz, o3_s, o3_s]
      by_cases h : cmg s.2.1 s.2.2.2 k < cmg s.2.1 s.2.2.2 p
      · rw [if_pos ((o3_lt (by omega) (by omega)).mpr h)]
        rw [if_pos (by unfold cbb; rw [decide_eq_true_eq]; exact Or.inl h)] at hs
        rw [← hs]
        exact ih (k + 1) nn (by omega) (by omega)
      · rw [if_neg (fun z => h ((o3_lt (by omega) (by omega)).mp z))]
        by_cases h' : cmg s.2.1 s.2.2.2 k = cmg s.2.1 s.2.2.2 p
        · rw [if_pos ((o3_inj (by omega) (by omega)).mpr h')]
          by_cases h3 : p ≤ k
          · rw [if_pos ((o3_le (by omega) (by omega)).mpr h3)]
            rw [if_neg (by unfold cbb; rw [decide_eq_true_eq]; omega)] at hs
            replace hs := hs.trans (Nat.add_zero _)
            rw [← hs]
            exact ih (k + 1) nn (by omega) (by omega)
          · rw [if_neg (fun z => h3 ((o3_le (by omega) (by omega)).mp z))]
            rw [if_pos (by unfold cbb; rw [decide_eq_true_eq]; omega)] at hs
            rw [← hs]
            exact ih (k + 1) nn (by omega) (by omega)
        · rw [if_neg (fun z => h' ((o3_inj (by omega) (by omega)).mp z))]
          rw [if_neg (by unfold cbb; rw [decide_eq_true_eq]; omega)] at hs
          replace hs := hs.trans (Nat.add_zero _)
          rw [← hs]
          exact ih (k + 1) nn (by omega) (by omega)
  have ouC : ∀ dd k nn, k + dd = s.2.2.2.1 → dd < nn → lp_X10_order_24 a1 S (fun _ => some (-1)) nn (o3 k) = some (odf s.2.1 s.2.2.2 a1 dd k) := by
    intro dd
    induction dd with
    | zero =>
      intro k nn hk hnn
      obtain ⟨nn, rfl⟩ : ∃ z, nn = z + 1 := ⟨nn - 1, by omega⟩
      rw [lp_X10_order_24.eq_2, hc4, if_pos ((o3_le (by omega) (by omega)).mpr (by omega))]
      rfl
    | succ dd ih =>
      intro k nn hk hnn
      obtain ⟨nn, rfl⟩ : ∃ z, nn = z + 1 := ⟨nn - 1, by omega⟩
      have hcb : f_X2_comingBefore 17 (o3 k) S = some (o3 (cfn (cbb s.2.1 s.2.2.2 k) s.2.2.2.1)) := inC k (by omega) s.2.2.2.1 0 FU (by omega) (FU_lt (by omega))
      have ho : odf s.2.1 s.2.2.2 a1 (dd + 1) k = if o3 (cfn (cbb s.2.1 s.2.2.2 k) s.2.2.2.1) = a1 then o3 k else odf s.2.1 s.2.2.2 a1 dd (k + 1) := rfl
      rw [lp_X10_order_24.eq_2, hc4, if_neg (fun q => by have := (o3_le (by omega) (by omega)).mp q; omega), hcb, bd_some, ho, o3_s]
      by_cases h : o3 (cfn (cbb s.2.1 s.2.2.2 k) s.2.2.2.1) = a1
      · rw [if_pos h, if_pos h]
      · rw [if_neg h, if_neg h]
        exact ih (k + 1) nn (by omega) (by omega)
  have ouM : ∀ dd k nn, k + dd = s.2.2.2.1 → dd < nn → lp_X11_order_22 a1 S (fun _ => some (-1)) nn (o3 k) = some (odf s.2.1 s.2.2.2 a1 dd k) := by
    intro dd
    induction dd with
    | zero =>
      intro k nn hk hnn
      obtain ⟨nn, rfl⟩ : ∃ z, nn = z + 1 := ⟨nn - 1, by omega⟩
      rw [lp_X11_order_22.eq_2, hg4, bd_some, if_pos ((o3_le (by omega) (by omega)).mpr (by omega))]
      rfl
    | succ dd ih =>
      intro k nn hk hnn
      obtain ⟨nn, rfl⟩ : ∃ z, nn = z + 1 := ⟨nn - 1, by omega⟩
      have ho : odf s.2.1 s.2.2.2 a1 (dd + 1) k = if o3 (cfn (cbb s.2.1 s.2.2.2 k) s.2.2.2.1) = a1 then o3 k else odf s.2.1 s.2.2.2 a1 dd (k + 1) := rfl
      rw [lp_X11_order_22.eq_2, hg4, bd_some, if_neg (fun q => by have := (o3_le (by omega) (by omega)).mp q; omega)]
      refine (inM k (by omega) (fun u31 => if u31 = a1 then some (o3 k) else lp_X11_order_22 a1 S (fun _ => some (-1)) nn (o3 k + 1)) s.2.2.2.1 0 FU (by omega) (FU_lt (by omega))).trans ?_
      rw [ho, o3_s]
      by_cases h : o3 (cfn (cbb s.2.1 s.2.2.2 k) s.2.2.2.1) = a1
      · rw [if_pos h, if_pos h]
      · rw [if_neg h, if_neg h]
        exact ih (k + 1) nn (by omega) (by omega)
  unfold f_X10_order f_X11_order
  rw [hc4, from_o (by omega), hg4, bd_some, bd_some, show (0 : Int64) = Int32.toInt64 0 from rfl, op_in, from_o (by omega), bd_some]
  by_cases h1 : 0 ≤ a1.toInt ∧ a1.toInt < s.2.2.2.1
  · rw [if_pos h1, if_neg (show ¬ (1 : Int32) = 0 by decide), if_neg (show ¬ (1 : Int32) = 0 by decide)]
    exact ⟨_, ouC s.2.2.2.1 0 FU (by omega) (FU_lt (by omega)), ouM s.2.2.2.1 0 FU (by omega) (FU_lt (by omega)), hR0⟩
  · rw [if_neg h1, if_pos rfl, if_pos rfl]
    exact ⟨_, rfl, rfl, hR0⟩
/-! letter() -/
theorem rSc_po {s : Sn} {S T : fS} {P : Po} (h : rSc s S) (hok : okP s.1.length (dst s.2.1) P) (hc : poC T 17 (dst s.2.1) P) (hm : poM (T.1 157) P) (h1 : ∀ a k, 3 < a → a ≤ 16 → T.1 a k = S.1 a k) (h2 : ∀ a k, T.2 a k = S.2 a k) (h3 : 0 ≤ (T.1 3 3).toInt) (h4 : ∀ k, ¬ (k = 4 ∨ 122 ≤ k) → T.1 157 k = S.1 157 k) : rSc (s.1, s.2.1, s.2.2.1, P) T := by
  obtain ⟨⟨n1, n2, n3, n4, n5, n6⟩, ⟨b1, b2, b3, b4, b5⟩, ⟨m1, m2, m3, m4⟩, d⟩ := h
  have h8 := n5.1
  refine ⟨⟨n1, n2, n3, n4, n5, hok⟩, ⟨?_, ?_, ?_, hc, h3⟩, ⟨?_, ?_, hm, ?_⟩, rHm_eq d (fun k => h2 _ k)⟩
  · exact twC_eq b1 (fun a k _ _ => h1 a k (by omega) (by omega)) (fun a k _ _ => h2 a k)
  · exact rWm_eq b2 (fun k => h1 _ k (by omega) (by omega))
  · exact cwC_eq b3 (fun a k _ _ => h1 a k (by omega) (by omega)) (fun k => h2 _ k)
  · exact twM_eq n1 n2 m1 (fun k hk => h4 k (by omega))
  · obtain ⟨p1, p2, p3⟩ := m2
    refine ⟨(h4 2 (by omega)).trans p1, (h4 3 (by omega)).trans p2, fun k hk => ?_⟩
    obtain ⟨q1, q2, q3, q4, q5⟩ := p3 k hk
    have hk' : k < s.2.2.1.1 := hk
    exact ⟨(h4 _ (by omega)).trans q1, (h4 _ (by omega)).trans q2, (h4 _ (by omega)).trans q3, (h4 _ (by omega)).trans q4, (h2 _ _).trans q5⟩
  · show 0 ≤ (T.1 157 5).toInt
    rw [h4 5 (by omega)]; exact m4
theorem t_28 (a1 a2 a3 : Int32) (S : fS) (hR : Rel S) : ∃ r S1 S2, f_X10_letter a1 a2 a3 S = some (r, S1) ∧ f_X11_letter a1 a2 a3 S1 = some (r, S2) ∧ Rel S2 := by
  have hR0 := hR
  obtain ⟨n, s, L, M, hT, hS, hL, hM⟩ := hR
  have hS0 := hS
  obtain ⟨⟨n1, n2, n3, n4, n5, n6⟩, ⟨b1, b2, b3, b4, b5⟩, ⟨m1, m2, m3, m4⟩, d⟩ := hS
  have h12 := n6.1
  have hc4 : S.1 17 4 = o3 s.2.2.2.1 := b4.1
  have fin : ∀ (T : fS) (P : Po), (∀ a k, ¬ (17 ≤ a ∧ a ≤ 21) → ¬ (a = 157 ∧ (k = 4 ∨ 122 ≤ k)) → T.1 a k = S.1 a k) → (∀ a k, T.2 a k = S.2 a k) → okP s.1.length (dst s.2.1) P → poC T 17 (dst s.2.1) P → poM (T.1 157) P → Rel T := fun T P f1 f2 p1 p2 p3 => by
    refine ⟨n, (s.1, s.2.1, s.2.2.1, P), L, M, ?_, rSc_po hS0 p1 p2 p3 (fun a k _ _ => f1 a k (by omega) (by omega)) f2 (by rw [f1 3 3 (by omega) (by omega)]; exact b5) (fun k hk => f1 157 k (by omega) (by omega)), ?_, ?_⟩
    · exact rTp_eq hT (f1 _ _ (by omega) (by omega)) (f1 _ _ (by omega) (by omega)) (fun k => f1 _ _ (by omega) (by omega)) (fun k => f1 _ _ (by omega) (by omega))
    · exact rRu_eq hL (f1 _ _ (by omega) (by omega)) (f1 _ _ (by omega) (by omega)) (fun a k _ _ _ => f1 a k (by omega) (by omega)) (fun a k _ => f1 a k (by omega) (by omega))
    · exact rIm_eq hM (fun a k _ _ => f1 a k (by omega) (by omega)) (fun a k _ _ => f2 a k) (fun k => f1 _ _ (by omega) (by omega)) (fun k => f2 _ k) (fun k => f1 _ _ (by omega) (by omega))
  unfold f_X10_letter
  by_cases h0 : a1 = -1
  · rw [if_pos h0, bd_some]
    refine ⟨0, pI S 17 4 0, pI (pI S 17 4 0) 157 4 0, rfl, ?_, fin _ (0, fun _ => 0, fun _ => 0, fun _ => 0) (fun a k x y => by rw [pI_ne (by omega), pI_ne (by omega)]) (fun _ _ => rfl) ⟨Nat.zero_le _, fun k hk => absurd hk (Nat.not_lt_zero _)⟩ ⟨by rw [pI_ne (by omega), pI_eq]; rfl, fun k hk => absurd hk (Nat.not_lt_zero _)⟩ ⟨by rw [pI_eq]; rfl, fun k hk => absurd hk (Nat.not_lt_zero _)⟩⟩
    unfold f_X11_letter
    rw [if_pos h0, show (4 : Int32) = o3 4 from rfl, sI_o (by omega) (by omega), bd_some]
  · rw [if_neg h0, ci_floor b1.1 (by omega), ci_floor b1.1 (by omega), hour_c, hc4]
    simp only [bd_some]
    /- the reference, in one form -/
    have hm : ∀ T : fS, T.1 157 4 = o3 s.2.2.2.1 → T.1 157 0 = o3 s.1.length → f_X11_letter a1 a2 a3 T = if s.2.2.2.1 = 12 then some (-2, T) else if 0 ≤ a1.toInt ∧ a1.toInt < s.1.length then (if 0 ≤ a2.toInt ∧ a2.toInt < s.1.length then (if ((0 : Nat) : Int) ≤ a3.toInt ∧ a3.toInt ≤ ((9999 : Nat) : Int) then ((f_X11_between a1 a2 T).bind fun q18 => if q18 < (99999 : Int64) then ((gI T 157 158 (4 : Int32)).bind fun a22 => (sI T 157 158 ((122 : Int32) + ((3 : Int32) * a22)) a1).bind fun S25 => (sI S25 157 158 (((122 : Int32) + ((3 : Int32) * a22)) + (1 : Int32)) a2).bind fun S28 => (sI S28 157 158 (((122 : Int32) + ((3 : Int32) * a22)) + (2 : Int32)) a3).bind fun S31 => (gI S31 157 158 (4 : Int32)).bind fun a34 => (sI S31 157 158 (4 : Int32) (a34 + (1 : Int32))).bind fun S37 => (gI S37 157 158 (4 : Int32)).bind fun a40 => some (a40, S37)) else (some ((-2 : Int32), T))) else some (-2, T)) else some (-2, T)) else some (-2, T) := fun T h4 h5 => by
      have hg4 : gI T 157 158 4 = some (o3 s.2.2.2.1) := (gI_o (k := 4) (by omega) (by omega)).trans (congrArg some h4)
      unfold f_X11_letter
      rw [if_neg h0, mi_floor h5 (by omega), mi_floor h5 (by omega), hour_m, hg4]
      simp only [bd_some]
      by_cases z0 : s.2.2.2.1 = 12
      · rw [if_pos z0, if_pos (show o3 s.2.2.2.1 = (12 : Int32) by rw [z0]; rfl)]
      rw [if_neg z0, if_neg (show ¬ o3 s.2.2.2.1 = (12 : Int32) from fun q => z0 ((o3_inj (b := 12) (by omega) (by omega)).mp q))]
      by_cases z1 : 0 ≤ a1.toInt ∧ a1.toInt < s.1.length
      · rw [if_pos z1, if_pos z1, if_neg (show ¬ (1 : Int32) = 0 by decide)]
        by_cases z2 : 0 ≤ a2.toInt ∧ a2.toInt < s.1.length
        · rw [if_pos z2, if_pos z2, if_neg (show ¬ (1 : Int32) = 0 by decide)]
          by_cases z3 : ((0 : Nat) : Int) ≤ a3.toInt ∧ a3.toInt ≤ ((9999 : Nat) : Int)
          · rw [if_pos z3, if_pos z3, if_neg (show ¬ (1 : Int32) = 0 by decide)]
          · rw [if_neg z3, if_neg z3, if_pos rfl]
        · rw [if_neg z2, if_neg z2, if_pos rfl]
      · rw [if_neg z1, if_neg z1, if_pos rfl]
    have no : ∀ (X : Option (Int32 × fS)), X = some (-2, S) → f_X11_letter a1 a2 a3 S = some (-2, S) → ∃ r S1 S2, X = some (r, S1) ∧ f_X11_letter a1 a2 a3 S1 = some (r, S2) ∧ Rel S2 := fun X hX hY => ⟨-2, S, S, hX, hY, hR0⟩
    by_cases h1 : 0 ≤ a1.toInt ∧ a1.toInt < s.1.length
    · rw [if_pos h1, if_neg (show ¬ (1 : Int32) = 0 by decide)]
      by_cases h2 : 0 ≤ a2.toInt ∧ a2.toInt < s.1.length
      · rw [if_pos h2, if_neg (show ¬ (1 : Int32) = 0 by decide)]
        by_cases h3 : ((0 : Nat) : Int) ≤ a3.toInt ∧ a3.toInt ≤ ((9999 : Nat) : Int)
        · rw [if_pos h3, if_neg (show ¬ (1 : Int32) = 0 by decide)]
          by_cases h4 : s.2.2.2.1 = 12
          · rw [if_neg (show ¬ o3 s.2.2.2.1 < (12 : Int32) from fun q => by have := (o3_lt (b := 12) (by omega) (by omega)).mp q; omega)]
            exact no _ rfl (by rw [hm S m3.1 m1.1, if_pos h4])
          · rw [if_pos (show o3 s.2.2.2.1 < (12 : Int32) from (o3_lt (b := 12) (by omega) (by omega)).mpr (by omega))]
            obtain ⟨f, e1, e2⟩ := o3_ex h1.1
            obtain ⟨g, e3, e4⟩ := o3_ex h2.1
            obtain ⟨v, e5, e6⟩ := o3_ex (x := a3) (by omega)
            have hf : f < s.1.length := by omega
            have hg : g < s.1.length := by omega
            rw [e1, e3, ch_btw b2 n1 hf hg, bd_some]
            rcases cwv_cs (E := s.2.1) (a := f) (b := g) with ⟨hu, eu⟩ | ⟨hu, eu⟩
            · rw [eu, if_neg (show ¬ (0 : Int32) ≤ -1 by decide), ← e1, ← e3]
              exact no _ rfl (by rw [hm S m3.1 m1.1, if_neg h4, if_pos h1, if_pos h2, if_pos h3, e1, e3, mh_btw d n1 hf hg, bd_some, hu, if_neg (show ¬ o6 99999 < (99999 : Int64) by decide)])
            · rw [eu, if_pos (o3_0le (by omega))]
              have hsend : f_X2_send 17 (o3 f) (o3 g) a3 (a3 + o3 (dst s.2.1 f g)) S = some (pI (pI (pI (pI (pI S 18 s.2.2.2.1 (o3 f)) 19 s.2.2.2.1 (o3 g)) 20 s.2.2.2.1 (o3 v)) 21 s.2.2.2.1 (o3 (v + dst s.2.1 f g))) 17 4 (o3 (s.2.2.2.1 + 1))) := by
                unfold f_X2_send
                rw [hc4, if_neg (show ¬ (12 : Int32) ≤ o3 s.2.2.2.1 from fun q => by have := (o3_le (a := 12) (by omega) (by omega)).mp q; omega), e5, o3_add, sI_o (by omega) (by omega), bd_some, pI_ne (by omega), hc4, sI_o (by omega) (by omega), bd_some, pI_ne (by omega), pI_ne (by omega), hc4, sI_o (by omega) (by omega), bd_some, pI_ne (by omega), pI_ne (by omega), pI_ne (by omega), hc4, sI_o (by omega) (by omega), bd_some, pI_ne (by omega), pI_ne (by omega), pI_ne (by omega), pI_ne (by omega), hc4, bd_some, o3_s]
              rw [hsend, bd_some]
              generalize hS1 : pI (pI (pI (pI (pI S 18 s.2.2.2.1 (o3 f)) 19 s.2.2.2.1 (o3 g)) 20 s.2.2.2.1 (o3 v)) 21 s.2.2.2.1 (o3 (v + dst s.2.1 f g))) 17 4 (o3 (s.2.2.2.1 + 1)) = S1
              have f1 : ∀ a k, ¬ (17 ≤ a ∧ a ≤ 21) → S1.1 a k = S.1 a k := fun a k x => by rw [← hS1, pI_ne (by omega), pI_ne (by omega), pI_ne (by omega), pI_ne (by omega), pI_ne (by omega)]
              have f2 : ∀ a k, S1.2 a k = S.2 a k := fun a k => by rw [← hS1]; rfl
              have g4 : S1.1 157 4 = o3 s.2.2.2.1 := (f1 _ _ (by omega)).trans m3.1
              have gg4 : gI S1 157 158 4 = some (o3 s.2.2.2.1) := (gI_o (k := 4) (by omega) (by omega)).trans (congrArg some g4)
              have e122 : (122 : Int32) + ((3 : Int32) * o3 s.2.2.2.1) = o3 (122 + 3 * s.2.2.2.1) := by rw [show (122 : Int32) = o3 122 from rfl, show (3 : Int32) = o3 3 from rfl, o3_mul, o3_add]
              have e123 : o3 (122 + 3 * s.2.2.2.1) + (1 : Int32) = o3 (122 + 3 * s.2.2.2.1 + 1) := o3_s
              have e124 : o3 (122 + 3 * s.2.2.2.1) + (2 : Int32) = o3 (122 + 3 * s.2.2.2.1 + 2) := by rw [show (2 : Int32) = o3 2 from rfl, o3_add]
              refine ⟨_, S1, pI (pI (pI (pI S1 157 (122 + 3 * s.2.2.2.1) (o3 f)) 157 (122 + 3 * s.2.2.2.1 + 1) (o3 g)) 157 (122 + 3 * s.2.2.2.1 + 2) (o3 v)) 157 4 (o3 (s.2.2.2.1 + 1)), rfl, ?_, fin _ (s.2.2.2.1 + 1, udN s.2.2.2.2.1 s.2.2.2.1 f, udN s.2.2.2.2.2.1 s.2.2.2.1 g, udN s.2.2.2.2.2.2 s.2.2.2.1 v) (fun a k x y => by rw [pI_ne (by omega), pI_ne (by omega), pI_ne (by omega), pI_ne (by omega), f1 a k x]) (fun a k => f2 a k) ⟨?_, fun k hk => ?_⟩ ⟨?_, fun k hk => ?_⟩ ⟨?_, fun k hk => ?_⟩⟩
              · rw [← e1, ← e3, hm S1 g4 ((f1 _ _ (by omega)).trans m1.1), if_neg h4, if_pos h1, if_pos h2, if_pos h3, e1, e3, mh_btw (S := S1) (rHm_eq d (fun k => f2 _ k)) n1 hf hg, bd_some, if_pos (show o6 (dst s.2.1 f g) < (99999 : Int64) from (o6_lt (b := 99999) (by omega) (by omega)).mpr hu), gg4, bd_some, e122, e123, e124, e5, sI_o (by omega) (by omega), bd_some, sI_o (by omega) (by omega), bd_some, sI_o (by omega) (by omega), bd_some, show (4 : Int32) = o3 4 from rfl, gI_o (by omega) (by omega), bd_some, pI_ne (by omega), pI_ne (by omega), pI_ne (by omega), g4, o3_s, sI_o (by omega) (by omega), bd_some, gI_o (by omega) (by omega), bd_some, pI_eq, ← hS1, pI_eq]
              · show s.2.2.2.1 + 1 ≤ 12; omega
              · have hk : k < s.2.2.2.1 + 1 := hk
                show udN _ _ _ k < _ ∧ udN _ _ _ k < _ ∧ udN _ _ _ k ≤ _ ∧ dst s.2.1 (udN _ _ _ k) (udN _ _ _ k) < _
                by_cases e : k = s.2.2.2.1
                · subst e; rw [udN_eq, udN_eq, udN_eq]; exact ⟨hf, hg, by omega, hu⟩
                · rw [udN_ne e, udN_ne e, udN_ne e]; exact n6.2 k (by omega)
              · rw [pI_ne (by omega), pI_ne (by omega), pI_ne (by omega), pI_ne (by omega), ← hS1, pI_eq]
              · have hk : k < s.2.2.2.1 + 1 := hk
                show _ = o3 (udN _ _ _ k) ∧ _ = o3 (udN _ _ _ k) ∧ _ = o3 (udN _ _ _ k) ∧ _ = o3 (udN _ _ _ k + dst s.2.1 (udN _ _ _ k) (udN _ _ _ k))
                rw [pI_ne (by omega), pI_ne (by omega), pI_ne (by omega), pI_ne (by omega), pI_ne (by omega), pI_ne (by omega), pI_ne (by omega), pI_ne (by omega), pI_ne (by omega), pI_ne (by omega), pI_ne (by omega), pI_ne (by omega), pI_ne (by omega), pI_ne (by omega), pI_ne (by omega), pI_ne (by omega), ← hS1]
                by_cases e : k = s.2.2.2.1
                · subst e
                  rw [udN_eq, udN_eq, udN_eq]
                  refine ⟨?_, ?_, ?_, ?_⟩
                  · rw [pI_ne (by omega), pI_ne (by omega), pI_ne (by omega), pI_ne (by omega), pI_eq]
                  · rw [pI_ne (by omega), pI_ne (by omega), pI_ne (by omega), pI_eq]
                  · rw [pI_ne (by omega), pI_ne (by omega), pI_eq]
                  · rw [pI_ne (by omega), pI_eq]
                · rw [udN_ne e, udN_ne e, udN_ne e]
                  obtain ⟨c1, c2, c3, c4⟩ := b4.2 k (by omega)
                  refine ⟨?_, ?_, ?_, ?_⟩
                  · rw [pI_ne (by omega), pI_ne (by omega), pI_ne (by omega), pI_ne (by omega), pI_ne (by omega)]; exact c1
                  · rw [pI_ne (by omega), pI_ne (by omega), pI_ne (by omega), pI_ne (by omega), pI_ne (by omega)]; exact c2
                  · rw [pI_ne (by omega), pI_ne (by omega), pI_ne (by omega), pI_ne (by omega), pI_ne (by omega)]; exact c3
                  · rw [pI_ne (by omega), pI_ne (by omega), pI_ne (by omega), pI_ne (by omega), pI_ne (by omega)]; exact c4
              · rw [pI_eq]
              · have hk : k < s.2.2.2.1 + 1 := hk
                show _ = o3 (udN _ _ _ k) ∧ _ = o3 (udN _ _ _ k) ∧ _ = o3 (udN _ _ _ k)
                by_cases e : k = s.2.2.2.1
                · subst e
                  rw [udN_eq, udN_eq, udN_eq]
                  refine ⟨?_, ?_, ?_⟩
                  · rw [pI_ne (by omega), pI_ne (by omega), pI_ne (by omega), pI_eq]
                  · rw [pI_ne (by omega), pI_ne (by omega), pI_eq]
                  · rw [pI_ne (by omega), pI_eq]
                · rw [udN_ne e, udN_ne e, udN_ne e]
                  obtain ⟨c1, c2, c3⟩ := m3.2 k (by omega)
                  refine ⟨?_, ?_, ?_⟩
                  · rw [pI_ne (by omega), pI_ne (by omega), pI_ne (by omega), pI_ne (by omega), f1 _ _ (by omega)]; exact c1
                  · rw [pI_ne (by omega), pI_ne (by omega), pI_ne (by omega), pI_ne (by omega), f1 _ _ (by omega)]; exact c2
                  · rw [pI_ne (by omega), pI_ne (by omega), pI_ne (by omega), pI_ne (by omega), f1 _ _ (by omega)]; exact c3
        · rw [if_neg h3, if_pos rfl]
          refine no _ rfl ?_
          rw [hm S m3.1 m1.1]
          split <;> rfl
      · rw [if_neg h2, if_pos rfl]
        refine no _ rfl ?_
        rw [hm S m3.1 m1.1]
        split <;> rfl
    · rw [if_neg h1, if_pos rfl]
      refine no _ rfl ?_
      rw [hm S m3.1 m1.1]
      split <;> rfl
end
noncomputable section
/-! image(), back(), seed(), count() -/
theorem c_copyS {S : fS} {b c : Nat} {s : Sn} (hd : b + 18 < c ∨ c + 18 < b) (hN : okN s) (hS : scC S c s) : ∃ Y, f_X6_copyFrom b c S = some Y ∧ scC Y b s ∧ (∀ a k, ¬ (b ≤ a ∧ a ≤ b + 18) → Y.1 a k = S.1 a k ∧ Y.2 a k = S.2 a k) ∧ Y.1 b 4 = S.1 b 4 ∧ Y.1 b 3 = S.1 c 3 := by
  obtain ⟨n1, n2, n3, n4, n5, n6⟩ := hN
  obtain ⟨b1, b2, b3, b4, b5⟩ := hS
  have h8 := n5.1
  have h12 := n6.1
  obtain ⟨T1, x1, x2, x3, x4, x5, x6, x7⟩ := c_copyT (S := S) (b := b + 1) (c := c + 1) (by omega)
  obtain ⟨T2, y1, y2, y3, y4, y5⟩ := c_copyC (S := T1) (b := b + 8) (c := c + 8) (by omega)
  obtain ⟨T3, z1, z2, z3, z4, z5⟩ := c_copyP (S := T2) (b := b + 14) (c := c + 14) (by omega)
  unfold f_X6_copyFrom
  rw [x1, bd_some, y1, bd_some, z1, bd_some, bd_some]
  have f2 : ∀ a k, ¬ (b + 8 ≤ a ∧ a ≤ b + 18) → T3.1 a k = T1.1 a k := fun a k h => (z4 a k (by omega)).trans (y5 a k (by omega)).1
  have f3 : ∀ a k, ¬ (b + 1 ≤ a ∧ a ≤ b + 18) → T3.1 a k = S.1 a k := fun a k h => (f2 a k (by omega)).trans (x7 a k (by omega)).1
  have g3 : ∀ a k, ¬ (b + 1 ≤ a ∧ a ≤ b + 18) → T3.2 a k = S.2 a k := fun a k h => by rw [z5, (y5 a k (by omega)).2, (x7 a k (by omega)).2]
  have g2 : ∀ a k, ¬ (b + 8 ≤ a ∧ a ≤ b + 13) → T3.2 a k = T1.2 a k := fun a k h => by rw [z5, (y5 a k (by omega)).2]
  refine ⟨_, rfl, ⟨⟨?_, ?_, fun k hk => ?_, fun k hk => ⟨?_, ?_, ?_, ?_⟩⟩, fun p q hp hq => ?_, ⟨?_, ?_, fun k hk => ⟨?_, ?_, ?_, ?_, ?_⟩⟩, ⟨?_, fun k hk => ⟨?_, ?_, ?_, ?_⟩⟩, ?_⟩, fun a k h => ⟨?_, ?_⟩, ?_, ?_⟩
  · rw [pI_ne (by omega), f2 _ _ (by omega), x2]; exact b1.1
  · rw [pI_ne (by omega), f2 _ _ (by omega), x3]; exact b1.2.1
  · rw [pI_2', g2 _ _ (by omega), x4 k (by omega)]; exact b1.2.2.1 k hk
  · rw [pI_ne (by omega), f2 _ _ (by omega), (x5 k (by omega)).1]; exact (b1.2.2.2 k hk).1
  · rw [pI_ne (by omega), f2 _ _ (by omega), (x5 k (by omega)).2.1]; exact (b1.2.2.2 k hk).2.1
  · rw [pI_ne (by omega), f2 _ _ (by omega), (x5 k (by omega)).2.2.1]; exact (b1.2.2.2 k hk).2.2.1
  · rw [pI_2', g2 _ _ (by omega), (x5 k (by omega)).2.2.2]; exact (b1.2.2.2 k hk).2.2.2
  · rw [pI_ne (by omega), f2 _ _ (by omega), show b + 7 = b + 1 + 6 by omega, x6 _ (by omega)]; exact b2 p q hp hq
  · rw [pI_ne (by omega), z4 _ _ (by omega), y2, (x7 _ _ (by omega)).1]; exact b3.1
  · rw [pI_ne (by omega), z4 _ _ (by omega), y3, (x7 _ _ (by omega)).1]; exact b3.2.1
  · rw [pI_ne (by omega), z4 _ _ (by omega), (y4 k (by omega)).1, (x7 _ _ (by omega)).1]; exact (b3.2.2 k hk).1
  · rw [pI_ne (by omega), z4 _ _ (by omega), (y4 k (by omega)).2.1, (x7 _ _ (by omega)).1]; exact (b3.2.2 k hk).2.1
  · rw [pI_ne (by omega), z4 _ _ (by omega), (y4 k (by omega)).2.2.1, (x7 _ _ (by omega)).1]; exact (b3.2.2 k hk).2.2.1
  · rw [pI_ne (by omega), z4 _ _ (by omega), (y4 k (by omega)).2.2.2.1, (x7 _ _ (by omega)).1]; exact (b3.2.2 k hk).2.2.2.1
  · rw [pI_2', z5, (y4 k (by omega)).2.2.2.2, (x7 _ _ (by omega)).2]; exact (b3.2.2 k hk).2.2.2.2
  · rw [pI_ne (by omega), z2, (y5 _ _ (by omega)).1, (x7 _ _ (by omega)).1]; exact b4.1
  · rw [pI_ne (by omega), (z3 k (by omega)).1, (y5 _ _ (by omega)).1, (x7 _ _ (by omega)).1]; exact (b4.2 k hk).1
  · rw [pI_ne (by omega), (z3 k (by omega)).2.1, (y5 _ _ (by omega)).1, (x7 _ _ (by omega)).1]; exact (b4.2 k hk).2.1
  · rw [pI_ne (by omega), (z3 k (by omega)).2.2.1, (y5 _ _ (by omega)).1, (x7 _ _ (by omega)).1]; exact (b4.2 k hk).2.2.1
  · rw [pI_ne (by omega), (z3 k (by omega)).2.2.2, (y5 _ _ (by omega)).1, (x7 _ _ (by omega)).1]; exact (b4.2 k hk).2.2.2
  · rw [pI_eq, f3 _ _ (by omega)]; exact b5
  · rw [pI_ne (by omega), f3 _ _ (by omega)]
  · rw [pI_2', g3 _ _ (by omega)]
  · rw [pI_ne (by omega), f3 _ _ (by omega)]
  · rw [pI_eq, f3 _ _ (by omega)]
theorem mi_23 {i : Nat} (hi : i < 4) {K : fS → Option (Int32 × fS)} : ∀ d k nn (S : fS), k + d = 158 → d < nn → (∀ j, j < k → S.1 168 (158 * i + j) = S.1 157 j) → ∃ T, lp_X11_image_23 (o3 i) K nn (o3 k) S = K T ∧ (∀ j, j < 158 → T.1 168 (158 * i + j) = S.1 157 j) ∧ (∀ a j, ¬ (a = 168 ∧ 158 * i ≤ j ∧ j < 158 * i + 158) → T.1 a j = S.1 a j) ∧ T.2 = S.2 := by
  intro d
  induction d with
  | zero =>
    intro k nn S hk hnn hj
    obtain ⟨nn, rfl⟩ : ∃ z, nn = z + 1 := ⟨nn - 1, by omega⟩
    rw [lp_X11_image_23.eq_2, if_pos (show (158 : Int32) ≤ o3 k from (o3_le (a := 158) (by omega) (by omega)).mpr (by omega))]
    exact ⟨S, rfl, fun j h => hj j (by omega), fun _ _ _ => rfl, rfl⟩
  | succ d ih =>
    intro k nn S hk hnn hj
    obtain ⟨nn, rfl⟩ : ∃ z, nn = z + 1 := ⟨nn - 1, by omega⟩
    rw [lp_X11_image_23.eq_2, if_neg (show ¬ (158 : Int32) ≤ o3 k from fun q => by have := (o3_le (a := 158) (by omega) (by omega)).mp q; omega), gI_o (by omega) (by omega), bd_some, show (158 : Int32) = o3 158 from rfl, o3_mul, o3_add, sI_o (by omega) (by omega), bd_some, o3_s]
    obtain ⟨T, t1, t2, t3, t4⟩ := ih (k + 1) nn (pI S 168 (158 * i + k) (S.1 157 k)) (by omega) (by omega) (fun j h => by
      rw [pI_ne (b := 157) (by omega)]
      by_cases e : j = k
      · subst e; rw [pI_eq]
      · rw [pI_ne (by omega)]; exact hj j (by omega))
    exact ⟨T, t1, fun j h => by rw [t2 j h, pI_ne (by omega)], fun a j h => by rw [t3 a j h, pI_ne (by omega)], t4⟩
theorem mi_56 {i : Nat} (hi : i < 4) {K : fS → Option (Int32 × fS)} : ∀ d k nn (S : fS), k + d = 8 → d < nn → (∀ j, j < k → S.2 169 (8 * i + j) = S.2 158 j) → ∃ T, lp_X11_image_56 (o3 i) K nn (o3 k) S = K T ∧ (∀ j, j < 8 → T.2 169 (8 * i + j) = S.2 158 j) ∧ (∀ a j, ¬ (a = 169 ∧ 8 * i ≤ j ∧ j < 8 * i + 8) → T.2 a j = S.2 a j) ∧ T.1 = S.1 := by
  intro d
  induction d with
  | zero =>
    intro k nn S hk hnn hj
    obtain ⟨nn, rfl⟩ : ∃ z, nn = z + 1 := ⟨nn - 1, by omega⟩
    rw [lp_X11_image_56.eq_2, if_pos (show (8 : Int32) ≤ o3 k from (o3_le (a := 8) (by omega) (by omega)).mpr (by omega))]
    exact ⟨S, rfl, fun j h => hj j (by omega), fun _ _ _ => rfl, rfl⟩
  | succ d ih =>
    intro k nn S hk hnn hj
    obtain ⟨nn, rfl⟩ : ∃ z, nn = z + 1 := ⟨nn - 1, by omega⟩
    rw [lp_X11_image_56.eq_2, if_neg (show ¬ (8 : Int32) ≤ o3 k from fun q => by have := (o3_le (a := 8) (by omega) (by omega)).mp q; omega), gL_o (by omega) (by omega), bd_some, show (8 : Int32) = o3 8 from rfl, o3_mul, o3_add, sL_o (by omega) (by omega), bd_some, o3_s]
    obtain ⟨T, t1, t2, t3, t4⟩ := ih (k + 1) nn (pL S 169 (8 * i + k) (S.2 158 k)) (by omega) (by omega) (fun j h => by
      rw [pL_ne (b := 158) (by omega)]
      by_cases e : j = k
      · subst e; rw [pL_eq]
      · rw [pL_ne (by omega)]; exact hj j (by omega))
    exact ⟨T, t1, fun j h => by rw [t2 j h, pL_ne (by omega)], fun a j h => by rw [t3 a j h, pL_ne (by omega)], t4⟩
theorem scM_cg {I J : Nat → Int32} {A B : Nat → Int64} {s : Sn} (hN : okN s) (h : scM I A s) (h1 : ∀ k, k < 158 → J k = I k) (h2 : ∀ k, k < 8 → B k = A k) : scM J B s := by
  obtain ⟨n1, n2, n3, n4, n5, n6⟩ := hN
  obtain ⟨a, b, c, d⟩ := h
  have h8 := n5.1
  have h12 := n6.1
  refine ⟨twM_eq n1 n2 a (fun k hk => h1 k (by omega)), ⟨(h1 _ (by omega)).trans b.1, (h1 _ (by omega)).trans b.2.1, fun k hk => ?_⟩, ⟨(h1 _ (by omega)).trans c.1, fun k hk => ?_⟩, ?_⟩
  · obtain ⟨e1, e2, e3, e4, e5⟩ := b.2.2 k hk
    exact ⟨(h1 _ (by omega)).trans e1, (h1 _ (by omega)).trans e2, (h1 _ (by omega)).trans e3, (h1 _ (by omega)).trans e4, (h2 _ (by omega)).trans e5⟩
  · obtain ⟨e1, e2, e3⟩ := c.2 k hk
    exact ⟨(h1 _ (by omega)).trans e1, (h1 _ (by omega)).trans e2, (h1 _ (by omega)).trans e3⟩
  · rw [h1 5 (by omega)]; exact d
theorem gA22_o {r : Nat} (h : r < 4) : gA22 (o3 r) = some (51 + 19 * r) := by
  unfold gA22
  rw [if_neg (ix_ok h (by omega)), o3_nat (by omega)]
theorem t_35 (a1 : Int32) (S : fS) (hR : Rel S) : ∃ r S1 S2, f_X10_image a1 S = some (r, S1) ∧ f_X11_image a1 S1 = some (r, S2) ∧ Rel S2 := by
  have hR0 := hR
  obtain ⟨n, s, L, M, hT, hS, hL, hM⟩ := hR
  have hS0 := hS
  obtain ⟨hN, hC, hMm, hd⟩ := hS
  have i1 : f_X10_isFrom a1 0 3 S = some (if ((0 : Nat) : Int) ≤ a1.toInt ∧ a1.toInt ≤ ((3 : Nat) : Int) then 1 else 0) := from_c (a := 0) (b := 3) (by omega) (by omega)
  have i2 : ∀ T : fS, f_X11_in (Int32.toInt64 a1) 0 3 T = some (if ((0 : Nat) : Int) ≤ a1.toInt ∧ a1.toInt ≤ ((3 : Nat) : Int) then 1 else 0) := fun T => in_c (a := 0) (b := 3) (by omega) (by omega)
  unfold f_X10_image
  rw [i1, bd_some]
  by_cases h1 : ((0 : Nat) : Int) ≤ a1.toInt ∧ a1.toInt ≤ ((3 : Nat) : Int)
  · rw [if_pos h1, if_neg (show ¬ (1 : Int32) = 0 by decide)]
    obtain ⟨i, e1, e2⟩ := o3_ex (x := a1) (by omega)
    have hi : i < 4 := by omega
    have i3 : ∀ T : fS, f_X11_in (Int32.toInt64 (o3 i)) 0 3 T = some 1 := fun T => by rw [← e1, i2, if_pos h1]
    obtain ⟨T, c1, c2, c3, c4, c5⟩ := c_copyS (b := 51 + 19 * i) (c := 3) (by omega) hN hC
    rw [e1, gA22_o hi, bd_some, c1, bd_some, bd_some, bd_some]
    generalize hS1 : pI T (51 + 19 * i) 4 1 = S1
    have f1 : ∀ a k, ¬ (51 + 19 * i ≤ a ∧ a ≤ 51 + 19 * i + 18) → S1.1 a k = S.1 a k := fun a k h => by rw [← hS1, pI_ne (by omega), (c3 a k h).1]
    have f2 : ∀ a k, ¬ (51 + 19 * i ≤ a ∧ a ≤ 51 + 19 * i + 18) → S1.2 a k = S.2 a k := fun a k h => by rw [← hS1, pI_2', (c3 a k h).2]
    have f4 : S1.1 (51 + 19 * i) 4 = 1 := by rw [← hS1, pI_eq]
    have fs : scC S1 (51 + 19 * i) s := by
      rw [← hS1]
      exact scC_eq c2 (fun a k _ _ => by rw [pI_ne (by omega)]) (fun a k _ _ => rfl) (by rw [pI_ne (by omega)]; exact c2.2.2.2.2)
    have hv : vp_nar .boolean (1 : Int32) = 1 := by decide
    have e170 : sI S1 170 4 (o3 i) (vp_nar .boolean (1 : Int32)) = some (pI S1 170 i 1) := by rw [hv, sI_o hi (by omega)]
    obtain ⟨T1, t1, t2, t3, t4⟩ := mi_23 hi (K := fun S15 => lp_X11_image_56 (o3 i) (fun S24 => (gI S24 157 158 (3 : Int32)).bind fun a26 => some (a26, S24)) FU (0 : Int32) S15) 158 0 FU (pI S1 170 i 1) (by omega) (FU_lt (by omega)) (fun j hj => absurd hj (Nat.not_lt_zero _))
    obtain ⟨T2, u1, u2, u3, u4⟩ := mi_56 hi (K := fun S24 => (gI S24 157 158 (3 : Int32)).bind fun a26 => some (a26, S24)) 8 0 FU T1 (by omega) (FU_lt (by omega)) (fun j hj => absurd hj (Nat.not_lt_zero _))
    have g1 : ∀ a k, ¬ (a = 168 ∧ 158 * i ≤ k ∧ k < 158 * i + 158) → ¬ (a = 170 ∧ k = i) → T2.1 a k = S1.1 a k := fun a k h h' => by rw [u4, t3 a k h, pI_ne (by omega)]
    have g2 : ∀ a k, ¬ (a = 169 ∧ 8 * i ≤ k ∧ k < 8 * i + 8) → T2.2 a k = S1.2 a k := fun a k h => by rw [u3 a k h, t4]; rfl
    have k1 : ∀ a k, ¬ (51 + 19 * i ≤ a ∧ a ≤ 51 + 19 * i + 18) → ¬ (a = 168 ∧ 158 * i ≤ k ∧ k < 158 * i + 158) → ¬ (a = 170 ∧ k = i) → T2.1 a k = S.1 a k := fun a k x y z => (g1 a k y z).trans (f1 a k x)
    have k2 : ∀ a k, ¬ (51 + 19 * i ≤ a ∧ a ≤ 51 + 19 * i + 18) → ¬ (a = 169 ∧ 8 * i ≤ k ∧ k < 8 * i + 8) → T2.2 a k = S.2 a k := fun a k x y => (g2 a k y).trans (f2 a k x)
    refine ⟨_, S1, T2, rfl, ?_, n, s, L, fun j => if j = i then some s else M j, ?_, ?_, ?_, fun j hj => ?_⟩
    · unfold f_X11_image
      rw [i3, bd_some, if_neg (show ¬ (1 : Int32) = 0 by decide), e170, bd_some]
      refine (show lp_X11_image_23 (o3 i) (fun S15 => lp_X11_image_56 (o3 i) (fun S24 => (gI S24 157 158 (3 : Int32)).bind fun a26 => some (a26, S24)) FU (0 : Int32) S15) FU (0 : Int32) (pI S1 170 i 1) = _ from t1.trans u1).trans ?_
      rw [show (3 : Int32) = o3 3 from rfl, gI_o (by omega) (by omega), bd_some, k1 157 3 (by omega) (by omega) (by omega), f1 11 6 (by omega), hMm.2.1.2.1]
      exact congrArg (fun z => some (z, T2)) hC.2.2.1.2.1.symm
    · exact rTp_eq hT (k1 _ _ (by omega) (by omega) (by omega)) (k1 _ _ (by omega) (by omega) (by omega)) (fun k => k1 _ _ (by omega) (by omega) (by omega)) (fun k => k1 _ _ (by omega) (by omega) (by omega))
    · exact rSc_eq hS0 (fun a k _ _ => k1 a k (by omega) (by omega) (by omega)) (fun a k _ _ => k2 a k (by omega) (by omega)) (by rw [k1 3 3 (by omega) (by omega) (by omega)]; exact hC.2.2.2.2) (fun k => k1 _ _ (by omega) (by omega) (by omega)) (fun a k _ => k2 a k (by omega) (by omega))
    · exact rRu_eq hL (k1 _ _ (by omega) (by omega) (by omega)) (k1 _ _ (by omega) (by omega) (by omega)) (fun a k _ _ _ => k1 a k (by omega) (by omega) (by omega)) (fun a k _ => k1 a k (by omega) (by omega) (by omega))
    · by_cases e : j = i
      · subst e
        refine Or.inr ⟨s, if_pos rfl, ?_, ?_, hN, ?_, ?_⟩
        · rw [g1 _ _ (by omega) (by omega)]; exact f4
        · rw [u4, t3 _ _ (by omega), pI_eq]
        · exact scC_eq fs (fun a k _ _ => g1 a k (by omega) (by omega)) (fun a k _ _ => g2 a k (by omega)) (by rw [g1 _ _ (by omega) (by omega)]; exact fs.2.2.2.2)
        · refine scM_cg hN hMm (fun k hk => ?_) (fun k hk => ?_)
          · show T2.1 168 (158 * j + k) = _
            rw [u4, t2 k hk, pI_ne (by omega), f1 _ _ (by omega)]
          · show T2.2 169 (8 * j + k) = _
            rw [u2 k hk, t4, pI_2', f2 _ _ (by omega)]
      · have hne : (fun j => if j = i then some s else M j) j = M j := if_neg e
        rw [hne]
        rcases hM j hj with ⟨x, y, z⟩ | ⟨s', x, y, z, w1, w2, w3⟩
        · exact Or.inl ⟨x, (k1 _ _ (by omega) (by omega) (by omega)).trans y, (k1 _ _ (by omega) (by omega) (by omega)).trans z⟩
        · refine Or.inr ⟨s', x, (k1 _ _ (by omega) (by omega) (by omega)).trans y, (k1 _ _ (by omega) (by omega) (by omega)).trans z, w1, ?_, ?_⟩
          · exact scC_eq w2 (fun a k _ _ => k1 a k (by omega) (by omega) (by omega)) (fun a k _ _ => k2 a k (by omega) (by omega)) (by rw [k1 _ _ (by omega) (by omega) (by omega)]; exact w2.2.2.2.2)
          · exact scM_cg w1 w3 (fun k hk => k1 _ _ (by omega) (by omega) (by omega)) (fun k hk => k2 _ _ (by omega) (by omega))
  · rw [if_neg h1, if_pos rfl]
    refine ⟨-1, S, S, rfl, ?_, hR0⟩
    unfold f_X11_image
    rw [i2, bd_some, if_neg h1, if_pos rfl]
theorem mb_25 {i : Nat} (hi : i < 4) {K : fS → Option (Int32 × fS)} : ∀ d k nn (S : fS), k + d = 158 → d < nn → (∀ j, j < k → S.1 157 j = S.1 168 (158 * i + j)) → ∃ T, lp_X11_back_25 (o3 i) K nn (o3 k) S = K T ∧ (∀ j, j < 158 → T.1 157 j = S.1 168 (158 * i + j)) ∧ (∀ a j, a ≠ 157 → T.1 a j = S.1 a j) ∧ T.2 = S.2 := by
  intro d
  induction d with
  | zero =>
    intro k nn S hk hnn hj
    obtain ⟨nn, rfl⟩ : ∃ z, nn = z + 1 := ⟨nn - 1, by omega⟩
    rw [lp_X11_back_25.eq_2, if_pos (show (158 : Int32) ≤ o3 k from (o3_le (a := 158) (by omega) (by omega)).mpr (by omega))]
    exact ⟨S, rfl, fun j h => hj j (by omega), fun _ _ _ => rfl, rfl⟩
  | succ d ih =>
    intro k nn S hk hnn hj
    obtain ⟨nn, rfl⟩ : ∃ z, nn = z + 1 := ⟨nn - 1, by omega⟩
    rw [lp_X11_back_25.eq_2, if_neg (show ¬ (158 : Int32) ≤ o3 k from fun q => by have := (o3_le (a := 158) (by omega) (by omega)).mp q; omega), show (158 : Int32) = o3 158 from rfl, o3_mul, o3_add, gI_o (by omega) (by omega), bd_some, sI_o (by omega) (by omega), bd_some, o3_s]
    obtain ⟨T, t1, t2, t3, t4⟩ := ih (k + 1) nn (pI S 157 k (S.1 168 (158 * i + k))) (by omega) (by omega) (fun j h => by
      rw [pI_ne (b := 168) (by omega)]
      by_cases e : j = k
      · subst e; rw [pI_eq]
      · rw [pI_ne (by omega)]; exact hj j (by omega))
    exact ⟨T, t1, fun j h => by rw [t2 j h, pI_ne (by omega)], fun a j h => by rw [t3 a j h, pI_ne (by omega)], t4⟩
theorem mb_58 {i : Nat} (hi : i < 4) {K : fS → Option (Int32 × fS)} : ∀ d k nn (S : fS), k + d = 8 → d < nn → (∀ j, j < k → S.2 158 j = S.2 169 (8 * i + j)) → ∃ T, lp_X11_back_58 (o3 i) K nn (o3 k) S = K T ∧ (∀ j, j < 8 → T.2 158 j = S.2 169 (8 * i + j)) ∧ (∀ a j, a ≠ 158 → T.2 a j = S.2 a j) ∧ T.1 = S.1 := by
  intro d
  induction d with
  | zero =>
    intro k nn S hk hnn hj
    obtain ⟨nn, rfl⟩ : ∃ z, nn = z + 1 := ⟨nn - 1, by omega⟩
    rw [lp_X11_back_58.eq_2, if_pos (show (8 : Int32) ≤ o3 k from (o3_le (a := 8) (by omega) (by omega)).mpr (by omega))]
    exact ⟨S, rfl, fun j h => hj j (by omega), fun _ _ _ => rfl, rfl⟩
  | succ d ih =>
    intro k nn S hk hnn hj
    obtain ⟨nn, rfl⟩ : ∃ z, nn = z + 1 := ⟨nn - 1, by omega⟩
    rw [lp_X11_back_58.eq_2, if_neg (show ¬ (8 : Int32) ≤ o3 k from fun q => by have := (o3_le (a := 8) (by omega) (by omega)).mp q; omega), show (8 : Int32) = o3 8 from rfl, o3_mul, o3_add, gL_o (by omega) (by omega), bd_some, sL_o (by omega) (by omega), bd_some, o3_s]
    obtain ⟨T, t1, t2, t3, t4⟩ := ih (k + 1) nn (pL S 158 k (S.2 169 (8 * i + k))) (by omega) (by omega) (fun j h => by
      rw [pL_ne (b := 169) (by omega)]
      by_cases e : j = k
      · subst e; rw [pL_eq]
      · rw [pL_ne (by omega)]; exact hj j (by omega))
    exact ⟨T, t1, fun j h => by rw [t2 j h, pL_ne (by omega)], fun a j h => by rw [t3 a j h, pL_ne (by omega)], t4⟩
theorem t_36 (a1 : Int32) (S : fS) (hR : Rel S) : ∃ r S1 S2, f_X10_back a1 S = some (r, S1) ∧ f_X11_back a1 S1 = some (r, S2) ∧ Rel S2 := by
  have hR0 := hR
  obtain ⟨n, s, L, M, hT, hS, hL, hM⟩ := hR
  have i1 : f_X10_isFrom a1 0 3 S = some (if ((0 : Nat) : Int) ≤ a1.toInt ∧ a1.toInt ≤ ((3 : Nat) : Int) then 1 else 0) := from_c (a := 0) (b := 3) (by omega) (by omega)
  have i2 : ∀ T : fS, f_X11_in (Int32.toInt64 a1) 0 3 T = some (if ((0 : Nat) : Int) ≤ a1.toInt ∧ a1.toInt ≤ ((3 : Nat) : Int) then 1 else 0) := fun T => in_c (a := 0) (b := 3) (by omega) (by omega)
  unfold f_X10_back
  rw [i1, bd_some]
  by_cases h1 : ((0 : Nat) : Int) ≤ a1.toInt ∧ a1.toInt ≤ ((3 : Nat) : Int)
  · rw [if_pos h1, if_neg (show ¬ (1 : Int32) = 0 by decide)]
    obtain ⟨i, e1, e2⟩ := o3_ex (x := a1) (by omega)
    have hi : i < 4 := by omega
    have i3 : ∀ T : fS, f_X11_in (Int32.toInt64 (o3 i)) 0 3 T = some 1 := fun T => by rw [← e1, i2, if_pos h1]
    rw [e1, gA22_o hi, bd_some, bd_some]
    rcases hM i hi with ⟨x, y, z⟩ | ⟨s', x, y, z, w1, w2, w3⟩
    · rw [y, if_pos rfl]
      refine ⟨-1, S, S, rfl, ?_, hR0⟩
      unfold f_X11_back
      rw [i3, bd_some, if_neg (show ¬ (1 : Int32) = 0 by decide), gI_o hi (by omega), bd_some, z, if_pos rfl]
    · rw [y, if_neg (show ¬ (1 : Int32) = 0 by decide)]
      obtain ⟨S1, c1, c2, c3, c4, c5⟩ := c_copyS (b := 3) (c := 51 + 19 * i) (by omega) w1 w2
      rw [c1, bd_some]
      have f1 : ∀ a k, ¬ (3 ≤ a ∧ a ≤ 21) → S1.1 a k = S.1 a k := fun a k h => (c3 a k (by omega)).1
      have f2 : ∀ a k, ¬ (3 ≤ a ∧ a ≤ 21) → S1.2 a k = S.2 a k := fun a k h => (c3 a k (by omega)).2
      obtain ⟨T1, t1, t2, t3, t4⟩ := mb_25 hi (K := fun S16 => lp_X11_back_58 (o3 i) (fun S25 => (f_X11_spreads S25).bind fun q27 => (gI q27 157 158 (3 : Int32)).bind fun a30 => some (a30, q27)) FU (0 : Int32) S16) 158 0 FU S1 (by omega) (FU_lt (by omega)) (fun j hj => absurd hj (Nat.not_lt_zero _))
      obtain ⟨T2, u1, u2, u3, u4⟩ := mb_58 hi (K := fun S25 => (f_X11_spreads S25).bind fun q27 => (gI q27 157 158 (3 : Int32)).bind fun a30 => some (a30, q27)) 8 0 FU T1 (by omega) (FU_lt (by omega)) (fun j hj => absurd hj (Nat.not_lt_zero _))
      have hsM : scM (T2.1 157) (T2.2 158) s' := scM_cg w1 w3 (fun k hk => by rw [u4, t2 k hk, f1 _ _ (by omega)]) (fun k hk => by rw [u2 k hk, t4, f2 _ _ (by omega)])
      obtain ⟨T3, v1, v2, v3⟩ := m_spreads hsM.1 w1.1 w1.2.1 w1.2.2.2.1
      have g1 : ∀ a k, a ≠ 157 → T3.1 a k = S1.1 a k := fun a k h => by rw [v3.1, u4, t3 a k h]
      have g2 : ∀ a k, a ≠ 158 → a ≠ 161 → T3.2 a k = S1.2 a k := fun a k h h' => by rw [v3.2 a k (by omega), u3 a k h, t4]
      have k1 : ∀ a k, ¬ (3 ≤ a ∧ a ≤ 21) → a ≠ 157 → T3.1 a k = S.1 a k := fun a k x y => (g1 a k y).trans (f1 a k x)
      have k2 : ∀ a k, ¬ (3 ≤ a ∧ a ≤ 21) → a ≠ 158 → a ≠ 161 → T3.2 a k = S.2 a k := fun a k x y z => (g2 a k y z).trans (f2 a k x)
      have h157 : T3.1 157 = T2.1 157 := by rw [v3.1]
      have h158 : T3.2 158 = T2.2 158 := funext fun k => v3.2 158 k (by omega)
      refine ⟨_, S1, T3, rfl, ?_, n, s', L, M, ?_, ⟨w1, ?_, ?_, ?_⟩, ?_, ?_⟩
      · unfold f_X11_back
        rw [i3, bd_some, if_neg (show ¬ (1 : Int32) = 0 by decide), gI_o hi (by omega), bd_some, f1 _ _ (by omega), z, if_neg (show ¬ (1 : Int32) = 0 by decide)]
        refine (show lp_X11_back_25 (o3 i) (fun S16 => lp_X11_back_58 (o3 i) (fun S25 => (f_X11_spreads S25).bind fun q27 => (gI q27 157 158 (3 : Int32)).bind fun a30 => some (a30, q27)) FU (0 : Int32) S16) FU (0 : Int32) S1 = _ from t1.trans u1).trans ?_
        rw [v1, bd_some, show (3 : Int32) = o3 3 from rfl, gI_o (by omega) (by omega), bd_some, h157, hsM.2.1.2.1]
        exact congrArg (fun z => some (z, T3)) c2.2.2.1.2.1.symm
      · exact rTp_eq hT (k1 _ _ (by omega) (by omega)) (k1 _ _ (by omega) (by omega)) (fun k => k1 _ _ (by omega) (by omega)) (fun k => k1 _ _ (by omega) (by omega))
      · exact scC_eq c2 (fun a k _ _ => g1 a k (by omega)) (fun a k _ _ => g2 a k (by omega) (by omega)) (by rw [g1 _ _ (by omega)]; exact c2.2.2.2.2)
      · rw [h157, h158]; exact hsM
      · exact fun a b ha hb => v2 a b (Nat.lt_of_lt_of_le ha w1.1) (Nat.lt_of_lt_of_le hb w1.1)
      · exact rRu_eq hL (k1 _ _ (by omega) (by omega)) (k1 _ _ (by omega) (by omega)) (fun a k _ _ _ => k1 a k (by omega) (by omega)) (fun a k _ => k1 a k (by omega) (by omega))
      · exact rIm_eq hM (fun a k _ _ => k1 a k (by omega) (by omega)) (fun a k _ _ => k2 a k (by omega) (by omega) (by omega)) (fun k => k1 _ _ (by omega) (by omega)) (fun k => k2 _ k (by omega) (by omega) (by omega)) (fun k => k1 _ _ (by omega) (by omega))
  · rw [if_neg h1, if_pos rfl]
    refine ⟨-1, S, S, rfl, ?_, hR0⟩
    unfold f_X11_back
    rw [i2, bd_some, if_neg h1, if_pos rfl]
theorem t_32 (a1 : Int32) (S : fS) (hR : Rel S) : ∃ r r' S1 S2, f_X10_seed a1 S = some (r, S1) ∧ f_X11_seed a1 S1 = some (r', S2) ∧ Rel S2 := by
  have hR0 := hR
  obtain ⟨n, s, L, M, hT, hS, hL, hM⟩ := hR
  unfold f_X10_seed
  by_cases h : (0 : Int32) ≤ a1
  · rw [if_pos h, bd_some]
    have h' : 0 ≤ a1.toInt := by have := ni_le.mp h; rw [ni_0] at this; exact this
    refine ⟨_, S.1 157 5, pI S 3 3 a1, pI (pI S 3 3 a1) 157 5 a1, rfl, ?_, n, s, L, M, ?_, ?_, ?_, ?_⟩
    · unfold f_X11_seed
      rw [if_pos h, show (5 : Int32) = o3 5 from rfl, gI_o (by omega) (by omega), bd_some, sI_o (by omega) (by omega), bd_some, pI_ne (by omega)]
    · exact rTp_eq hT (by rw [pI_ne (by omega), pI_ne (by omega)]) (by rw [pI_ne (by omega), pI_ne (by omega)]) (fun k => by rw [pI_ne (by omega), pI_ne (by omega)]) (fun k => by rw [pI_ne (by omega), pI_ne (by omega)])
    · obtain ⟨hN, hC, hMm, hd⟩ := hS
      refine ⟨hN, scC_eq hC (fun a k _ _ => by rw [pI_ne (by omega), pI_ne (by omega)]) (fun _ _ _ _ => rfl) (by rw [pI_ne (by omega), pI_eq]; exact h'), ?_, rHm_eq hd (fun _ => rfl)⟩
      obtain ⟨m1, m2, m3, m4⟩ := hMm
      have h8 := hN.2.2.2.2.1.1
      have h12 := hN.2.2.2.2.2.1
      refine ⟨twM_eq hN.1 hN.2.1 m1 (fun k hk => by rw [pI_ne (by omega), pI_ne (by omega)]), ⟨?_, ?_, fun k hk => ?_⟩, ⟨?_, fun k hk => ?_⟩, ?_⟩
      · rw [pI_ne (by omega), pI_ne (by omega)]; exact m2.1
      · rw [pI_ne (by omega), pI_ne (by omega)]; exact m2.2.1
      · rw [pI_ne (by omega), pI_ne (by omega), pI_ne (by omega), pI_ne (by omega), pI_ne (by omega), pI_ne (by omega), pI_ne (by omega), pI_ne (by omega)]; exact m2.2.2 k hk
      · rw [pI_ne (by omega), pI_ne (by omega)]; exact m3.1
      · rw [pI_ne (by omega), pI_ne (by omega), pI_ne (by omega), pI_ne (by omega), pI_ne (by omega), pI_ne (by omega)]; exact m3.2 k hk
      · rw [pI_eq]; exact h'
    · exact rRu_eq hL (by rw [pI_ne (by omega), pI_ne (by omega)]) (by rw [pI_ne (by omega), pI_ne (by omega)]) (fun a k _ _ _ => by rw [pI_ne (by omega), pI_ne (by omega)]) (fun a k _ => by rw [pI_ne (by omega), pI_ne (by omega)])
    · exact rIm_eq hM (fun a k _ _ => by rw [pI_ne (by omega), pI_ne (by omega)]) (fun _ _ _ _ => rfl) (fun k => by rw [pI_ne (by omega), pI_ne (by omega)]) (fun _ => rfl) (fun k => by rw [pI_ne (by omega), pI_ne (by omega)])
  · rw [if_neg h]
    refine ⟨-1, -1, S, S, rfl, ?_, hR0⟩
    unfold f_X11_seed
    rw [if_neg h]
theorem t_34 (a1 : Int32) (S : fS) (hR : Rel S) : ∃ r r', f_X10_count a1 S = some r ∧ f_X11_count a1 S = some r' ∧ Rel S := by
  have hR0 := hR
  obtain ⟨n, s, L, M, hT, ⟨⟨n1, n2, n3, n4, n5, n6⟩, ⟨b1, b2, b3, b4, b5⟩, ⟨m1, m2, m3, m4⟩, d⟩, hL, hM⟩ := hR
  have h12 := n6.1
  have h8 := n5.1
  have hg4 : gI S 157 158 4 = some (o3 s.2.2.2.1) := (gI_o (k := 4) (by omega) (by omega)).trans (congrArg some m3.1)
  have hc4 : S.1 17 4 = o3 s.2.2.2.1 := b4.1
  have q1 : ∀ dd k nn (p : Int32), k + dd = s.2.2.2.1 → dd < nn → ∃ r, lp_X2_earlyOnes_4 17 4 S (fun u6 => some u6) nn p (o3 k) = some r := by
    intro dd
    induction dd with
    | zero =>
      intro k nn p hk hnn
      obtain ⟨nn, rfl⟩ : ∃ z, nn = z + 1 := ⟨nn - 1, by omega⟩
      rw [lp_X2_earlyOnes_4.eq_2, hc4, if_pos ((o3_le (by omega) (by omega)).mpr (by omega))]
      exact ⟨_, rfl⟩
    | succ dd ih =>
      intro k nn p hk hnn
      obtain ⟨nn, rfl⟩ : ∃ z, nn = z + 1 := ⟨nn - 1, by omega⟩
      rw [lp_X2_earlyOnes_4.eq_2, hc4, if_neg (fun q => by have := (o3_le (by omega) (by omega)).mp q; omega), (pc_sent b1 b4 n3 n1 n6 (show k < s.2.2.2.1 by omega)).2.2, bd_some, o3_s]
      split
      · exact ih (k + 1) nn _ (by omega) (by omega)
      · exact ih (k + 1) nn _ (by omega) (by omega)
  have q2 : ∀ dd k nn (p : Int32), k + dd = s.2.2.2.1 → dd < nn → ∃ r, lp_X11_count_79 S (fun u6 => some u6) nn p (o3 k) = some r := by
    intro dd
    induction dd with
    | zero =>
      intro k nn p hk hnn
      obtain ⟨nn, rfl⟩ : ∃ z, nn = z + 1 := ⟨nn - 1, by omega⟩
      rw [lp_X11_count_79.eq_2, hg4, bd_some, if_pos ((o3_le (by omega) (by omega)).mpr (by omega))]
      exact ⟨_, rfl⟩
    | succ dd ih =>
      intro k nn p hk hnn
      obtain ⟨nn, rfl⟩ : ∃ z, nn = z + 1 := ⟨nn - 1, by omega⟩
      rw [lp_X11_count_79.eq_2, hg4, bd_some, if_neg (fun q => by have := (o3_le (by omega) (by omega)).mp q; omega), (pm_all m1 m3 d n3 n1 n6 (show k < s.2.2.2.1 by omega)).2.2, bd_some, o3_s]
      split
      · exact ih (k + 1) nn _ (by omega) (by omega)
      · exact ih (k + 1) nn _ (by omega) (by omega)
  have q3 : ∀ dd k nn (p : Int32), k + dd = s.2.2.1.1 → dd < nn → ∃ r, lp_X0_going_4 11 S (fun u6 => some u6) nn p (o3 k) = some r := by
    intro dd
    induction dd with
    | zero =>
      intro k nn p hk hnn
      obtain ⟨nn, rfl⟩ : ∃ z, nn = z + 1 := ⟨nn - 1, by omega⟩
      rw [lp_X0_going_4.eq_2, show S.1 11 5 = _ from b3.1, if_pos ((o3_le (by omega) (by omega)).mpr (by omega))]
      exact ⟨_, rfl⟩
    | succ dd ih =>
      intro k nn p hk hnn
      obtain ⟨nn, rfl⟩ : ∃ z, nn = z + 1 := ⟨nn - 1, by omega⟩
      rw [lp_X0_going_4.eq_2, show S.1 11 5 = _ from b3.1, if_neg (fun q => by have := (o3_le (by omega) (by omega)).mp q; omega), o3_s]
      unfold f_X0_isStanding
      rw [gI_o (by omega) (by omega), bd_some]
      by_cases h0 : S.1 (11 + 1) k < 0
      · rw [if_pos h0, bd_some, if_pos rfl]
        exact ih (k + 1) nn _ (by omega) (by omega)
      · rw [if_neg h0, bd_some, if_neg (by decide)]
        exact ih (k + 1) nn _ (by omega) (by omega)
  have q4 : ∀ dd k nn (p : Int32), k + dd = s.2.2.1.1 → dd < nn → ∃ r, lp_X11_count_115 S (fun u6 => some u6) nn p (o3 k) = some r := by
    intro dd
    induction dd with
    | zero =>
      intro k nn p hk hnn
      obtain ⟨nn, rfl⟩ : ∃ z, nn = z + 1 := ⟨nn - 1, by omega⟩
      rw [lp_X11_count_115.eq_2, show (2 : Int32) = o3 2 from rfl, gI_o (by omega) (by omega), bd_some, m2.1, if_pos ((o3_le (by omega) (by omega)).mpr (by omega))]
      exact ⟨_, rfl⟩
    | succ dd ih =>
      intro k nn p hk hnn
      obtain ⟨nn, rfl⟩ : ∃ z, nn = z + 1 := ⟨nn - 1, by omega⟩
      rw [lp_X11_count_115.eq_2, show (2 : Int32) = o3 2 from rfl, gI_o (by omega) (by omega), bd_some, m2.1, if_neg (fun q => by have := (o3_le (by omega) (by omega)).mp q; omega), o3_s, show f_X11_thingOf (o3 k) 0 S = _ from mw_thing (a := 0) (by omega) (by omega), bd_some]
      split
      · exact ih (k + 1) nn _ (by omega) (by omega)
      · exact ih (k + 1) nn _ (by omega) (by omega)
  have rc : ∃ r, f_X10_count a1 S = some r := by
    unfold f_X10_count
    split
    · exact ⟨_, rfl⟩
    split
    · exact ⟨_, rfl⟩
    split
    · exact ⟨_, rfl⟩
    split
    · exact ⟨_, rfl⟩
    split
    · exact ⟨_, rfl⟩
    split
    · exact ⟨_, rfl⟩
    split
    · obtain ⟨r, e⟩ := q1 s.2.2.2.1 0 FU 0 (by omega) (FU_lt (by omega))
      rw [show f_X2_earlyOnes 17 4 S = some r from e, bd_some]; exact ⟨_, rfl⟩
    split
    · obtain ⟨r, e⟩ := q3 s.2.2.1.1 0 FU 0 (by omega) (FU_lt (by omega))
      rw [show f_X0_going 11 S = some r from e, bd_some]; exact ⟨_, rfl⟩
    split
    · exact ⟨_, rfl⟩
    split <;> exact ⟨_, rfl⟩
  have rm : ∃ r, f_X11_count a1 S = some r := by
    unfold f_X11_count
    by_cases h0 : a1 = 0
    · rw [if_pos h0, h0, show (0 : Int32) = o3 0 from rfl, gI_o (by omega) (by omega), bd_some]; exact ⟨_, rfl⟩
    rw [if_neg h0]
    by_cases h1 : a1 = 1
    · rw [if_pos h1, h1, show (1 : Int32) = o3 1 from rfl, gI_o (by omega) (by omega), bd_some]; exact ⟨_, rfl⟩
    rw [if_neg h1]
    by_cases h2 : a1 = 2
    · rw [if_pos h2, h2, show (2 : Int32) = o3 2 from rfl, gI_o (by omega) (by omega), bd_some]; exact ⟨_, rfl⟩
    rw [if_neg h2]
    by_cases h3 : a1 = 3
    · rw [if_pos h3]; exact ⟨_, rfl⟩
    rw [if_neg h3]
    by_cases h4 : a1 = 4
    · rw [if_pos h4, h4, show (4 : Int32) - 1 = o3 3 from rfl, gI_o (by omega) (by omega), bd_some]; exact ⟨_, rfl⟩
    rw [if_neg h4]
    by_cases h5 : a1 = 5
    · rw [if_pos h5, h5, show (5 : Int32) - 1 = o3 4 from rfl, gI_o (by omega) (by omega), bd_some]; exact ⟨_, rfl⟩
    rw [if_neg h5]
    by_cases h6 : a1 = 6
    · rw [if_pos h6]; exact q2 s.2.2.2.1 0 FU 0 (by omega) (FU_lt (by omega))
    rw [if_neg h6]
    by_cases h7 : a1 = 7
    · rw [if_pos h7]; exact q4 s.2.2.1.1 0 FU 0 (by omega) (FU_lt (by omega))
    rw [if_neg h7]
    by_cases h8 : a1 = 8
    · rw [if_pos h8, show (5 : Int32) = o3 5 from rfl, gI_o (by omega) (by omega), bd_some]; exact ⟨_, rfl⟩
    rw [if_neg h8]
    split <;> exact ⟨_, rfl⟩
  obtain ⟨r, e1⟩ := rc
  obtain ⟨r', e2⟩ := rm
  exact ⟨r, r', e1, e2, hR0⟩
end
noncomputable section
/-! ahead(), elder() -/
theorem kp_2 {K : fS → Option fS} : ∀ d k nn (S : fS), k + d = 158 → d < nn → (∀ j, j < k → S.1 159 j = S.1 157 j) → ∃ T, lp_X11_keeps_2 K nn (o3 k) S = K T ∧ (∀ j, j < 158 → T.1 159 j = S.1 157 j) ∧ (∀ a j, a ≠ 159 → T.1 a j = S.1 a j) ∧ T.2 = S.2 := by
  intro d
  induction d with
  | zero =>
    intro k nn S hk hnn hj
    obtain ⟨nn, rfl⟩ : ∃ z, nn = z + 1 := ⟨nn - 1, by omega⟩
    rw [lp_X11_keeps_2.eq_2, if_pos (show (158 : Int32) ≤ o3 k from (o3_le (a := 158) (by omega) (by omega)).mpr (by omega))]
    exact ⟨S, rfl, fun j h => hj j (by omega), fun _ _ _ => rfl, rfl⟩
  | succ d ih =>
    intro k nn S hk hnn hj
    obtain ⟨nn, rfl⟩ : ∃ z, nn = z + 1 := ⟨nn - 1, by omega⟩
    rw [lp_X11_keeps_2.eq_2, if_neg (show ¬ (158 : Int32) ≤ o3 k from fun q => by have := (o3_le (a := 158) (by omega) (by omega)).mp q; omega), gI_o (by omega) (by omega), bd_some, sI_o (by omega) (by omega), bd_some, o3_s]
    obtain ⟨T, t1, t2, t3, t4⟩ := ih (k + 1) nn (pI S 159 k (S.1 157 k)) (by omega) (by omega) (fun j h => by
      rw [pI_ne (b := 157) (by omega)]
      by_cases e : j = k
      · subst e; rw [pI_eq]
      · rw [pI_ne (by omega)]; exact hj j (by omega))
    exact ⟨T, t1, fun j h => by rw [t2 j h, pI_ne (by omega)], fun a j h => by rw [t3 a j h, pI_ne (by omega)], t4⟩
theorem kp_29 {K : fS → Option fS} : ∀ d k nn (S : fS), k + d = 8 → d < nn → (∀ j, j < k → S.2 160 j = S.2 158 j) → ∃ T, lp_X11_keeps_29 K nn (o3 k) S = K T ∧ (∀ j, j < 8 → T.2 160 j = S.2 158 j) ∧ (∀ a j, a ≠ 160 → T.2 a j = S.2 a j) ∧ T.1 = S.1 := by
  intro d
  induction d with
  | zero =>
    intro k nn S hk hnn hj
    obtain ⟨nn, rfl⟩ : ∃ z, nn = z + 1 := ⟨nn - 1, by omega⟩
    rw [lp_X11_keeps_29.eq_2, if_pos (show (8 : Int32) ≤ o3 k from (o3_le (a := 8) (by omega) (by omega)).mpr (by omega))]
    exact ⟨S, rfl, fun j h => hj j (by omega), fun _ _ _ => rfl, rfl⟩
  | succ d ih =>
    intro k nn S hk hnn hj
    obtain ⟨nn, rfl⟩ : ∃ z, nn = z + 1 := ⟨nn - 1, by omega⟩
    rw [lp_X11_keeps_29.eq_2, if_neg (show ¬ (8 : Int32) ≤ o3 k from fun q => by have := (o3_le (a := 8) (by omega) (by omega)).mp q; omega), gL_o (by omega) (by omega), bd_some, sL_o (by omega) (by omega), bd_some, o3_s]
    obtain ⟨T, t1, t2, t3, t4⟩ := ih (k + 1) nn (pL S 160 k (S.2 158 k)) (by omega) (by omega) (fun j h => by
      rw [pL_ne (b := 158) (by omega)]
      by_cases e : j = k
      · subst e; rw [pL_eq]
      · rw [pL_ne (by omega)]; exact hj j (by omega))
    exact ⟨T, t1, fun j h => by rw [t2 j h, pL_ne (by omega)], fun a j h => by rw [t3 a j h, pL_ne (by omega)], t4⟩
theorem pb_2 {K : fS → Option fS} : ∀ d k nn (S : fS), k + d = 158 → d < nn → (∀ j, j < k → S.1 157 j = S.1 159 j) → ∃ T, lp_X11_putsBack_2 K nn (o3 k) S = K T ∧ (∀ j, j < 158 → T.1 157 j = S.1 159 j) ∧ (∀ a j, a ≠ 157 → T.1 a j = S.1 a j) ∧ T.2 = S.2 := by
  intro d
  induction d with
  | zero =>
    intro k nn S hk hnn hj
    obtain ⟨nn, rfl⟩ : ∃ z, nn = z + 1 := ⟨nn - 1, by omega⟩
    rw [lp_X11_putsBack_2.eq_2, if_pos (show (158 : Int32) ≤ o3 k from (o3_le (a := 158) (by omega) (by omega)).mpr (by omega))]
    exact ⟨S, rfl, fun j h => hj j (by omega), fun _ _ _ => rfl, rfl⟩
  | succ d ih =>
    intro k nn S hk hnn hj
    obtain ⟨nn, rfl⟩ : ∃ z, nn = z + 1 := ⟨nn - 1, by omega⟩
    rw [lp_X11_putsBack_2.eq_2, if_neg (show ¬ (158 : Int32) ≤ o3 k from fun q => by have := (o3_le (a := 158) (by omega) (by omega)).mp q; omega), gI_o (by omega) (by omega), bd_some, sI_o (by omega) (by omega), bd_some, o3_s]
    obtain ⟨T, t1, t2, t3, t4⟩ := ih (k + 1) nn (pI S 157 k (S.1 159 k)) (by omega) (by omega) (fun j h => by
      rw [pI_ne (b := 159) (by omega)]
      by_cases e : j = k
      · subst e; rw [pI_eq]
      · rw [pI_ne (by omega)]; exact hj j (by omega))
    exact ⟨T, t1, fun j h => by rw [t2 j h, pI_ne (by omega)], fun a j h => by rw [t3 a j h, pI_ne (by omega)], t4⟩
theorem pb_29 {K : fS → Option fS} : ∀ d k nn (S : fS), k + d = 8 → d < nn → (∀ j, j < k → S.2 158 j = S.2 160 j) → ∃ T, lp_X11_putsBack_29 K nn (o3 k) S = K T ∧ (∀ j, j < 8 → T.2 158 j = S.2 160 j) ∧ (∀ a j, a ≠ 158 → T.2 a j = S.2 a j) ∧ T.1 = S.1 := by
  intro d
  induction d with
  | zero =>
    intro k nn S hk hnn hj
    obtain ⟨nn, rfl⟩ : ∃ z, nn = z + 1 := ⟨nn - 1, by omega⟩
    rw [lp_X11_putsBack_29.eq_2, if_pos (show (8 : Int32) ≤ o3 k from (o3_le (a := 8) (by omega) (by omega)).mpr (by omega))]
    exact ⟨S, rfl, fun j h => hj j (by omega), fun _ _ _ => rfl, rfl⟩
  | succ d ih =>
    intro k nn S hk hnn hj
    obtain ⟨nn, rfl⟩ : ∃ z, nn = z + 1 := ⟨nn - 1, by omega⟩
    rw [lp_X11_putsBack_29.eq_2, if_neg (show ¬ (8 : Int32) ≤ o3 k from fun q => by have := (o3_le (a := 8) (by omega) (by omega)).mp q; omega), gL_o (by omega) (by omega), bd_some, sL_o (by omega) (by omega), bd_some, o3_s]
    obtain ⟨T, t1, t2, t3, t4⟩ := ih (k + 1) nn (pL S 158 k (S.2 160 k)) (by omega) (by omega) (fun j h => by
      rw [pL_ne (b := 160) (by omega)]
      by_cases e : j = k
      · subst e; rw [pL_eq]
      · rw [pL_ne (by omega)]; exact hj j (by omega))
    exact ⟨T, t1, fun j h => by rw [t2 j h, pL_ne (by omega)], fun a j h => by rw [t3 a j h, pL_ne (by omega)], t4⟩
theorem m_keeps (S : fS) : ∃ T, f_X11_keeps S = some T ∧ (∀ j, j < 158 → T.1 159 j = S.1 157 j) ∧ (∀ j, j < 8 → T.2 160 j = S.2 158 j) ∧ (∀ a j, a ≠ 159 → T.1 a j = S.1 a j) ∧ (∀ a j, a ≠ 160 → T.2 a j = S.2 a j) := by
  obtain ⟨T1, a1, a2, a3, a4⟩ := kp_2 (K := fun S8 => lp_X11_keeps_29 (fun S17 => some S17) FU (0 : Int32) S8) 158 0 FU S (by omega) (FU_lt (by omega)) (fun j hj => absurd hj (Nat.not_lt_zero _))
  obtain ⟨T2, b1, b2, b3, b4⟩ := kp_29 (K := fun S17 => some S17) 8 0 FU T1 (by omega) (FU_lt (by omega)) (fun j hj => absurd hj (Nat.not_lt_zero _))
  exact ⟨T2, a1.trans b1, fun j hj => by rw [b4, a2 j hj], fun j hj => by rw [b2 j hj, a4], fun a j h => by rw [b4, a3 a j h], fun a j h => by rw [b3 a j h, a4]⟩
theorem m_puts (S : fS) : ∃ T, f_X11_putsBack S = some T ∧ (∀ j, j < 158 → T.1 157 j = S.1 159 j) ∧ (∀ j, j < 8 → T.2 158 j = S.2 160 j) ∧ (∀ a j, a ≠ 157 → T.1 a j = S.1 a j) ∧ (∀ a j, a ≠ 158 → T.2 a j = S.2 a j) := by
  obtain ⟨T1, a1, a2, a3, a4⟩ := pb_2 (K := fun S8 => lp_X11_putsBack_29 (fun S17 => some S17) FU (0 : Int32) S8) 158 0 FU S (by omega) (FU_lt (by omega)) (fun j hj => absurd hj (Nat.not_lt_zero _))
  obtain ⟨T2, b1, b2, b3, b4⟩ := pb_29 (K := fun S17 => some S17) 8 0 FU T1 (by omega) (FU_lt (by omega)) (fun j hj => absurd hj (Nat.not_lt_zero _))
  exact ⟨T2, a1.trans b1, fun j hj => by rw [b4, a2 j hj], fun j hj => by rw [b2 j hj, a4], fun a j h => by rw [b4, a3 a j h], fun a j h => by rw [b3 a j h, a4]⟩
section AHL
variable {F : List (Nat × Nat)} {E : List St5}
theorem m_aheadl {v p3 p4 : Int32} {Q : Option (List Cl)} (hF : ∀ q ∈ F, okF q) (hE : ∀ q ∈ E, okS F.length q) (hm : F.length ≤ 10) (hl : E.length ≤ 12) {h : Nat} (hh : h < 2147483648) {K : fS → Option (Int64 × fS)} : ∀ d k nn (S : fS) (C : Cw), k + d = h → d < nn → okD F.length E C → C.2.1 + d ≤ 10199 → cwM (S.1 157) (S.2 158) C → twM (S.1 157) F E → rHm S F.length (dst E) → ruM S v Q → ∃ T, lp_X11_ahead_52 v (o3 h) p3 p4 K nn (o3 k) S = K T ∧ cwM (T.1 157) (T.2 158) (cHrs F E Q d C) ∧ eI S T := by
  intro d
  induction d with
  | zero =>
    intro k nn S C hk hnn hC h9 hS hT hW hR
    obtain ⟨nn, rfl⟩ : ∃ z, nn = z + 1 := ⟨nn - 1, by omega⟩
    rw [lp_X11_ahead_52.eq_2, if_pos ((o3_le (by omega) (by omega)).mpr (by omega))]
    exact ⟨S, rfl, hS, eI.rf⟩
  | succ d ih =>
    intro k nn S C hk hnn hC h9 hS hT hW hR
    obtain ⟨nn, rfl⟩ : ∃ z, nn = z + 1 := ⟨nn - 1, by omega⟩
    rw [lp_X11_ahead_52.eq_2, if_neg (fun q => by have := (o3_le (by omega) (by omega)).mp q; omega), o3_s]
    obtain ⟨T1, a1, a2, a3⟩ := m_hour hF hE hm hl hC hS hT hW hR
    obtain ⟨b1, b2, b3⟩ := cHr_ok (Q := Q) hC hF hE hm hl (by omega)
    rw [a1, bd_some]
    obtain ⟨T, c1, c2, c3⟩ := ih (k + 1) nn T1 (cHr F E Q C) (by omega) (by omega) b1 (by omega) a2 (twM_eq hm hl hT (fun j hj => a3.1 157 j (by omega) (by omega))) (rHm_eq hW (fun j => a3.2 _ j (by omega) (by omega) (by omega))) (ruM_eq hR a3)
    exact ⟨T, c1, c2, a3.tr c3⟩
theorem m_elderl {v p3 : Int32} {Q : Option (List Cl)} (hF : ∀ q ∈ F, okF q) (hE : ∀ q ∈ E, okS F.length q) (hm : F.length ≤ 10) (hl : E.length ≤ 12) {h : Nat} (hh : h < 2147483648) {K : fS → Option (Int64 × fS)} : ∀ d k nn (S : fS) (C : Cw), k + d = h → d < nn → okD F.length E C → C.2.1 + d ≤ 10199 → cwM (S.1 157) (S.2 158) C → twM (S.1 157) F E → rHm S F.length (dst E) → ruM S v Q → ∃ T, lp_X11_elder_57 v (o3 h) p3 K nn (o3 k) S = K T ∧ cwM (T.1 157) (T.2 158) (cHrs F E Q d C) ∧ eI S T := by
  intro d
  induction d with
  | zero =>
    intro k nn S C hk hnn hC h9 hS hT hW hR
    obtain ⟨nn, rfl⟩ : ∃ z, nn = z + 1 := ⟨nn - 1, by omega⟩
    rw [lp_X11_elder_57.eq_2, if_pos ((o3_le (by omega) (by omega)).mpr (by omega))]
    exact ⟨S, rfl, hS, eI.rf⟩
  | succ d ih =>
    intro k nn S C hk hnn hC h9 hS hT hW hR
    obtain ⟨nn, rfl⟩ : ∃ z, nn = z + 1 := ⟨nn - 1, by omega⟩
    rw [lp_X11_elder_57.eq_2, if_neg (fun q => by have := (o3_le (by omega) (by omega)).mp q; omega), o3_s]
    obtain ⟨T1, a1, a2, a3⟩ := m_hour hF hE hm hl hC hS hT hW hR
    obtain ⟨b1, b2, b3⟩ := cHr_ok (Q := Q) hC hF hE hm hl (by omega)
    rw [a1, bd_some]
    obtain ⟨T, c1, c2, c3⟩ := ih (k + 1) nn T1 (cHr F E Q C) (by omega) (by omega) b1 (by omega) a2 (twM_eq hm hl hT (fun j hj => a3.1 157 j (by omega) (by omega))) (rHm_eq hW (fun j => a3.2 _ j (by omega) (by omega) (by omega))) (ruM_eq hR a3)
    exact ⟨T, c1, c2, a3.tr c3⟩
end AHL
theorem age_oD {m : Nat} {E : List St5} {C : Cw} (h : okD m E C) {k : Nat} (hk : k < C.1) : ∃ a, C.2.2.2.2.2.2 k = o6 a ∧ a ≤ 50000000000000 := by
  obtain ⟨_, h1, h2⟩ := h
  obtain ⟨_, h3, h4⟩ := h2 k hk
  obtain ⟨a, e1, e2⟩ := o6_of h3
  exact ⟨a, e1, by omega⟩
theorem rSc_eq' {s : Sn} {S T : fS} (h : rSc s S) (h1 : ∀ a k, 3 < a → a ≤ 21 → T.1 a k = S.1 a k) (h2 : ∀ a k, 3 < a → a ≤ 21 → T.2 a k = S.2 a k) (h3 : 0 ≤ (T.1 3 3).toInt) (h4 : ∀ k, k < 158 → T.1 157 k = S.1 157 k) (h5 : ∀ k, k < 8 → T.2 158 k = S.2 158 k) (h6 : ∀ k, T.2 161 k = S.2 161 k) : rSc s T := by
  obtain ⟨a, b, c, d⟩ := h
  exact ⟨a, scC_eq b (fun x k p q => h1 x k (by omega) (by omega)) (fun x k p q => h2 x k (by omega) (by omega)) h3, scM_cg a c h4 h5, rHm_eq d h6⟩
/-- the class looks ahead: its spare crowd lives on -/
theorem c_look {S : fS} {s : Sn} {L : List (List Cl)} {v : Int32} {h : Nat} (hS : rSc s S) (hL : rRu L S) (hv : -1 ≤ v.toInt ∧ v.toInt < L.length) (hh : h ≤ 200) : ∃ S1 Q, f_X10_lookAhead v (o3 h) S = some S1 ∧ cwC S1 31 (cHrs s.1 s.2.1 Q h s.2.2.1) ∧ okD s.1.length s.2.1 (cHrs s.1 s.2.1 Q h s.2.2.1) ∧ (cHrs s.1 s.2.1 Q h s.2.2.1).1 = s.2.2.1.1 ∧ (∀ T : fS, (∀ r, r < L.length → cdM T r (L.getD r [])) → ruM T v Q) ∧ (∀ a k, ¬ (31 ≤ a ∧ a ≤ 36) → ¬ (127 ≤ a ∧ a ≤ 144 ∧ k = 3 ∧ a % 3 = 1) → S1.1 a k = S.1 a k) ∧ (∀ a k, ¬ (31 ≤ a ∧ a ≤ 36) → ¬ (127 ≤ a ∧ a ≤ 144) → S1.2 a k = S.2 a k) := by
  obtain ⟨⟨n1, n2, n3, n4, n5, n6⟩, ⟨b1, b2, b3, b4, b5⟩, ⟨m1, m2, m3, m4⟩, d⟩ := hS
  have h8 := n5.1
  have h9 := n5.2.1
  obtain ⟨T, c1, c2, c3, c4, c5⟩ := c_copyC (S := S) (b := 31) (c := 11) (by omega)
  have hT : cwC T 31 s.2.2.1 := by
    refine ⟨c2.trans b3.1, c3.trans b3.2.1, fun k hk => ?_⟩
    obtain ⟨e1, e2, e3, e4, e5⟩ := c4 k (by omega)
    obtain ⟨g1, g2, g3, g4, g5⟩ := b3.2.2 k hk
    exact ⟨e1.trans g1, e2.trans g2, e3.trans g3, e4.trans g4, e5.trans g5⟩
  have hL1 : rRu L T := rRu_eq hL (c5 _ _ (by omega)).1 (c5 _ _ (by omega)).1 (fun a k _ _ _ => (c5 _ _ (by omega)).1) (fun a k _ => (c5 _ _ (by omega)).1)
  obtain ⟨p, Q, p1, p2, p3, p4, p5, p6⟩ := ru_both hL1 hv
  obtain ⟨S1, z1, z2, z3⟩ := c_live (p := p) (Q := Q) (t := 4) (c := 31) (by omega) (by omega) n3 n4 n1 n2 (h := h) (by omega) (K := fun S12 => some S12) h 0 FU T s.2.2.1 (by omega) (FU_lt (by omega)) (okD_of n5) (by omega) hT (twC_eq b1 (fun a k _ _ => (c5 a k (by omega)).1) (fun a k _ _ => (c5 a k (by omega)).2)) (rWm_eq b2 (fun k => (c5 _ k (by omega)).1)) (p2 T (fun r hr => (hL1.2.2.2 r hr).1))
  obtain ⟨k1, k2, k3⟩ := cHrs_ok (Q := Q) n3 n4 n1 n2 h s.2.2.1 (okD_of n5) (by omega)
  refine ⟨S1, Q, ?_, z2, k1, k2, p3, fun a k x y => (z3.1 a k (by omega) (by omega) (by omega)).trans (c5 a k (by omega)).1, fun a k x y => (z3.2 a k (by omega) (by omega)).trans (c5 a k (by omega)).2⟩
  unfold f_X10_lookAhead
  rw [c1, bd_some, p1, bd_some, show f_X0_live 31 4 p (o3 h) T = some S1 from z1, bd_some]
/-- what looking ahead leaves alike -/
theorem look_rel {S S1 S2 : fS} {n : Nat} {s : Sn} {L : List (List Cl)} {M : Nat → Option Sn} (hT : rTp n S) (hS : rSc s S) (hL : rRu L S) (hM : rIm M S) (f1 : ∀ a k, ¬ (31 ≤ a ∧ a ≤ 36) → ¬ (127 ≤ a ∧ a ≤ 144 ∧ k = 3 ∧ a % 3 = 1) → S1.1 a k = S.1 a k) (f2 : ∀ a k, ¬ (31 ≤ a ∧ a ≤ 36) → ¬ (127 ≤ a ∧ a ≤ 144) → S1.2 a k = S.2 a k) (g1 : ∀ a k, a ≠ 157 → a ≠ 159 → ¬ (a = 145 ∧ k = 23) → S2.1 a k = S1.1 a k) (g2 : ∀ a k, a ≠ 155 → a ≠ 156 → a ≠ 158 → a ≠ 160 → S2.2 a k = S1.2 a k) (g3 : ∀ k, k < 158 → S2.1 157 k = S1.1 157 k) (g4 : ∀ k, k < 8 → S2.2 158 k = S1.2 158 k) : Rel S2 := by
  have k1 : ∀ a k, ¬ (31 ≤ a ∧ a ≤ 36) → ¬ (127 ≤ a ∧ a ≤ 144 ∧ k = 3 ∧ a % 3 = 1) → a ≠ 157 → a ≠ 159 → ¬ (a = 145 ∧ k = 23) → S2.1 a k = S.1 a k := fun a k x y z w u => (g1 a k z w u).trans (f1 a k x y)
  have k2 : ∀ a k, ¬ (31 ≤ a ∧ a ≤ 36) → ¬ (127 ≤ a ∧ a ≤ 144) → a ≠ 155 → a ≠ 156 → a ≠ 158 → a ≠ 160 → S2.2 a k = S.2 a k := fun a k x y z w u v => (g2 a k z w u v).trans (f2 a k x y)
  refine ⟨n, s, L, M, ?_, ?_, ?_, ?_⟩
  · exact rTp_eq hT (k1 _ _ (by omega) (by omega) (by omega) (by omega) (by omega)) (k1 _ _ (by omega) (by omega) (by omega) (by omega) (by omega)) (fun k => k1 _ _ (by omega) (by omega) (by omega) (by omega) (by omega)) (fun k => k1 _ _ (by omega) (by omega) (by omega) (by omega) (by omega))
  · exact rSc_eq' hS (fun a k _ _ => k1 a k (by omega) (by omega) (by omega) (by omega) (by omega)) (fun a k _ _ => k2 a k (by omega) (by omega) (by omega) (by omega) (by omega) (by omega)) (by rw [k1 3 3 (by omega) (by omega) (by omega) (by omega) (by omega)]; exact hS.2.1.2.2.2.2) (fun k hk => (g3 k hk).trans (f1 _ _ (by omega) (by omega))) (fun k hk => (g4 k hk).trans (f2 _ _ (by omega) (by omega))) (fun k => k2 _ k (by omega) (by omega) (by omega) (by omega) (by omega) (by omega))
  · exact rRu_eq hL (k1 _ _ (by omega) (by omega) (by omega) (by omega) (by omega)) (k1 _ _ (by omega) (by omega) (by omega) (by omega) (by omega)) (fun a k x y z => k1 a k (by omega) (by omega) (by omega) (by omega) (by omega)) (fun a k _ => k1 a k (by omega) (by omega) (by omega) (by omega) (by omega))
  · exact rIm_eq hM (fun a k _ _ => k1 a k (by omega) (by omega) (by omega) (by omega) (by omega)) (fun a k _ _ => k2 a k (by omega) (by omega) (by omega) (by omega) (by omega) (by omega)) (fun k => k1 _ _ (by omega) (by omega) (by omega) (by omega) (by omega)) (fun k => k2 _ k (by omega) (by omega) (by omega) (by omega) (by omega) (by omega)) (fun k => k1 _ _ (by omega) (by omega) (by omega) (by omega) (by omega))
end
noncomputable section
/-! ahead(), elder(): the answers -/
def acb (C : Cw) (k : Nat) : Bool := decide (¬ C.2.2.1 k < 0 ∧ ¬ stn C.2.2.1 (C.2.2.1 k) C.1 ≤ 1)
section AC
variable {S : fS} {c : Nat} {C : Cw}
theorem c_acc (hC : cwC S c C) (h8 : C.1 ≤ 8) : f_X0_accompanied c S = some (o3 (cfn (acb C) C.1)) := by
  have key : ∀ d k nn, k + d = C.1 → d < nn → lp_X0_accompanied_4 c S (fun u13 => some u13) nn (o3 (cfn (acb C) k)) (o3 k) = some (o3 (cfn (acb C) C.1)) := by
    intro d
    induction d with
    | zero =>
      intro k nn hk hnn
      obtain ⟨nn, rfl⟩ : ∃ z, nn = z + 1 := ⟨nn - 1, by omega⟩
      rw [lp_X0_accompanied_4.eq_2, hC.1, if_pos ((o3_le (by omega) (by omega)).mpr (by omega)), show k = C.1 by omega]
    | succ d ih =>
      intro k nn hk hnn
      obtain ⟨nn, rfl⟩ : ∃ z, nn = z + 1 := ⟨nn - 1, by omega⟩
      have hs : cfn (acb C) (k + 1) = cfn (acb C) k + (if acb C k = true then 1 else 0) := rfl
      have hz : o3 (cfn (acb C) k) + (0 : Int32) = o3 (cfn (acb C) k) := Int32.add_zero _
      have hst := stn_le (p := C.2.2.1) (f := C.2.2.1 k) C.1
      rw [lp_X0_accompanied_4.eq_2, hC.1, if_neg (fun q => by have := (o3_le (by omega) (by omega)).mp q; omega), hz, o3_s, o3_s]
      unfold f_X0_isStanding
      rw [gI_o (by omega) (by omega), bd_some, (hC.2.2 k (by omega)).1]
      by_cases h0 : C.2.2.1 k < 0
      · rw [if_pos h0, bd_some, if_pos rfl]
        rw [if_neg (by unfold acb; rw [decide_eq_true_eq]; exact fun z => z.1 h0)] at hs
        replace hs := hs.trans (Nat.add_zero _)
        rw [← hs]
        exact ih (k + 1) nn (by omega) (by omega)
      · rw [if_neg h0, bd_some, if_neg (show ¬ (1 : Int32) = 0 by decide), bd_some, cw_standing hC h8, bd_some]
        by_cases h1 : stn C.2.2.1 (C.2.2.1 k) C.1 ≤ 1
        · rw [if_pos (show o3 _ ≤ (1 : Int32) from (o3_le (b := 1) (by omega) (by omega)).mpr h1)]
          rw [if_neg (by unfold acb; rw [decide_eq_true_eq]; exact fun z => z.2 h1)] at hs
          replace hs := hs.trans (Nat.add_zero _)
          rw [← hs]
          exact ih (k + 1) nn (by omega) (by omega)
        · rw [if_neg (show ¬ o3 _ ≤ (1 : Int32) from fun z => h1 ((o3_le (b := 1) (by omega) (by omega)).mp z))]
          rw [if_pos (by unfold acb; rw [decide_eq_true_eq]; exact ⟨h0, h1⟩)] at hs
          rw [← hs]
          exact ih (k + 1) nn (by omega) (by omega)
  exact key C.1 0 FU (by omega) (FU_lt (by omega))
theorem m_acc (hC : cwM (S.1 157) (S.2 158) C) (h8 : C.1 ≤ 8) {K : Int64 → fS → Option (Int64 × fS)} : lp_X11_ahead_81 K FU (0 : Int64) (0 : Int32) S = K (o6 (cfn (acb C) C.1)) S := by
  have key : ∀ d k nn, k + d = C.1 → d < nn → lp_X11_ahead_81 K nn (o6 (cfn (acb C) k)) (o3 k) S = K (o6 (cfn (acb C) C.1)) S := by
    intro d
    induction d with
    | zero =>
      intro k nn hk hnn
      obtain ⟨nn, rfl⟩ : ∃ z, nn = z + 1 := ⟨nn - 1, by omega⟩
      rw [lp_X11_ahead_81.eq_2, show (2 : Int32) = o3 2 from rfl, gI_o (by omega) (by omega), bd_some, hC.1, if_pos ((o3_le (by omega) (by omega)).mpr (by omega)), show k = C.1 by omega]
    | succ d ih =>
      intro k nn hk hnn
      obtain ⟨nn, rfl⟩ : ∃ z, nn = z + 1 := ⟨nn - 1, by omega⟩
      have hs : cfn (acb C) (k + 1) = cfn (acb C) k + (if acb C k = true then 1 else 0) := rfl
      have hz : o6 (cfn (acb C) k) + (0 : Int64) = o6 (cfn (acb C) k) := Int64.add_zero _
      have hst := stn_le (p := C.2.2.1) (f := C.2.2.1 k) C.1
      have hth : f_X11_thingOf (o3 k) 0 S = some (C.2.2.1 k) := (mw_thing (a := 0) (by omega) (by omega)).trans (congrArg some (hC.2.2 k (by omega)).1)
      rw [lp_X11_ahead_81.eq_2, show (2 : Int32) = o3 2 from rfl, gI_o (by omega) (by omega), bd_some, hC.1, if_neg (fun q => by have := (o3_le (by omega) (by omega)).mp q; omega), hth, bd_some, hz, o3_s, show (1 : Int64) = o6 1 from rfl, o6_add]
      by_cases h0 : C.2.2.1 k < 0
      · rw [if_pos h0]
        rw [if_neg (by unfold acb; rw [decide_eq_true_eq]; exact fun z => z.1 h0)] at hs
        replace hs := hs.trans (Nat.add_zero _)
        rw [← hs]
        exact ih (k + 1) nn (by omega) (by omega)
      · rw [if_neg h0, bd_some, mw_standing hC h8, bd_some]
        by_cases h1 : stn C.2.2.1 (C.2.2.1 k) C.1 ≤ 1
        · rw [if_pos (show o3 _ ≤ (1 : Int32) from (o3_le (b := 1) (by omega) (by omega)).mpr h1)]
          rw [if_neg (by unfold acb; rw [decide_eq_true_eq]; exact fun z => z.2 h1)] at hs
          replace hs := hs.trans (Nat.add_zero _)
          rw [← hs]
          exact ih (k + 1) nn (by omega) (by omega)
        · rw [if_neg (show ¬ o3 _ ≤ (1 : Int32) from fun z => h1 ((o3_le (b := 1) (by omega) (by omega)).mp z))]
          rw [if_pos (by unfold acb; rw [decide_eq_true_eq]; exact ⟨h0, h1⟩)] at hs
          rw [← hs]
          exact ih (k + 1) nn (by omega) (by omega)
  exact key C.1 0 FU (by omega) (FU_lt (by omega))
end AC
theorem t_11 (a1 a2 a3 a4 : Int32) (S : fS) (hR : Rel S) : ∃ r S1 S2, f_X10_ahead a1 a2 a3 a4 S = some (r, S1) ∧ f_X11_ahead a1 a2 a3 a4 S1 = some (r, S2) ∧ Rel S2 := by
  have hR0 := hR
  obtain ⟨n, s, L, M, hT, hS, hL, hM⟩ := hR
  have hS0 := hS
  have hL0 := hL
  obtain ⟨⟨n1, n2, n3, n4, n5, n6⟩, ⟨b1, b2, b3, b4, b5⟩, ⟨m1, m2, m3, m4⟩, d⟩ := hS
  obtain ⟨l1, l2, l3, l4⟩ := hL
  have h8 := n5.1
  have i1 : f_X10_isFrom a2 0 200 S = some (if ((0 : Nat) : Int) ≤ a2.toInt ∧ a2.toInt ≤ ((200 : Nat) : Int) then 1 else 0) := from_c (a := 0) (b := 200) (by omega) (by omega)
  have i2 : f_X10_isFrom a4 0 3 S = some (if ((0 : Nat) : Int) ≤ a4.toInt ∧ a4.toInt ≤ ((3 : Nat) : Int) then 1 else 0) := from_c (a := 0) (b := 3) (by omega) (by omega)
  have j1 : ∀ T : fS, f_X11_in (Int32.toInt64 a2) 0 200 T = some (if ((0 : Nat) : Int) ≤ a2.toInt ∧ a2.toInt ≤ ((200 : Nat) : Int) then 1 else 0) := fun T => in_c (a := 0) (b := 200) (by omega) (by omega)
  have j2 : ∀ T : fS, f_X11_in (Int32.toInt64 a4) 0 3 T = some (if ((0 : Nat) : Int) ≤ a4.toInt ∧ a4.toInt ≤ ((3 : Nat) : Int) then 1 else 0) := fun T => in_c (a := 0) (b := 3) (by omega) (by omega)
  have no : f_X10_ahead a1 a2 a3 a4 S = some (-1, S) → f_X11_ahead a1 a2 a3 a4 S = some (-1, S) → ∃ r S1 S2, f_X10_ahead a1 a2 a3 a4 S = some (r, S1) ∧ f_X11_ahead a1 a2 a3 a4 S1 = some (r, S2) ∧ Rel S2 := fun h g => ⟨-1, S, S, h, g, hR0⟩
  by_cases h1 : ¬ (0 ≤ a1.toInt ∧ a1.toInt < L.length)
  · refine no ?_ ?_
    · unfold f_X10_ahead; rw [l2, from_o (by omega), bd_some, if_neg h1, if_pos rfl]
    · unfold f_X11_ahead; rw [mr_o l3 (by omega), bd_some, if_neg h1, if_pos rfl]
  have h1 := Decidable.not_not.mp h1
  by_cases h2 : ¬ (((0 : Nat) : Int) ≤ a2.toInt ∧ a2.toInt ≤ ((200 : Nat) : Int))
  · refine no ?_ ?_
    · unfold f_X10_ahead; rw [l2, from_o (by omega), bd_some, if_pos h1, if_neg (show ¬ (1 : Int32) = 0 by decide), i1, bd_some, if_neg h2, if_pos rfl]
    · unfold f_X11_ahead; rw [mr_o l3 (by omega), bd_some, if_pos h1, if_neg (show ¬ (1 : Int32) = 0 by decide), j1, bd_some, if_neg h2, if_pos rfl]
  have h2 := Decidable.not_not.mp h2
  by_cases h3 : ¬ (0 ≤ a3.toInt ∧ a3.toInt < s.2.2.1.1)
  · refine no ?_ ?_
    · unfold f_X10_ahead; rw [l2, from_o (by omega), bd_some, if_pos h1, if_neg (show ¬ (1 : Int32) = 0 by decide), i1, bd_some, if_pos h2, if_neg (show ¬ (1 : Int32) = 0 by decide), ci_thing b3.1 (by omega), bd_some, if_neg h3, if_pos rfl]
    · unfold f_X11_ahead
      rw [mr_o l3 (by omega), bd_some, if_pos h1, if_neg (show ¬ (1 : Int32) = 0 by decide), j1, bd_some, if_pos h2, if_neg (show ¬ (1 : Int32) = 0 by decide), j2, bd_some, mi_thing m2.1 (by omega), bd_some]
      by_cases h4 : ((0 : Nat) : Int) ≤ a4.toInt ∧ a4.toInt ≤ ((3 : Nat) : Int)
      · rw [if_pos h4, if_neg (show ¬ (1 : Int32) = 0 by decide), if_neg h3, if_pos rfl]
      · rw [if_neg h4, if_pos rfl]
  have h3 := Decidable.not_not.mp h3
  by_cases h4 : ¬ (((0 : Nat) : Int) ≤ a4.toInt ∧ a4.toInt ≤ ((3 : Nat) : Int))
  · refine no ?_ ?_
    · unfold f_X10_ahead; rw [l2, from_o (by omega), bd_some, if_pos h1, if_neg (show ¬ (1 : Int32) = 0 by decide), i1, bd_some, if_pos h2, if_neg (show ¬ (1 : Int32) = 0 by decide), ci_thing b3.1 (by omega), bd_some, if_pos h3, if_neg (show ¬ (1 : Int32) = 0 by decide), i2, bd_some, if_neg h4, if_pos rfl]
    · unfold f_X11_ahead; rw [mr_o l3 (by omega), bd_some, if_pos h1, if_neg (show ¬ (1 : Int32) = 0 by decide), j1, bd_some, if_pos h2, if_neg (show ¬ (1 : Int32) = 0 by decide), j2, bd_some, if_neg h4, if_pos rfl]
  have h4 := Decidable.not_not.mp h4
  obtain ⟨h, e1, e2⟩ := o3_ex (x := a2) (by omega)
  obtain ⟨th, e3, e4⟩ := o3_ex h3.1
  have hth : th < s.2.2.1.1 := by omega
  obtain ⟨S1, Q, c1, c2, c3, c4, c5, f1, f2⟩ := c_look (v := a1) (h := h) hS0 hL0 (by omega) (by omega)
  have q157 : S1.1 157 = S.1 157 := funext fun k => f1 157 k (by omega) (by omega)
  have q158 : S1.2 158 = S.2 158 := funext fun k => f2 158 k (by omega) (by omega)
  obtain ⟨T1, t1, t2, t3, t4, t5⟩ := m_keeps S1
  have q157' : T1.1 157 = S.1 157 := (funext fun k => t4 157 k (by omega)).trans q157
  have q158' : T1.2 158 = S.2 158 := (funext fun k => t5 158 k (by omega)).trans q158
  have hru : ruM T1 a1 Q := c5 T1 (fun r hr => cdM_eq (l4 r hr).2 (fun a k _ => (t4 a k (by omega)).trans (f1 a k (by omega) (by omega))))
  generalize hCC : cHrs s.1 s.2.1 Q h s.2.2.1 = C at c2 c3 c4
  have hlive : ∀ K : fS → Option (Int64 × fS), ∃ T2, lp_X11_ahead_52 a1 (o3 h) (o3 th) a4 K FU (0 : Int32) T1 = K T2 ∧ cwM (T2.1 157) (T2.2 158) C ∧ eI T1 T2 := fun K => by
    obtain ⟨T2, u1, u2, u3⟩ := m_aheadl (v := a1) (p3 := o3 th) (p4 := a4) (Q := Q) n3 n4 n1 n2 (h := h) (by omega) (K := K) h 0 FU T1 s.2.2.1 (by omega) (FU_lt (by omega)) (okD_of n5) (by have := n5.2.1; omega) (by rw [q157', q158']; exact m2) (by rw [q157']; exact m1) (rHm_eq d (fun k => (t5 _ k (by omega)).trans (f2 _ k (by omega) (by omega)))) hru
    rw [hCC] at u2
    exact ⟨T2, u1, u2, u3⟩
  have hthC : th < C.1 := by omega
  have hC8 : C.1 ≤ 8 := c3.1
  obtain ⟨ag, g1, g2⟩ := age_oD c3 hthC
  obtain ⟨w1, w2, w3, w4, w5⟩ := c2.2.2 th hthC
  have cAns : f_X10_ahead a1 a2 a3 a4 S = some (if a4 = 0 then (if C.2.2.1 th < 0 then -2 else Int32.toInt64 (C.2.2.1 th)) else if a4 = 3 then o6 (cfn (acb C) C.1) else lw ag 232792560 (a4 - 1), S1) := by
    unfold f_X10_ahead
    rw [l2, from_o (by omega), bd_some, if_pos h1, if_neg (show ¬ (1 : Int32) = 0 by decide), i1, bd_some, if_pos h2, if_neg (show ¬ (1 : Int32) = 0 by decide), ci_thing b3.1 (by omega), bd_some, if_pos h3, if_neg (show ¬ (1 : Int32) = 0 by decide), i2, bd_some, if_pos h4, if_neg (show ¬ (1 : Int32) = 0 by decide), e1, c1, bd_some, e3]
    by_cases z0 : a4 = 0
    · rw [if_pos z0, if_pos z0]
      unfold f_X0_isStanding
      rw [gI_o (by omega) (by omega), bd_some, w1]
      by_cases z1 : C.2.2.1 th < 0
      · rw [if_pos z1, if_pos z1, bd_some, if_pos rfl]
      · rw [if_neg z1, if_neg z1, bd_some, if_neg (show ¬ (1 : Int32) = 0 by decide), bd_some]
    · rw [if_neg z0, if_neg z0]
      by_cases z3 : a4 = 3
      · have := cfn_le (f := acb C) C.1
        rw [if_pos z3, if_pos z3, c_acc c2 hC8, bd_some, o6_of3 (by omega)]
      · rw [if_neg z3, if_neg z3, gL_o (by omega) (by omega), bd_some, show S1.2 36 th = o6 ag from w5.trans g1, show (232792560 : Int64) = o6 232792560 from rfl, c_low (by omega) (by omega) (by omega), bd_some]
  have mPre : f_X11_ahead a1 a2 a3 a4 S1 = lp_X11_ahead_52 a1 (o3 h) (o3 th) a4 (fun S24 => if a4 = (3 : Int32) then (lp_X11_ahead_81  (fun u65 S66 => (f_X11_putsBack  S66).bind fun q68 =>
  some (u65, q68)) FU (0 : Int64) (0 : Int32) S24) else
  (if a4 = (0 : Int32) then ((f_X11_thingOf (o3 th) (0 : Int32) S24).bind fun q37 =>
  if (0 : Int32) ≤ q37 then ((f_X11_thingOf (o3 th) (0 : Int32) S24).bind fun q41 =>
  (f_X11_putsBack  S24).bind fun q44 =>
  some ((Int32.toInt64 q41), q44)) else
  ((f_X11_putsBack  S24).bind fun q47 =>
  some ((-2 : Int64), q47))) else
  ((gL S24 158 8 (o3 th)).bind fun a28 =>
  (f_X11_lowest a28 (232792560 : Int64) (a4 - (1 : Int32)) S24).bind fun q31 =>
  (f_X11_putsBack  S24).bind fun q34 =>
  some (q31, q34)))) FU (0 : Int32) T1 := by
    unfold f_X11_ahead
    rw [mr_o ((f1 _ _ (by omega) (by omega)).trans l3) (by omega), bd_some, if_pos h1, if_neg (show ¬ (1 : Int32) = 0 by decide), j1, bd_some, if_pos h2, if_neg (show ¬ (1 : Int32) = 0 by decide), j2, bd_some, if_pos h4, if_neg (show ¬ (1 : Int32) = 0 by decide), mi_thing (m := s.2.2.1.1) (by rw [q157]; exact m2.1) (by omega), bd_some, if_pos h3, if_neg (show ¬ (1 : Int32) = 0 by decide), t1, bd_some, e1, e3]
  obtain ⟨T2, u1, u2, u3⟩ := hlive (fun S24 => if a4 = (3 : Int32) then (lp_X11_ahead_81  (fun u65 S66 => (f_X11_putsBack  S66).bind fun q68 =>
  some (u65, q68)) FU (0 : Int64) (0 : Int32) S24) else
  (if a4 = (0 : Int32) then ((f_X11_thingOf (o3 th) (0 : Int32) S24).bind fun q37 =>
  if (0 : Int32) ≤ q37 then ((f_X11_thingOf (o3 th) (0 : Int32) S24).bind fun q41 =>
  (f_X11_putsBack  S24).bind fun q44 =>
  some ((Int32.toInt64 q41), q44)) else
  ((f_X11_putsBack  S24).bind fun q47 =>
  some ((-2 : Int64), q47))) else
  ((gL S24 158 8 (o3 th)).bind fun a28 =>
  (f_X11_lowest a28 (232792560 : Int64) (a4 - (1 : Int32)) S24).bind fun q31 =>
  (f_X11_putsBack  S24).bind fun q34 =>
  some (q31, q34))))
  obtain ⟨T3, v1, v2, v3, v4, v5⟩ := m_puts T2
  obtain ⟨x1, x2, x3, x4, x5⟩ := u2.2.2 th hthC
  have hth0 : f_X11_thingOf (o3 th) 0 T2 = some (C.2.2.1 th) := (mw_thing (a := 0) (by omega) (by omega)).trans (congrArg some x1)
  refine ⟨_, S1, T3, cAns, ?_, look_rel (S := S) (S1 := S1) hT hS0 hL0 hM f1 f2 (fun a k x y z => ?_) (fun a k x y z w => ?_) (fun k hk => ?_) (fun k hk => ?_)⟩
  · rw [mPre, u1]
    by_cases z3 : a4 = 3
    · rw [if_pos z3, if_neg (show ¬ a4 = 0 by rw [z3]; decide), if_pos z3, m_acc u2 hC8, v1, bd_some]
    · rw [if_neg z3]
      by_cases z0 : a4 = 0
      · rw [if_pos z0, if_pos z0, hth0, bd_some]
        by_cases z1 : C.2.2.1 th < 0
        · rw [if_pos z1, if_neg (show ¬ (0 : Int32) ≤ C.2.2.1 th by rw [ni_lt] at z1; rw [ni_le]; omega), v1, bd_some]
        · rw [if_neg z1, if_pos (show (0 : Int32) ≤ C.2.2.1 th by rw [ni_lt] at z1; rw [ni_le]; omega), bd_some, v1, bd_some]
      · rw [if_neg z0, if_neg z0, if_neg z3, gL_o (by omega) (by omega), bd_some, x5, g1, show (232792560 : Int64) = o6 232792560 from rfl, m_low (by omega) (by omega) (by omega), bd_some, v1, bd_some]
  · rw [v4 a k x, u3.1 a k (by omega) z, t4 a k y]
  · rw [v5 a k z, u3.2 a k x y z, t5 a k w]
  · rw [v2 k hk, u3.1 159 k (by omega) (by omega), t2 k hk]
  · rw [v3 k hk, u3.2 160 k (by omega) (by omega) (by omega), t3 k hk]

/-! elder() -/
def elx (A : Nat → Int64) : Nat → Nat → Nat → Nat
  | 0, _, i => i
  | d + 1, k, i => elx A d (k + 1) (if A k ≤ A i then i else k)
def yox (A : Nat → Int64) : Nat → Nat → Nat → Nat
  | 0, _, i => i
  | d + 1, k, i => yox A d (k + 1) (if A i ≤ A k then i else k)
theorem elx_lt {A : Nat → Int64} : ∀ d k i, i < k + d → elx A d k i < k + d := by
  intro d
  induction d with
  | zero => intro k i h; exact h
  | succ d ih =>
    intro k i h
    show elx A d (k + 1) _ < _
    have := ih (k + 1) (if A k ≤ A i then i else k) (by split <;> omega)
    omega
theorem yox_lt {A : Nat → Int64} : ∀ d k i, i < k + d → yox A d k i < k + d := by
  intro d
  induction d with
  | zero => intro k i h; exact h
  | succ d ih =>
    intro k i h
    show yox A d (k + 1) _ < _
    have := ih (k + 1) (if A i ≤ A k then i else k) (by split <;> omega)
    omega
section EL
variable {S : fS} {c : Nat} {C : Cw}
theorem cw_elx (hC : cwC S c C) (h8 : C.1 ≤ 8) (h1 : 0 < C.1) : f_X0_eldest c S = some (o3 (elx C.2.2.2.2.2.2 (C.1 - 1) 1 0)) := by
  have key : ∀ d k nn i, k + d = C.1 → d < nn → i < C.1 → lp_X0_eldest_4 c S (fun u9 => some u9) nn (o3 i) (o3 k) = some (o3 (elx C.2.2.2.2.2.2 d k i)) := by
    intro d
    induction d with
    | zero =>
      intro k nn i hk hnn hi
      obtain ⟨nn, rfl⟩ : ∃ z, nn = z + 1 := ⟨nn - 1, by omega⟩
      rw [lp_X0_eldest_4.eq_2, hC.1, if_pos ((o3_le (by omega) (by omega)).mpr (by omega))]
      rfl
    | succ d ih =>
      intro k nn i hk hnn hi
      obtain ⟨nn, rfl⟩ : ∃ z, nn = z + 1 := ⟨nn - 1, by omega⟩
      have he : elx C.2.2.2.2.2.2 (d + 1) k i = elx C.2.2.2.2.2.2 d (k + 1) (if C.2.2.2.2.2.2 k ≤ C.2.2.2.2.2.2 i then i else k) := rfl
      rw [lp_X0_eldest_4.eq_2, hC.1, if_neg (fun q => by have := (o3_le (by omega) (by omega)).mp q; omega), gL_o (by omega) (by omega), bd_some, gL_o (by omega) (by omega), bd_some, (hC.2.2 k (by omega)).2.2.2.2, (hC.2.2 i hi).2.2.2.2, o3_s, he]
      by_cases h : C.2.2.2.2.2.2 k ≤ C.2.2.2.2.2.2 i
      · rw [if_pos h, if_pos h]
        exact ih (k + 1) nn i (by omega) (by omega) hi
      · rw [if_neg h, if_neg h]
        exact ih (k + 1) nn k (by omega) (by omega) (by omega)
  exact key (C.1 - 1) 1 FU 0 (by omega) (FU_lt (by omega)) h1
theorem cw_yox (hC : cwC S c C) (h8 : C.1 ≤ 8) (h1 : 0 < C.1) : f_X0_youngest c S = some (o3 (yox C.2.2.2.2.2.2 (C.1 - 1) 1 0)) := by
  have key : ∀ d k nn i, k + d = C.1 → d < nn → i < C.1 → lp_X0_youngest_4 c S (fun u9 => some u9) nn (o3 i) (o3 k) = some (o3 (yox C.2.2.2.2.2.2 d k i)) := by
    intro d
    induction d with
    | zero =>
      intro k nn i hk hnn hi
      obtain ⟨nn, rfl⟩ : ∃ z, nn = z + 1 := ⟨nn - 1, by omega⟩
      rw [lp_X0_youngest_4.eq_2, hC.1, if_pos ((o3_le (by omega) (by omega)).mpr (by omega))]
      rfl
    | succ d ih =>
      intro k nn i hk hnn hi
      obtain ⟨nn, rfl⟩ : ∃ z, nn = z + 1 := ⟨nn - 1, by omega⟩
      have he : yox C.2.2.2.2.2.2 (d + 1) k i = yox C.2.2.2.2.2.2 d (k + 1) (if C.2.2.2.2.2.2 i ≤ C.2.2.2.2.2.2 k then i else k) := rfl
      rw [lp_X0_youngest_4.eq_2, hC.1, if_neg (fun q => by have := (o3_le (by omega) (by omega)).mp q; omega), gL_o (by omega) (by omega), bd_some, gL_o (by omega) (by omega), bd_some, (hC.2.2 k (by omega)).2.2.2.2, (hC.2.2 i hi).2.2.2.2, o3_s, he]
      by_cases h : C.2.2.2.2.2.2 i ≤ C.2.2.2.2.2.2 k
      · rw [if_pos h, if_pos h]
        exact ih (k + 1) nn i (by omega) (by omega) hi
      · rw [if_neg h, if_neg h]
        exact ih (k + 1) nn k (by omega) (by omega) (by omega)
  exact key (C.1 - 1) 1 FU 0 (by omega) (FU_lt (by omega)) h1
theorem m_elx (hC : cwM (S.1 157) (S.2 158) C) (h8 : C.1 ≤ 8) (h1 : 0 < C.1) {v : Int32} {K : Int32 → Int32 → fS → Option (Int64 × fS)} : lp_X11_elder_83 v K FU (0 : Int32) (0 : Int32) (1 : Int32) S = K (o3 (elx C.2.2.2.2.2.2 (C.1 - 1) 1 0)) (o3 (yox C.2.2.2.2.2.2 (C.1 - 1) 1 0)) S := by
  have key : ∀ d k nn i j, k + d = C.1 → d < nn → i < C.1 → j < C.1 → lp_X11_elder_83 v K nn (o3 i) (o3 j) (o3 k) S = K (o3 (elx C.2.2.2.2.2.2 d k i)) (o3 (yox C.2.2.2.2.2.2 d k j)) S := by
    intro d
    induction d with
    | zero =>
      intro k nn i j hk hnn hi hj
      obtain ⟨nn, rfl⟩ : ∃ z, nn = z + 1 := ⟨nn - 1, by omega⟩
      rw [lp_X11_elder_83.eq_2, show (2 : Int32) = o3 2 from rfl, gI_o (by omega) (by omega), bd_some, hC.1, if_pos ((o3_le (by omega) (by omega)).mpr (by omega))]
      rfl
    | succ d ih =>
      intro k nn i j hk hnn hi hj
      obtain ⟨nn, rfl⟩ : ∃ z, nn = z + 1 := ⟨nn - 1, by omega⟩
      have he : elx C.2.2.2.2.2.2 (d + 1) k i = elx C.2.2.2.2.2.2 d (k + 1) (if C.2.2.2.2.2.2 k ≤ C.2.2.2.2.2.2 i then i else k) := rfl
      have hy : yox C.2.2.2.2.2.2 (d + 1) k j = yox C.2.2.2.2.2.2 d (k + 1) (if C.2.2.2.2.2.2 j ≤ C.2.2.2.2.2.2 k then j else k) := rfl
      have ga : ∀ z, z < C.1 → gL S 158 8 (o3 z) = some (C.2.2.2.2.2.2 z) := fun z hz => (gL_o (by omega) (by omega)).trans (congrArg some (hC.2.2 z hz).2.2.2.2)
      rw [lp_X11_elder_83.eq_2, show (2 : Int32) = o3 2 from rfl, gI_o (by omega) (by omega), bd_some, hC.1, if_neg (fun q => by have := (o3_le (by omega) (by omega)).mp q; omega), ga k (by omega), ga i hi, ga j hj]
      simp only [bd_some]
      rw [o3_s, he, hy]
      by_cases h : C.2.2.2.2.2.2 k ≤ C.2.2.2.2.2.2 i
      · rw [if_pos h, if_pos h]
        by_cases g : C.2.2.2.2.2.2 j ≤ C.2.2.2.2.2.2 k
        · rw [if_pos g, if_pos g]
          exact ih (k + 1) nn i j (by omega) (by omega) hi hj
        · rw [if_neg g, if_neg g]
          exact ih (k + 1) nn i k (by omega) (by omega) hi (by omega)
      · rw [if_neg h, if_neg h]
        by_cases g : C.2.2.2.2.2.2 j ≤ C.2.2.2.2.2.2 k
        · rw [if_pos g, if_pos g]
          exact ih (k + 1) nn k j (by omega) (by omega) (by omega) hj
        · rw [if_neg g, if_neg g]
          exact ih (k + 1) nn k k (by omega) (by omega) (by omega) (by omega)
  exact key (C.1 - 1) 1 FU 0 0 (by omega) (FU_lt (by omega)) h1 h1
end EL
def eldK (v : Int32) : Int32 → Int32 → fS → Option (Int64 × fS) := fun u48 u49 S50 => if v = (0 : Int32) then ((f_X11_putsBack  S50).bind fun q69 =>
  some ((Int32.toInt64 u48), q69)) else
  (if v = (1 : Int32) then ((f_X11_putsBack  S50).bind fun q66 =>
  some ((Int32.toInt64 u49), q66)) else
  ((gL S50 158 8 u48).bind fun a54 =>
  (gL S50 158 8 u49).bind fun a57 =>
  (f_X11_lowest (a54 - a57) (232792560 : Int64) (v - (2 : Int32)) S50).bind fun q60 =>
  (f_X11_putsBack  S50).bind fun q63 =>
  some (q60, q63)))
theorem t_27 (a1 a2 a3 : Int32) (S : fS) (hR : Rel S) : ∃ r S1 S2, f_X10_elder a1 a2 a3 S = some (r, S1) ∧ f_X11_elder a1 a2 a3 S1 = some (r, S2) ∧ Rel S2 := by
  have hR0 := hR
  obtain ⟨n, s, L, M, hT, hS, hL, hM⟩ := hR
  have hS0 := hS
  have hL0 := hL
  obtain ⟨⟨n1, n2, n3, n4, n5, n6⟩, ⟨b1, b2, b3, b4, b5⟩, ⟨m1, m2, m3, m4⟩, d⟩ := hS
  obtain ⟨l1, l2, l3, l4⟩ := hL
  have h8 := n5.1
  have i1 : f_X10_isFrom a2 0 200 S = some (if ((0 : Nat) : Int) ≤ a2.toInt ∧ a2.toInt ≤ ((200 : Nat) : Int) then 1 else 0) := from_c (a := 0) (b := 200) (by omega) (by omega)
  have i2 : f_X10_isFrom a3 0 3 S = some (if ((0 : Nat) : Int) ≤ a3.toInt ∧ a3.toInt ≤ ((3 : Nat) : Int) then 1 else 0) := from_c (a := 0) (b := 3) (by omega) (by omega)
  have j1 : ∀ T : fS, f_X11_in (Int32.toInt64 a2) 0 200 T = some (if ((0 : Nat) : Int) ≤ a2.toInt ∧ a2.toInt ≤ ((200 : Nat) : Int) then 1 else 0) := fun T => in_c (a := 0) (b := 200) (by omega) (by omega)
  have j2 : ∀ T : fS, f_X11_in (Int32.toInt64 a3) 0 3 T = some (if ((0 : Nat) : Int) ≤ a3.toInt ∧ a3.toInt ≤ ((3 : Nat) : Int) then 1 else 0) := fun T => in_c (a := 0) (b := 3) (by omega) (by omega)
  /- the reference, in one form -/
  have hm : ∀ T : fS, T.1 145 2 = o3 L.length → T.1 157 2 = o3 s.2.2.1.1 → f_X11_elder a1 a2 a3 T = if -1 ≤ a1.toInt ∧ a1.toInt < L.length then (if ((0 : Nat) : Int) ≤ a2.toInt ∧ a2.toInt ≤ ((200 : Nat) : Int) then (if ((0 : Nat) : Int) ≤ a3.toInt ∧ a3.toInt ≤ ((3 : Nat) : Int) then (if s.2.2.1.1 = 0 then some (-1, T) else ((f_X11_keeps T).bind fun q14 => lp_X11_elder_57 a1 a2 a3 (fun S21 => lp_X11_elder_83 a3 (eldK a3) FU (0 : Int32) (0 : Int32) (1 : Int32) S21) FU (0 : Int32) q14)) else some (-1, T)) else some (-1, T)) else some (-1, T) := fun T h2 h3 => by
    have hg : gI T 157 158 2 = some (o3 s.2.2.1.1) := (gI_o (k := 2) (by omega) (by omega)).trans (congrArg some h3)
    have hrest : ((f_X11_in (Int32.toInt64 a2) (0 : Int64) (200 : Int64) T).bind fun q2 => if q2 = (0 : Int32) then (some ((-1 : Int64), T)) else ((f_X11_in (Int32.toInt64 a3) (0 : Int64) (3 : Int64) T).bind fun q6 => if q6 = (0 : Int32) then (some ((-1 : Int64), T)) else ((gI T 157 158 (2 : Int32)).bind fun a10 => if a10 = (0 : Int32) then (some ((-1 : Int64), T)) else ((f_X11_keeps  T).bind fun q14 => lp_X11_elder_57 a1 a2 a3 (fun S21 => lp_X11_elder_83 a3 (eldK a3) FU (0 : Int32) (0 : Int32) (1 : Int32) S21) FU (0 : Int32) q14)))) = (if ((0 : Nat) : Int) ≤ a2.toInt ∧ a2.toInt ≤ ((200 : Nat) : Int) then (if ((0 : Nat) : Int) ≤ a3.toInt ∧ a3.toInt ≤ ((3 : Nat) : Int) then (if s.2.2.1.1 = 0 then some (-1, T) else ((f_X11_keeps T).bind fun q14 => lp_X11_elder_57 a1 a2 a3 (fun S21 => lp_X11_elder_83 a3 (eldK a3) FU (0 : Int32) (0 : Int32) (1 : Int32) S21) FU (0 : Int32) q14)) else some (-1, T)) else some (-1, T)) := by
      rw [j1, bd_some, j2, bd_some, hg, bd_some]
      by_cases z : ((0 : Nat) : Int) ≤ a2.toInt ∧ a2.toInt ≤ ((200 : Nat) : Int)
      · rw [if_pos z, if_pos z, if_neg (show ¬ (1 : Int32) = 0 by decide)]
        by_cases z' : ((0 : Nat) : Int) ≤ a3.toInt ∧ a3.toInt ≤ ((3 : Nat) : Int)
        · rw [if_pos z', if_pos z', if_neg (show ¬ (1 : Int32) = 0 by decide)]
          by_cases z0 : s.2.2.1.1 = 0
          · rw [if_pos z0, if_pos (show o3 s.2.2.1.1 = (0 : Int32) by rw [z0]; rfl)]
          · rw [if_neg z0, if_neg (show ¬ o3 s.2.2.1.1 = (0 : Int32) from fun q => z0 ((o3_inj (b := 0) (by omega) (by omega)).mp q))]
        · rw [if_neg z', if_neg z', if_pos rfl]
      · rw [if_neg z, if_neg z, if_pos rfl]
    unfold f_X11_elder
    by_cases h1 : a1 = -1
    · rw [if_pos h1]
      refine hrest.trans ?_
      rw [if_pos (show -1 ≤ a1.toInt ∧ a1.toInt < (L.length : Int) from by rw [h1, show (-1 : Int32).toInt = -1 from rfl]; omega)]
    · rw [if_neg h1, mr_o h2 (by omega), bd_some]
      have h1' : a1.toInt ≠ -1 := fun q => h1 (ni_eq.mpr q)
      by_cases z : 0 ≤ a1.toInt ∧ a1.toInt < L.length
      · rw [if_pos z, if_neg (show ¬ (1 : Int32) = 0 by decide)]
        refine hrest.trans ?_
        rw [if_pos (show -1 ≤ a1.toInt ∧ a1.toInt < (L.length : Int) by omega)]
      · rw [if_neg z, if_pos rfl, if_neg (show ¬ (-1 ≤ a1.toInt ∧ a1.toInt < (L.length : Int)) by omega)]
  have no : f_X10_elder a1 a2 a3 S = some (-1, S) → f_X11_elder a1 a2 a3 S = some (-1, S) → ∃ r S1 S2, f_X10_elder a1 a2 a3 S = some (r, S1) ∧ f_X11_elder a1 a2 a3 S1 = some (r, S2) ∧ Rel S2 := fun h g => ⟨-1, S, S, h, g, hR0⟩
  by_cases h1 : ¬ (-1 ≤ a1.toInt ∧ a1.toInt < L.length)
  · refine no ?_ (by rw [hm S l3 m2.1, if_neg h1])
    unfold f_X10_elder; rw [rn_o l2 (by omega), bd_some, if_neg h1, if_pos rfl]
  have h1 := Decidable.not_not.mp h1
  by_cases h2 : ¬ (((0 : Nat) : Int) ≤ a2.toInt ∧ a2.toInt ≤ ((200 : Nat) : Int))
  · refine no ?_ (by rw [hm S l3 m2.1, if_pos h1, if_neg h2])
    unfold f_X10_elder; rw [rn_o l2 (by omega), bd_some, if_pos h1, if_neg (show ¬ (1 : Int32) = 0 by decide), i1, bd_some, if_neg h2, if_pos rfl]
  have h2 := Decidable.not_not.mp h2
  by_cases h0 : s.2.2.1.1 = 0
  · refine no ?_ (by
      rw [hm S l3 m2.1, if_pos h1, if_pos h2]
      by_cases h3 : ((0 : Nat) : Int) ≤ a3.toInt ∧ a3.toInt ≤ ((3 : Nat) : Int)
      · rw [if_pos h3, if_pos h0]
      · rw [if_neg h3])
    unfold f_X10_elder; rw [rn_o l2 (by omega), bd_some, if_pos h1, if_neg (show ¬ (1 : Int32) = 0 by decide), i1, bd_some, if_pos h2, if_neg (show ¬ (1 : Int32) = 0 by decide), show S.1 11 5 = _ from b3.1, if_pos (show o3 s.2.2.1.1 = (0 : Int32) by rw [h0]; rfl)]
  by_cases h3 : ¬ (((0 : Nat) : Int) ≤ a3.toInt ∧ a3.toInt ≤ ((3 : Nat) : Int))
  · refine no ?_ (by rw [hm S l3 m2.1, if_pos h1, if_pos h2, if_neg h3])
    unfold f_X10_elder; rw [rn_o l2 (by omega), bd_some, if_pos h1, if_neg (show ¬ (1 : Int32) = 0 by decide), i1, bd_some, if_pos h2, if_neg (show ¬ (1 : Int32) = 0 by decide), show S.1 11 5 = _ from b3.1, if_neg (show ¬ o3 s.2.2.1.1 = (0 : Int32) from fun q => h0 ((o3_inj (b := 0) (by omega) (by omega)).mp q)), i2, bd_some, if_neg h3, if_pos rfl]
  have h3 := Decidable.not_not.mp h3
  obtain ⟨h, e1, e2⟩ := o3_ex (x := a2) (by omega)
  obtain ⟨S1, Q, c1, c2, c3, c4, c5, f1, f2⟩ := c_look (v := a1) (h := h) hS0 hL0 h1 (by omega)
  have q157 : S1.1 157 = S.1 157 := funext fun k => f1 157 k (by omega) (by omega)
  have q158 : S1.2 158 = S.2 158 := funext fun k => f2 158 k (by omega) (by omega)
  obtain ⟨T1, t1, t2, t3, t4, t5⟩ := m_keeps S1
  have q157' : T1.1 157 = S.1 157 := (funext fun k => t4 157 k (by omega)).trans q157
  have q158' : T1.2 158 = S.2 158 := (funext fun k => t5 158 k (by omega)).trans q158
  have hru : ruM T1 a1 Q := c5 T1 (fun r hr => cdM_eq (l4 r hr).2 (fun a k _ => (t4 a k (by omega)).trans (f1 a k (by omega) (by omega))))
  obtain ⟨T2, u1, u2, u3⟩ := m_elderl (v := a1) (p3 := a3) (Q := Q) n3 n4 n1 n2 (h := h) (by omega) (K := fun S21 => lp_X11_elder_83 a3 (eldK a3) FU (0 : Int32) (0 : Int32) (1 : Int32) S21) h 0 FU T1 s.2.2.1 (by omega) (FU_lt (by omega)) (okD_of n5) (by have := n5.2.1; omega) (by rw [q157', q158']; exact m2) (by rw [q157']; exact m1) (rHm_eq d (fun k => (t5 _ k (by omega)).trans (f2 _ k (by omega) (by omega)))) hru
  generalize cHrs s.1 s.2.1 Q h s.2.2.1 = C at c2 c3 c4 u2
  have hC8 : C.1 ≤ 8 := c3.1
  have hC0 : 0 < C.1 := by omega
  obtain ⟨T3, v1, v2, v3, v4, v5⟩ := m_puts T2
  have hx1 := cw_elx c2 hC8 hC0
  have hy1 := cw_yox c2 hC8 hC0
  have hxl : elx C.2.2.2.2.2.2 (C.1 - 1) 1 0 < C.1 := by have := elx_lt (A := C.2.2.2.2.2.2) (C.1 - 1) 1 0 (by omega); omega
  have hyl : yox C.2.2.2.2.2.2 (C.1 - 1) 1 0 < C.1 := by have := yox_lt (A := C.2.2.2.2.2.2) (C.1 - 1) 1 0 (by omega); omega
  have hle : C.2.2.2.2.2.2 (yox C.2.2.2.2.2.2 (C.1 - 1) 1 0) ≤ C.2.2.2.2.2.2 (elx C.2.2.2.2.2.2 (C.1 - 1) 1 0) := by
    obtain ⟨i, p1, p2, p3⟩ := cw_eldest c2 hC8 hC0
    rw [hx1] at p2
    have : elx C.2.2.2.2.2.2 (C.1 - 1) 1 0 = i := (o3_inj (by omega) (by omega)).mp (Option.some.inj p2)
    rw [this]
    exact p3 _ hyl
  have hM := m_elx u2 hC8 hC0 (v := a3) (K := eldK a3)
  have ga : ∀ z, z < C.1 → gL T2 158 8 (o3 z) = some (C.2.2.2.2.2.2 z) := fun z hz => (gL_o (by omega) (by omega)).trans (congrArg some (u2.2.2 z hz).2.2.2.2)
  have gc : ∀ z, z < C.1 → gL S1 36 8 (o3 z) = some (C.2.2.2.2.2.2 z) := fun z hz => (gL_o (by omega) (by omega)).trans (congrArg some (c2.2.2 z hz).2.2.2.2)
  generalize elx C.2.2.2.2.2.2 (C.1 - 1) 1 0 = x at *
  generalize yox C.2.2.2.2.2.2 (C.1 - 1) 1 0 = y at *
  obtain ⟨ax, g1, g2⟩ := age_oD c3 hxl
  obtain ⟨ay, g3, g4⟩ := age_oD c3 hyl
  have hay : ay ≤ ax := by rw [g1, g3] at hle; exact (o6_le (by omega) (by omega)).mp hle
  refine ⟨if (2 : Int32) ≤ a3 then lw (ax - ay) 232792560 (a3 - 2) else if a3 = 0 then o6 x else o6 y, S1, T3, ?_, ?_, look_rel (S := S) (S1 := S1) hT hS0 hL0 ‹rIm M S› f1 f2 (fun a k x y z => ?_) (fun a k x y z w => ?_) (fun k hk => ?_) (fun k hk => ?_)⟩
  · unfold f_X10_elder
    rw [rn_o l2 (by omega), bd_some, if_pos h1, if_neg (show ¬ (1 : Int32) = 0 by decide), i1, bd_some, if_pos h2, if_neg (show ¬ (1 : Int32) = 0 by decide), show S.1 11 5 = _ from b3.1, if_neg (show ¬ o3 s.2.2.1.1 = (0 : Int32) from fun q => h0 ((o3_inj (b := 0) (by omega) (by omega)).mp q)), i2, bd_some, if_pos h3, if_neg (show ¬ (1 : Int32) = 0 by decide), e1, c1, bd_some, hx1, bd_some, hy1, bd_some]
    by_cases z2 : (2 : Int32) ≤ a3
    · rw [if_pos z2, if_pos z2, gc x hxl, gc y hyl, bd_some, bd_some, g1, g3, o6_sub hay, show (232792560 : Int64) = o6 232792560 from rfl, c_low (by omega) (by omega) (by omega), bd_some]
    · rw [if_neg z2, if_neg z2]
      by_cases z0 : a3 = 0
      · rw [if_pos z0, if_pos z0, o6_of3 (by omega)]
      · rw [if_neg z0, if_neg z0, o6_of3 (by omega)]
  · rw [hm S1 ((f1 _ _ (by omega) (by omega)).trans l3) (by rw [q157]; exact m2.1), if_pos h1, if_pos h2, if_pos h3, if_neg h0, t1, bd_some, e1]
    refine (show lp_X11_elder_57 a1 (o3 h) a3 (fun S21 => lp_X11_elder_83 a3 (eldK a3) FU (0 : Int32) (0 : Int32) (1 : Int32) S21) FU (0 : Int32) T1 = _ from u1).trans ?_
    rw [hM]
    unfold eldK
    by_cases z0 : a3 = 0
    · rw [if_pos z0, v1, bd_some, if_neg (show ¬ (2 : Int32) ≤ a3 by rw [z0]; decide), if_pos z0, o6_of3 (by omega)]
    · rw [if_neg z0]
      by_cases z1 : a3 = 1
      · rw [if_pos z1, v1, bd_some, if_neg (show ¬ (2 : Int32) ≤ a3 by rw [z1]; decide), if_neg z0, o6_of3 (by omega)]
      · have z2 : (2 : Int32) ≤ a3 := by
          have y0 : a3.toInt ≠ 0 := fun q => z0 (ni_eq.mpr q)
          have y1 : a3.toInt ≠ 1 := fun q => z1 (ni_eq.mpr q)
          exact ni_le.mpr (by show 2 ≤ a3.toInt; omega)
        rw [if_neg z1, if_pos z2, ga x hxl, ga y hyl, bd_some, bd_some, g1, g3, o6_sub hay, show (232792560 : Int64) = o6 232792560 from rfl, m_low (by omega) (by omega) (by omega), bd_some, v1, bd_some]
  · rw [v4 a k x, u3.1 a k (by omega) z, t4 a k y]
  · rw [v5 a k z, u3.2 a k x y z, t5 a k w]
  · rw [v2 k hk, u3.1 159 k (by omega) (by omega), t2 k hk]
  · rw [v3 k hk, u3.2 160 k (by omega) (by omega) (by omega), t3 k hk]
end
noncomputable section
/-! the best gain within some hours -/
def bt (mx : Int32) (x y : Int64) : Int64 := if x < 0 then y else if y < 0 then x else if mx = 0 then (if y ≤ x then y else x) else (if x ≤ y then y else x)
def bs (v : Nat → Int64) (mx : Int32) : Nat → Nat → Int64 → Int64
  | 0, _, x => x
  | d + 1, k, x => bs v mx d (k + 1) (bt mx (v k) x)
def stv (g p : Int64) : Int64 := if 0 ≤ g then g + p else -1
def gsv (E : List St5) (G : Nat → Nat → Int64) (h f k : Nat) : Int64 := if oeI (E.getD k d5) f = -1 then -1 else if h < (E.getD k d5).2.2.1 then -1 else if 0 ≤ G (h - (E.getD k d5).2.2.1) (oeI (E.getD k d5) f).toNatClampNeg then G (h - (E.getD k d5).2.2.1) (oeI (E.getD k d5) f).toNatClampNeg + o6 (E.getD k d5).2.2.1 * pc (E.getD k d5).2.2.2 else -1
def gF (F : List (Nat × Nat)) (E : List St5) (tg : Nat) (mx : Int32) : Nat → Nat → Nat → Int64
  | 0, _, f => if f = tg then 0 else -1
  | n + 1, h, f => if h = 0 then (if f = tg then 0 else -1) else bs (gsv E (gF F E tg mx n) h f) mx E.length 0 (stv (gF F E tg mx n (h - 1) f) (pc (F.getD f (0, 0))))
def GG (F : List (Nat × Nat)) (E : List St5) (tg : Nat) (mx : Int32) (h f : Nat) : Int64 := gF F E tg mx h h f
theorem bs_cg {v w : Nat → Int64} {mx : Int32} : ∀ d k x, (∀ j, k ≤ j → j < k + d → v j = w j) → bs v mx d k x = bs w mx d k x := by
  intro d
  induction d with
  | zero => intro k x _; rfl
  | succ d ih =>
    intro k x h
    show bs v mx d (k + 1) (bt mx (v k) x) = bs w mx d (k + 1) (bt mx (w k) x)
    rw [h k (Nat.le_refl _) (by omega)]
    exact ih (k + 1) _ (fun j h1 h2 => h j (by omega) (by omega))
theorem gsv_cg {E : List St5} {G H : Nat → Nat → Int64} {m h f k : Nat} (hE : ∀ q ∈ E, okS m q) (hk : k < E.length) (e : ∀ j g, j < h → G j g = H j g) : gsv E G h f k = gsv E H h f k := by
  unfold gsv
  obtain ⟨_, _, _, s4, _⟩ := hE _ (gd_mem (d := d5) hk)
  by_cases h1 : oeI (E.getD k d5) f = -1
  · rw [if_pos h1, if_pos h1]
  · rw [if_neg h1, if_neg h1]
    by_cases h2 : h < (E.getD k d5).2.2.1
    · rw [if_pos h2, if_pos h2]
    · rw [if_neg h2, if_neg h2, e _ _ (by omega)]
theorem gF_st {F : List (Nat × Nat)} {E : List St5} {tg m : Nat} {mx : Int32} (hE : ∀ q ∈ E, okS m q) : ∀ n, (∀ h f, h ≤ n → gF F E tg mx n h f = GG F E tg mx h f) := by
  intro n
  induction n using Nat.strongRecOn with
  | _ n ih =>
    intro h f hn
    cases n with
    | zero =>
      have : h = 0 := by omega
      subst this
      rfl
    | succ n =>
      cases h with
      | zero => rfl
      | succ h =>
        have e1 : gF F E tg mx (n + 1) (h + 1) f = bs (gsv E (gF F E tg mx n) (h + 1) f) mx E.length 0 (stv (gF F E tg mx n h f) (pc (F.getD f (0, 0)))) := rfl
        have e2 : GG F E tg mx (h + 1) f = bs (gsv E (gF F E tg mx h) (h + 1) f) mx E.length 0 (stv (GG F E tg mx h f) (pc (F.getD f (0, 0)))) := rfl
        rw [e1, e2, ih n (by omega) h f (by omega)]
        refine bs_cg _ _ _ (fun j h1 h2 => gsv_cg hE (by omega) (fun a g ha => ?_))
        rw [ih n (by omega) a g (by omega)]
        by_cases hh : h < n + 1
        · rw [ih h hh a g (by omega)]
        · exact absurd hn (by omega)
theorem GG_0 {F : List (Nat × Nat)} {E : List St5} {tg f : Nat} {mx : Int32} : GG F E tg mx 0 f = if f = tg then 0 else -1 := rfl
theorem GG_s {F : List (Nat × Nat)} {E : List St5} {tg m f h : Nat} {mx : Int32} (hE : ∀ q ∈ E, okS m q) : GG F E tg mx (h + 1) f = bs (gsv E (GG F E tg mx) (h + 1) f) mx E.length 0 (stv (GG F E tg mx h f) (pc (F.getD f (0, 0)))) := by
  have e2 : GG F E tg mx (h + 1) f = bs (gsv E (gF F E tg mx h) (h + 1) f) mx E.length 0 (stv (GG F E tg mx h f) (pc (F.getD f (0, 0)))) := rfl
  rw [e2]
  exact bs_cg _ _ _ (fun j h1 h2 => gsv_cg hE (by omega) (fun a g ha => gF_st hE h a g (by omega)))
/-- as a number, or -1 -/
def nb (x : Int64) (h : Nat) : Prop := x = -1 ∨ ∃ g, x = o6 g ∧ g ≤ 4655851200 * h
theorem nb_bt {mx : Int32} {x y : Int64} {h : Nat} (hx : nb x h) (hy : nb y h) : nb (bt mx x y) h := by
  unfold bt
  split
  · exact hy
  · split
    · exact hx
    · split
      · split
        · exact hy
        · exact hx
      · split
        · exact hy
        · exact hx
theorem nb_bs {v : Nat → Int64} {mx : Int32} {h : Nat} : ∀ d k x, nb x h → (∀ j, k ≤ j → j < k + d → nb (v j) h) → nb (bs v mx d k x) h := by
  intro d
  induction d with
  | zero => intro k x hx _; exact hx
  | succ d ih =>
    intro k x hx hv
    exact ih (k + 1) _ (nb_bt (hv k (Nat.le_refl _) (by omega)) hx) (fun j h1 h2 => hv j (by omega) (by omega))
theorem GG_nb {F : List (Nat × Nat)} {E : List St5} {tg : Nat} {mx : Int32} (hF : ∀ q ∈ F, okF q) (hE : ∀ q ∈ E, okS F.length q) (hm : F.length ≤ 10) : ∀ h f, h ≤ 120 → f < F.length → nb (GG F E tg mx h f) h := by
  intro h
  induction h using Nat.strongRecOn with
  | _ h ih =>
    intro f hh hf
    cases h with
    | zero =>
      rw [GG_0]
      split
      · exact Or.inr ⟨0, rfl, by omega⟩
      · exact Or.inl rfl
    | succ h =>
      rw [GG_s hE]
      refine nb_bs _ _ _ ?_ (fun j _ hj => ?_)
      · unfold stv
        rcases ih h (by omega) f (by omega) hf with e | ⟨g, e1, e2⟩
        · rw [e, if_neg (by decide)]; exact Or.inl rfl
        · have hp := pcn_le (hF _ (gd_mem (d := (0, 0)) hf))
          rw [e1, if_pos (o6_0le (by omega)), pc_o, o6_add]
          exact Or.inr ⟨_, rfl, by omega⟩
      · have hj : j < E.length := by omega
        have hq := hE _ (gd_mem (d := d5) hj)
        obtain ⟨s1, s2, s3, s4, s5, s6⟩ := hq
        unfold gsv
        rcases oe_or (a := f) (hE _ (gd_mem (d := d5) hj)) hm with ⟨o, o1, o2, _⟩ | ⟨o2, _⟩
        · rw [o2, if_neg (o3_m1 (by omega)), o3_nat (by omega)]
          by_cases h2 : h + 1 < (E.getD j d5).2.2.1
          · rw [if_pos h2]; exact Or.inl rfl
          · rw [if_neg h2]
            rcases ih (h + 1 - (E.getD j d5).2.2.1) (by omega) o (by omega) o1 with e | ⟨g, e1, e2⟩
            · rw [e, if_neg (by decide)]; exact Or.inl rfl
            · have hp := pcn_le s6
              have hmul : (E.getD j d5).2.2.1 * ((E.getD j d5).2.2.2.1 * pz (E.getD j d5).2.2.2) ≤ (E.getD j d5).2.2.1 * 4655851200 := Nat.mul_le_mul_left _ hp.2
              have hd : 4655851200 * (h + 1 - (E.getD j d5).2.2.1) + 4655851200 * (E.getD j d5).2.2.1 = 4655851200 * (h + 1) := by rw [← Nat.mul_add]; congr 1; omega
              rw [e1, if_pos (o6_0le (by omega)), pc_o, o6_mul, o6_add]
              exact Or.inr ⟨_, rfl, by omega⟩
        · rw [o2, if_pos rfl]; exact Or.inl rfl
section PC
variable {F : List (Nat × Nat)} {E : List St5} {tg : Nat} {mx : Int32}
/-- the class's table, whole up to hour h -/
def tbC (F : List (Nat × Nat)) (E : List St5) (tg : Nat) (mx : Int32) (S : fS) (h : Nat) : Prop := ∀ j f, j ≤ h → f < F.length → S.2 44 (10 * j + f) = GG F E tg mx j f
theorem cg_of {S : fS} {h j f : Nat} (hT : tbC F E tg mx S h) (hj : j ≤ h) (h120 : h ≤ 120) (hf : f < F.length) (hm : F.length ≤ 10) : f_X1_gainOf (o3 j) (o3 f) S = some (GG F E tg mx j f) := by
  unfold f_X1_gainOf
  rw [if_neg (o3_nn (by omega)), if_pos (show o3 j ≤ (120 : Int32) from (o3_le (b := 120) (by omega) (by omega)).mpr (by omega)), show (10 : Int32) = o3 10 from rfl, o3_mul, o3_add, gL_o (by omega) (by omega), bd_some, show j * 10 + f = 10 * j + f by omega, hT j f hj hf]
theorem cg_stay {S : fS} {h f : Nat} (b1 : twC S 4 F E) (hT : tbC F E tg mx S h) (h120 : h + 1 ≤ 120) (hf : f < F.length) (hm : F.length ≤ 10) : f_X1_gainByStaying 4 (o3 (h + 1)) (o3 f) S = some (stv (GG F E tg mx h f) (pc (F.getD f (0, 0)))) := by
  unfold f_X1_gainByStaying stv
  rw [show (1 : Int32) = o3 1 from rfl, o3_sub (by omega), show h + 1 - 1 = h by omega, cg_of hT (Nat.le_refl _) (by omega) hf hm, bd_some, show gL S (4 + 1) 10 (o3 f) = _ from cf_p b1 hm hf, bd_some]
  split <;> rfl
theorem cg_stair {S : fS} {h f k : Nat} (b1 : twC S 4 F E) (hE : ∀ q ∈ E, okS F.length q) (hT : tbC F E tg mx S h) (h120 : h + 1 ≤ 120) (hf : f < F.length) (hm : F.length ≤ 10) (hl : E.length ≤ 12) (hk : k < E.length) : f_X1_gainByStair 4 (o3 (h + 1)) (o3 f) (o3 k) S = some (gsv E (GG F E tg mx) (h + 1) f k) := by
  obtain ⟨s1, s2, s3, s4, s5, s6⟩ := hE _ (gd_mem (d := d5) hk)
  obtain ⟨w1, w2, w3, w4⟩ := b1.2.2.2 k hk
  unfold f_X1_gainByStair gsv
  rw [ch_other b1 hE hm hl hk (by omega), bd_some, gI_o (by omega) (by omega), bd_some, w3]
  rcases oe_or (a := f) (hE _ (gd_mem (d := d5) hk)) hm with ⟨o, o1, o2, _⟩ | ⟨o2, _⟩
  · rw [o2, if_pos (o3_0le (by omega)), if_neg (o3_m1 (by omega)), o3_nat (by omega)]
    by_cases h2 : h + 1 < (E.getD k d5).2.2.1
    · have hneg : f_X1_gainOf (o3 (h + 1) - o3 (E.getD k d5).2.2.1) (o3 o) S = some (-1) := by
        unfold f_X1_gainOf
        rw [if_pos]
        rw [ni_lt, ni_sub (by rw [o3_int (by omega), o3_int (by omega)]; omega) (by rw [o3_int (by omega), o3_int (by omega)]; omega), o3_int (by omega), o3_int (by omega), ni_0]
        omega
      rw [hneg, bd_some, if_neg (by decide), if_pos h2]
    · rw [if_neg h2, o3_sub (by omega), cg_of hT (by omega) (by omega) o1 hm, bd_some, gL_o (by omega) (by omega), bd_some, w4, o6_of3 (by omega)]
      split <;> rfl
  · rw [o2, if_neg (by decide), if_neg (by decide), if_pos rfl]
/-- taken or left: the better one -/
theorem cg_pick {x y : Int64} {S : fS} {β : Type} {A : Int64 → Option β} : ((f_X1_isBetter x y mx S).bind fun q8 => if q8 = (0 : Int32) then A y else A x) = A (bt mx x y) := by
  unfold f_X1_isBetter bt
  by_cases h1 : x < 0
  · simp only [if_pos h1, bd_some, if_true]
  · simp only [if_neg h1]
    by_cases h2 : y < 0
    · rw [if_neg (show ¬ (0 : Int64) ≤ y by rw [nl_lt] at h2; rw [nl_le]; omega), bd_some, if_neg (by decide), if_pos h2]
    · rw [if_pos (show (0 : Int64) ≤ y by rw [nl_lt] at h2; rw [nl_le]; omega), if_neg h2]
      by_cases h3 : mx = 0
      · rw [if_pos h3, if_pos h3]
        by_cases h4 : y ≤ x
        · rw [if_pos h4, if_pos h4, bd_some, if_pos rfl]
        · rw [if_neg h4, if_neg h4, bd_some, if_neg (by decide)]
      · rw [if_neg h3, if_neg h3]
        by_cases h4 : x ≤ y
        · rw [if_pos h4, if_pos h4, bd_some, if_pos rfl]
        · rw [if_neg h4, if_neg h4, bd_some, if_neg (by decide)]
theorem cg_best {S : fS} {h f : Nat} (b1 : twC S 4 F E) (hE : ∀ q ∈ E, okS F.length q) (hT : tbC F E tg mx S h) (h120 : h + 1 ≤ 120) (hf : f < F.length) (hm : F.length ≤ 10) (hl : E.length ≤ 12) : f_X1_bestGain 4 (o3 (h + 1)) (o3 f) mx S = some (GG F E tg mx (h + 1) f) := by
  have key : ∀ d k nn x, k + d = E.length → d < nn → lp_X1_bestGain_12 4 (o3 (h + 1)) (o3 f) mx S (fun u12 => some u12) nn x (o3 k) = some (bs (gsv E (GG F E tg mx) (h + 1) f) mx d k x) := by
    intro d
    induction d with
    | zero =>
      intro k nn x hk hnn
      obtain ⟨nn, rfl⟩ : ∃ z, nn = z + 1 := ⟨nn - 1, by omega⟩
      rw [lp_X1_bestGain_12.eq_2, b1.2.1, if_pos ((o3_le (by omega) (by omega)).mpr (by omega))]
      rfl
    | succ d ih =>
      intro k nn x hk hnn
      obtain ⟨nn, rfl⟩ : ∃ z, nn = z + 1 := ⟨nn - 1, by omega⟩
      rw [lp_X1_bestGain_12.eq_2, b1.2.1, if_neg (fun q => by have := (o3_le (by omega) (by omega)).mp q; omega), cg_stair b1 hE hT h120 hf hm hl (by omega), bd_some, o3_s]
      refine (cg_pick (A := fun z => lp_X1_bestGain_12 4 (o3 (h + 1)) (o3 f) mx S (fun u12 => some u12) nn z (o3 (k + 1)))).trans ?_
      exact ih (k + 1) nn _ (by omega) (by omega)
  unfold f_X1_bestGain
  rw [cg_stay b1 hT h120 hf hm, bd_some, GG_s hE]
  exact key E.length 0 FU _ (by omega) (FU_lt (by omega))
end PC
end
noncomputable section
/-! plan(): both tables, the answers -/
section PC2
variable {F : List (Nat × Nat)} {E : List St5} {tg : Nat} {mx : Int32}
def e44 (S T : fS) : Prop := T.1 = S.1 ∧ ∀ a k, a ≠ 44 → T.2 a k = S.2 a k
theorem e44.rf {S : fS} : e44 S S := ⟨rfl, fun _ _ _ => rfl⟩
theorem e44.tr {S T U : fS} (h : e44 S T) (g : e44 T U) : e44 S U := ⟨g.1.trans h.1, fun a k n => (g.2 a k n).trans (h.2 a k n)⟩
theorem e44_p {S : fS} {k : Nat} {x : Int64} : e44 S (pL S 44 k x) := ⟨rfl, fun a j h => pL_ne (by omega)⟩
theorem twC_44 {S T : fS} (h : twC S 4 F E) (e : e44 S T) : twC T 4 F E := twC_eq h (fun a k _ _ => by rw [e.1]) (fun a k _ _ => e.2 a k (by omega))
theorem me_3 {p3 p4 : Int32} (htg : tg < 2147483648) {K : fS → Option fS} : ∀ d k nn (S : fS), k + d = 10 → d < nn → (∀ j, j < k → S.2 44 j = if j = tg then 0 else -1) → ∃ T, lp_X1_measure_3 4 (o3 tg) p3 p4 K nn (o3 k) S = K T ∧ (∀ j, j < 10 → T.2 44 j = if j = tg then 0 else -1) ∧ e44 S T := by
  intro d
  induction d with
  | zero =>
    intro k nn S hk hnn hj
    obtain ⟨nn, rfl⟩ : ∃ z, nn = z + 1 := ⟨nn - 1, by omega⟩
    rw [lp_X1_measure_3.eq_2, if_pos (show (10 : Int32) ≤ o3 k from (o3_le (a := 10) (by omega) (by omega)).mpr (by omega))]
    exact ⟨S, rfl, fun j h => hj j (by omega), e44.rf⟩
  | succ d ih =>
    intro k nn S hk hnn hj
    obtain ⟨nn, rfl⟩ : ∃ z, nn = z + 1 := ⟨nn - 1, by omega⟩
    have key : ∀ x, x = (if k = tg then (0 : Int64) else -1) → ∃ T, lp_X1_measure_3 4 (o3 tg) p3 p4 K nn (o3 (k + 1)) (pL S 44 k x) = K T ∧ (∀ j, j < 10 → T.2 44 j = if j = tg then 0 else -1) ∧ e44 S T := fun x hx => by
      obtain ⟨T, t1, t2, t3⟩ := ih (k + 1) nn (pL S 44 k x) (by omega) (by omega) (fun j h => by
        by_cases e : j = k
        · subst e; rw [pL_eq, hx]
        · rw [pL_ne (by omega)]; exact hj j (by omega))
      exact ⟨T, t1, t2, e44_p.tr t3⟩
    rw [lp_X1_measure_3.eq_2, if_neg (show ¬ (10 : Int32) ≤ o3 k from fun q => by have := (o3_le (a := 10) (by omega) (by omega)).mp q; omega), sL_o (by omega) (by omega), sL_o (by omega) (by omega), bd_some, bd_some, o3_s]
    by_cases e : k = tg
    · rw [if_pos ((o3_inj (by omega) htg).mpr e)]
      exact key 0 (by rw [if_pos e])
    · rw [if_neg (fun q => e ((o3_inj (by omega) htg).mp q))]
      exact key (-1) (by rw [if_neg e])
theorem me_55 (hE : ∀ q ∈ E, okS F.length q) (hm : F.length ≤ 10) (hl : E.length ≤ 12) {p3 : Int32} {h : Nat} (h120 : h + 1 ≤ 120) {K : fS → Option fS} : ∀ d k nn (S : fS), k + d = F.length → d < nn → twC S 4 F E → tbC F E tg mx S h → (∀ f, f < k → S.2 44 (10 * (h + 1) + f) = GG F E tg mx (h + 1) f) → ∃ T, lp_X1_measure_55 4 p3 mx (o3 (h + 1)) K nn (o3 k) S = K T ∧ tbC F E tg mx T (h + 1) ∧ e44 S T := by
  intro d
  induction d with
  | zero =>
    intro k nn S hk hnn b1 hT hj
    obtain ⟨nn, rfl⟩ : ∃ z, nn = z + 1 := ⟨nn - 1, by omega⟩
    rw [lp_X1_measure_55.eq_2, b1.1, if_pos ((o3_le (by omega) (by omega)).mpr (by omega))]
    refine ⟨S, rfl, fun j f h1 h2 => ?_, e44.rf⟩
    by_cases e : j = h + 1
    · rw [e]; exact hj f (by omega)
    · exact hT j f (by omega) h2
  | succ d ih =>
    intro k nn S hk hnn b1 hT hj
    obtain ⟨nn, rfl⟩ : ∃ z, nn = z + 1 := ⟨nn - 1, by omega⟩
    rw [lp_X1_measure_55.eq_2, b1.1, if_neg (fun q => by have := (o3_le (by omega) (by omega)).mp q; omega), cg_best b1 hE hT h120 (by omega) hm hl, bd_some, show (10 : Int32) = o3 10 from rfl, o3_mul, o3_add, sL_o (by omega) (by omega), bd_some, o3_s]
    obtain ⟨T, t1, t2, t3⟩ := ih (k + 1) nn (pL S 44 ((h + 1) * 10 + k) (GG F E tg mx (h + 1) k)) (by omega) (by omega) (twC_44 b1 e44_p) (fun j f h1 h2 => by rw [pL_ne (by omega)]; exact hT j f h1 h2) (fun f hf => by
      by_cases e : f = k
      · subst e; rw [show 10 * (h + 1) + f = (h + 1) * 10 + f by omega, pL_eq]
      · rw [pL_ne (by omega)]; exact hj f (by omega))
    exact ⟨T, t1, t2, e44_p.tr t3⟩
theorem me_39 (hE : ∀ q ∈ E, okS F.length q) (hm : F.length ≤ 10) (hl : E.length ≤ 12) {n : Nat} (hn : n ≤ 120) {K : fS → Option fS} : ∀ d h nn (S : fS), h + d = n → d < nn → twC S 4 F E → tbC F E tg mx S h → ∃ T, lp_X1_measure_39 4 (o3 n) mx K nn (o3 (h + 1)) S = K T ∧ tbC F E tg mx T n ∧ e44 S T := by
  intro d
  induction d with
  | zero =>
    intro h nn S hk hnn b1 hT
    obtain ⟨nn, rfl⟩ : ∃ z, nn = z + 1 := ⟨nn - 1, by omega⟩
    rw [lp_X1_measure_39.eq_2, if_pos ((o3_lt (by omega) (by omega)).mpr (by omega))]
    rw [show h = n by omega] at hT
    exact ⟨S, rfl, hT, e44.rf⟩
  | succ d ih =>
    intro h nn S hk hnn b1 hT
    obtain ⟨nn, rfl⟩ : ∃ z, nn = z + 1 := ⟨nn - 1, by omega⟩
    rw [lp_X1_measure_39.eq_2, if_neg (fun q => by have := (o3_lt (by omega) (by omega)).mp q; omega), if_neg (show ¬ (120 : Int32) < o3 (h + 1) from fun q => by have := (o3_lt (a := 120) (by omega) (by omega)).mp q; omega)]
    obtain ⟨T1, a1, a2, a3⟩ := me_55 (p3 := o3 n) hE hm hl (h := h) (by omega) (K := fun S20 => lp_X1_measure_39 4 (o3 n) mx K nn (o3 (h + 1) + 1) S20) F.length 0 FU S (by omega) (FU_lt (by omega)) b1 hT (fun f hf => absurd hf (Nat.not_lt_zero _))
    obtain ⟨T, t1, t2, t3⟩ := ih (h + 1) nn T1 (by omega) (by omega) (twC_44 b1 a3) a2
    refine ⟨T, a1.trans ?_, t2, a3.tr t3⟩
    rw [o3_s]
    exact t1
theorem c_meas {S : fS} (b1 : twC S 4 F E) (hE : ∀ q ∈ E, okS F.length q) (hm : F.length ≤ 10) (hl : E.length ≤ 12) {n : Nat} (hn : n ≤ 120) (htg : tg < F.length) : ∃ T, f_X1_measure 4 (o3 tg) (o3 n) mx S = some T ∧ tbC F E tg mx T n ∧ e44 S T := by
  obtain ⟨T1, a1, a2, a3⟩ := me_3 (tg := tg) (p3 := o3 n) (p4 := mx) (by omega) (K := fun S9 => lp_X1_measure_39 4 (o3 n) mx (fun S22 => some S22) FU (1 : Int32) S9) 10 0 FU S (by omega) (FU_lt (by omega)) (fun j hj => absurd hj (Nat.not_lt_zero _))
  obtain ⟨T, t1, t2, t3⟩ := me_39 (tg := tg) (mx := mx) hE hm hl hn (K := fun S22 => some S22) n 0 FU T1 (by omega) (FU_lt (by omega)) (twC_44 b1 a3) (fun j f h1 h2 => by
    have : j = 0 := by omega
    subst this
    rw [show 10 * 0 + f = f by omega, a2 f (by omega), GG_0])
  exact ⟨T, a1.trans t1, t2, a3.tr t3⟩
end PC2
section PM2
variable {F : List (Nat × Nat)} {E : List St5} {tg : Nat} {mx : Int32} {n : Nat}
/-- the reference's table, whole from hour t on, of n hours -/
def tbM (F : List (Nat × Nat)) (E : List St5) (tg : Nat) (mx : Int32) (n : Nat) (S : fS) (t : Nat) : Prop := ∀ j f, t ≤ j → j ≤ n → f < F.length → S.2 162 (10 * j + f) = GG F E tg mx (n - j) f
def e162 (S T : fS) : Prop := T.1 = S.1 ∧ ∀ a k, a ≠ 162 → T.2 a k = S.2 a k
theorem e162.rf {S : fS} : e162 S S := ⟨rfl, fun _ _ _ => rfl⟩
theorem e162.tr {S T U : fS} (h : e162 S T) (g : e162 T U) : e162 S U := ⟨g.1.trans h.1, fun a k n => (g.2 a k n).trans (h.2 a k n)⟩
theorem e162_p {S : fS} {k : Nat} {x : Int64} : e162 S (pL S 162 k x) := ⟨rfl, fun a j h => pL_ne (by omega)⟩
theorem mg_stay {S : fS} {t f : Nat} (m1 : twM (S.1 157) F E) (hF : ∀ q ∈ F, okF q) (hT : tbM F E tg mx n S (t + 1)) (hn : n ≤ 120) (ht : t < n) (hf : f < F.length) (hm : F.length ≤ 10) : f_X11_by (o3 f) (o3 t) (-1) (o3 n) S = some (stv (GG F E tg mx (n - t - 1) f) (pc (F.getD f (0, 0)))) := by
  unfold f_X11_by stv
  rw [if_neg (show ¬ (0 : Int32) ≤ -1 by decide), if_neg (show ¬ (0 : Int32) ≤ -1 by decide), if_neg (o3_nn (by omega)), o3_s, if_neg (fun q => by have := (o3_lt (by omega) (by omega)).mp q; omega), show (10 : Int32) = o3 10 from rfl, o3_mul, o3_add, gL_o (by omega) (by omega), bd_some, hT (t + 1) f (Nat.le_refl _) (by omega) hf, show n - (t + 1) = n - t - 1 by omega, bd_some, if_neg (show ¬ (0 : Int32) ≤ -1 by decide), mp_floor m1 hF hm hf, bd_some, show Int32.toInt64 1 = (1 : Int64) from rfl, show (1 : Int64) * pc (F.getD f (0, 0)) = pc (F.getD f (0, 0)) from Int64.one_mul _]
  split <;> rfl
theorem mg_stair {S : fS} {t f k : Nat} (m1 : twM (S.1 157) F E) (hE : ∀ q ∈ E, okS F.length q) (hT : tbM F E tg mx n S (t + 1)) (hn : n ≤ 120) (ht : t < n) (hf : f < F.length) (hm : F.length ≤ 10) (hl : E.length ≤ 12) (hk : k < E.length) : f_X11_by (o3 f) (o3 t) (o3 k) (o3 n) S = some (gsv E (GG F E tg mx) (n - t) f k) := by
  obtain ⟨s1, s2, s3, s4, s5, s6⟩ := hE _ (gd_mem (d := d5) hk)
  obtain ⟨u1, u2, u3, u4, u5⟩ := mh_stair m1 hl hk
  have u3 : f_X11_stairOf (o3 k) 2 S = some (o3 (E.getD k d5).2.2.1) := u3
  unfold f_X11_by gsv
  rw [if_pos (o3_0le (by omega)), u3, bd_some, if_pos (o3_0le (by omega)), mh_other m1 hE hm hl hk (by omega), bd_some, o3_add]
  rcases oe_or (a := f) (hE _ (gd_mem (d := d5) hk)) hm with ⟨o, o1, o2, _⟩ | ⟨o2, _⟩
  · rw [o2, if_neg (o3_nn (by omega)), if_neg (o3_m1 (by omega)), o3_nat (by omega)]
    by_cases h2 : n - t < (E.getD k d5).2.2.1
    · rw [if_pos ((o3_lt (by omega) (by omega)).mpr (by omega)), if_pos h2]
    · rw [if_neg (fun q => by have := (o3_lt (by omega) (by omega)).mp q; omega), if_neg h2, show (10 : Int32) = o3 10 from rfl, o3_mul, o3_add, gL_o (by omega) (by omega), bd_some, hT _ _ (by omega) (by omega) o1, show n - (t + (E.getD k d5).2.2.1) = n - t - (E.getD k d5).2.2.1 by omega, bd_some, if_pos (o3_0le (by omega)), mp_stair m1 hE hl hk, bd_some, o6_of3 (by omega)]
      split <;> rfl
  · rw [o2, if_pos (by decide), if_pos rfl]
theorem mg_pick {x y : Int64} {S : fS} {β : Type} {A : Int64 → Option β} : (if x < (0 : Int64) then A y else ((f_X11_isBetter x y mx S).bind fun q9 => if q9 = (0 : Int32) then A y else A x)) = A (bt mx x y) := by
  unfold f_X11_isBetter bt
  by_cases h1 : x < 0
  · simp only [if_pos h1]
  · simp only [if_neg h1]
    by_cases h2 : y < 0
    · rw [if_pos h2, bd_some, if_neg (by decide), if_pos h2]
    · rw [if_neg h2, if_neg h2]
      by_cases h3 : mx = 0
      · rw [if_pos h3, if_pos h3]
        by_cases h4 : y ≤ x
        · rw [if_pos h4, if_pos h4, bd_some, if_pos rfl]
        · rw [if_neg h4, if_neg h4, bd_some, if_neg (by decide)]
      · rw [if_neg h3, if_neg h3]
        by_cases h4 : x ≤ y
        · rw [if_pos h4, if_pos h4, bd_some, if_pos rfl]
        · rw [if_neg h4, if_neg h4, bd_some, if_neg (by decide)]
theorem bt_m1 {x : Int64} (h : x < 0 → x = -1) : bt mx x (-1) = x := by
  unfold bt
  by_cases h1 : x < 0
  · rw [if_pos h1, h h1]
  · rw [if_neg h1, if_pos (by decide)]
theorem stv_m1 {g p : Int64} (hp : 0 ≤ g → ¬ g + p < 0) : stv g p < 0 → stv g p = -1 := by
  unfold stv
  split
  · intro h; rename_i hg; exact absurd h (hp hg)
  · intro _; rfl
theorem mg_best {S : fS} {t f : Nat} (m1 : twM (S.1 157) F E) (hF : ∀ q ∈ F, okF q) (hE : ∀ q ∈ E, okS F.length q) (hT : tbM F E tg mx n S (t + 1)) (hn : n ≤ 120) (ht : t < n) (hf : f < F.length) (hm : F.length ≤ 10) (hl : E.length ≤ 12) : f_X11_bestFrom (o3 f) (o3 t) (o3 n) mx S = some (GG F E tg mx (n - t) f) := by
  have hg1 : gI S 157 158 1 = some (o3 E.length) := (gI_o (k := 1) (by omega) (by omega)).trans (congrArg some m1.2.1)
  have key : ∀ d k nn x, k + d = E.length → d < nn → lp_X11_bestFrom_8 (o3 f) (o3 t) (o3 n) mx S (fun u13 => some u13) nn x (o3 k) = some (bs (gsv E (GG F E tg mx) (n - t) f) mx d k x) := by
    intro d
    induction d with
    | zero =>
      intro k nn x hk hnn
      obtain ⟨nn, rfl⟩ : ∃ z, nn = z + 1 := ⟨nn - 1, by omega⟩
      rw [lp_X11_bestFrom_8.eq_2, hg1, bd_some, if_pos ((o3_le (by omega) (by omega)).mpr (by omega))]
      rfl
    | succ d ih =>
      intro k nn x hk hnn
      obtain ⟨nn, rfl⟩ : ∃ z, nn = z + 1 := ⟨nn - 1, by omega⟩
      rw [lp_X11_bestFrom_8.eq_2, hg1, bd_some, if_neg (fun q => by have := (o3_le (by omega) (by omega)).mp q; omega), mg_stair m1 hE hT hn ht hf hm hl (by omega), bd_some, o3_s]
      refine (mg_pick (A := fun z => lp_X11_bestFrom_8 (o3 f) (o3 t) (o3 n) mx S (fun u13 => some u13) nn z (o3 (k + 1)))).trans ?_
      exact ih (k + 1) nn _ (by omega) (by omega)
  unfold f_X11_bestFrom
  obtain ⟨fu, hfu⟩ : ∃ z, FU = z + 1 := ⟨FU - 1, by have := FU_lt (d := 1) (by omega); omega⟩
  have hfu2 : E.length < fu := by have := FU_lt (d := E.length + 1) (by omega); omega
  rw [hfu, lp_X11_bestFrom_8.eq_2, hg1, bd_some, if_neg (show ¬ o3 E.length ≤ (-1 : Int32) from fun q => by have q := ni_le.mp q; rw [o3_int (by omega), show (-1 : Int32).toInt = -1 from rfl] at q; omega), mg_stay m1 hF hT hn ht hf hm, bd_some, show (-1 : Int32) + 1 = o3 0 from rfl]
  refine (mg_pick (A := fun z => lp_X11_bestFrom_8 (o3 f) (o3 t) (o3 n) mx S (fun u13 => some u13) fu z (o3 0))).trans ?_
  have hs : stv (GG F E tg mx (n - t - 1) f) (pc (F.getD f (0, 0))) < 0 → stv (GG F E tg mx (n - t - 1) f) (pc (F.getD f (0, 0))) = -1 := by
    refine stv_m1 (fun hg => ?_)
    have hp := pcn_le (hF _ (gd_mem (d := (0, 0)) hf))
    rcases GG_nb (tg := tg) (mx := mx) hF hE hm (n - t - 1) f (by omega) hf with e | ⟨g, e1, e2⟩
    · rw [e] at hg; exact absurd hg (by decide)
    · rw [e1, pc_o, o6_add]; exact o6_nn (by omega)
  rw [bt_m1 hs, key E.length 0 fu _ (by omega) hfu2]
  obtain ⟨h, e⟩ : ∃ h, n - t = h + 1 := ⟨n - t - 1, by omega⟩
  rw [e, GG_s hE, show h + 1 - 1 = h by omega]
end PM2
end
noncomputable section
theorem bs_mem {v : Nat → Int64} {mx : Int32} : ∀ d k x, bs v mx d k x = x ∨ ∃ j, k ≤ j ∧ j < k + d ∧ bs v mx d k x = v j := by
  intro d
  induction d with
  | zero => intro k x; exact Or.inl rfl
  | succ d ih =>
    intro k x
    have e : bs v mx (d + 1) k x = bs v mx d (k + 1) (bt mx (v k) x) := rfl
    have hb : bt mx (v k) x = v k ∨ bt mx (v k) x = x := by
      unfold bt
      split
      · exact Or.inr rfl
      · split
        · exact Or.inl rfl
        · split
          · split
            · exact Or.inr rfl
            · exact Or.inl rfl
          · split
            · exact Or.inr rfl
            · exact Or.inl rfl
    rcases ih (k + 1) (bt mx (v k) x) with h | ⟨j, j1, j2, j3⟩
    · rcases hb with h' | h'
      · exact Or.inr ⟨k, Nat.le_refl _, by omega, by rw [e, h, h']⟩
      · exact Or.inl (by rw [e, h, h'])
    · exact Or.inr ⟨j, by omega, by omega, by rw [e, j3]⟩
/-- the first one of that worth -/
def pf (v : Nat → Int64) (q : Int64) : Nat → Nat → Option Nat
  | 0, _ => none
  | d + 1, k => if v k = q then some k else pf v q d (k + 1)
theorem pf_ex {v : Nat → Int64} {q : Int64} : ∀ d k, (∃ j, k ≤ j ∧ j < k + d ∧ v j = q) → ∃ j, pf v q d k = some j ∧ j < k + d := by
  intro d
  induction d with
  | zero => intro k ⟨j, h1, h2, _⟩; omega
  | succ d ih =>
    intro k ⟨j, h1, h2, h3⟩
    have e : pf v q (d + 1) k = if v k = q then some k else pf v q d (k + 1) := rfl
    rw [e]
    by_cases h : v k = q
    · rw [if_pos h]; exact ⟨k, rfl, by omega⟩
    · rw [if_neg h]
      have : j ≠ k := fun z => h (z ▸ h3)
      obtain ⟨i, i1, i2⟩ := ih (k + 1) ⟨j, by omega, by omega, h3⟩
      exact ⟨i, i1, by omega⟩
section PM3
variable {F : List (Nat × Nat)} {E : List St5} {tg : Nat} {mx : Int32} {n : Nat}
theorem pn_57 {p1 p4 p5 : Int32} (htg : tg < 2147483648) (hn : n ≤ 120) {K : fS → Option (Int64 × fS)} : ∀ d k nn (S : fS), k + d = 10 → d < nn → (∀ j, j < k → S.2 162 (10 * n + j) = if j = tg then 0 else -1) → ∃ T, lp_X11_plan_57 p1 (o3 tg) (o3 n) p4 p5 K nn (o3 k) S = K T ∧ (∀ j, j < 10 → T.2 162 (10 * n + j) = if j = tg then 0 else -1) ∧ e162 S T := by
  intro d
  induction d with
  | zero =>
    intro k nn S hk hnn hj
    obtain ⟨nn, rfl⟩ : ∃ z, nn = z + 1 := ⟨nn - 1, by omega⟩
    rw [lp_X11_plan_57.eq_2, if_pos (show (10 : Int32) ≤ o3 k from (o3_le (a := 10) (by omega) (by omega)).mpr (by omega))]
    exact ⟨S, rfl, fun j h => hj j (by omega), e162.rf⟩
  | succ d ih =>
    intro k nn S hk hnn hj
    obtain ⟨nn, rfl⟩ : ∃ z, nn = z + 1 := ⟨nn - 1, by omega⟩
    have key : ∀ x, x = (if k = tg then (0 : Int64) else -1) → ∃ T, lp_X11_plan_57 p1 (o3 tg) (o3 n) p4 p5 K nn (o3 (k + 1)) (pL S 162 (10 * n + k) x) = K T ∧ (∀ j, j < 10 → T.2 162 (10 * n + j) = if j = tg then 0 else -1) ∧ e162 S T := fun x hx => by
      obtain ⟨T, t1, t2, t3⟩ := ih (k + 1) nn (pL S 162 (10 * n + k) x) (by omega) (by omega) (fun j h => by
        by_cases e : j = k
        · subst e; rw [pL_eq, hx]
        · rw [pL_ne (by omega)]; exact hj j (by omega))
      exact ⟨T, t1, t2, e162_p.tr t3⟩
    rw [lp_X11_plan_57.eq_2, if_neg (show ¬ (10 : Int32) ≤ o3 k from fun q => by have := (o3_le (a := 10) (by omega) (by omega)).mp q; omega), show (10 : Int32) = o3 10 from rfl, o3_mul, o3_add, sL_o (by omega) (by omega), sL_o (by omega) (by omega), bd_some, bd_some, o3_s]
    by_cases e : k = tg
    · rw [if_pos ((o3_inj (by omega) htg).mpr e)]
      exact key 0 (by rw [if_pos e])
    · rw [if_neg (fun q => e ((o3_inj (by omega) htg).mp q))]
      exact key (-1) (by rw [if_neg e])
theorem tbM_s {S : fS} {t : Nat} (hT : tbM F E tg mx n S (t + 1)) (hj : ∀ f, f < F.length → S.2 162 (10 * t + f) = GG F E tg mx (n - t) f) : tbM F E tg mx n S t := fun j f h1 h2 h3 => by
  by_cases e : j = t
  · rw [e]; exact hj f h3
  · exact hT j f (by omega) h2 h3
theorem pn_108 {p1 p5 : Int32} (hF : ∀ q ∈ F, okF q) (hE : ∀ q ∈ E, okS F.length q) (hm : F.length ≤ 10) (hl : E.length ≤ 12) (hn : n ≤ 120) {t : Nat} (ht : t < n) {K : fS → Option (Int64 × fS)} : ∀ d k nn (S : fS), k + d = F.length → d < nn → twM (S.1 157) F E → tbM F E tg mx n S (t + 1) → (∀ f, f < k → S.2 162 (10 * t + f) = GG F E tg mx (n - t) f) → ∃ T, lp_X11_plan_108 p1 (o3 n) mx p5 (o3 t) K nn (o3 k) S = K T ∧ tbM F E tg mx n T t ∧ e162 S T := by
  intro d
  induction d with
  | zero =>
    intro k nn S hk hnn m1 hT hj
    obtain ⟨nn, rfl⟩ : ∃ z, nn = z + 1 := ⟨nn - 1, by omega⟩
    rw [lp_X11_plan_108.eq_2, show gI S 157 158 0 = some (o3 F.length) from (gI_o (k := 0) (by omega) (by omega)).trans (congrArg some m1.1), bd_some, if_pos ((o3_le (by omega) (by omega)).mpr (by omega))]
    exact ⟨S, rfl, tbM_s hT (fun f hf => hj f (by omega)), e162.rf⟩
  | succ d ih =>
    intro k nn S hk hnn m1 hT hj
    obtain ⟨nn, rfl⟩ : ∃ z, nn = z + 1 := ⟨nn - 1, by omega⟩
    rw [lp_X11_plan_108.eq_2, show gI S 157 158 0 = some (o3 F.length) from (gI_o (k := 0) (by omega) (by omega)).trans (congrArg some m1.1), bd_some, if_neg (fun q => by have := (o3_le (by omega) (by omega)).mp q; omega), mg_best m1 hF hE hT hn ht (by omega) hm hl, bd_some, show (10 : Int32) = o3 10 from rfl, o3_mul, o3_add, sL_o (by omega) (by omega), bd_some, o3_s]
    obtain ⟨T, t1, t2, t3⟩ := ih (k + 1) nn (pL S 162 (10 * t + k) (GG F E tg mx (n - t) k)) (by omega) (by omega) m1 (fun j f h1 h2 h3 => by rw [pL_ne (by omega)]; exact hT j f h1 h2 h3) (fun f hf => by
      by_cases e : f = k
      · subst e; rw [pL_eq]
      · rw [pL_ne (by omega)]; exact hj f (by omega))
    exact ⟨T, t1, t2, e162_p.tr t3⟩
theorem pn_100 {p1 p5 : Int32} (hF : ∀ q ∈ F, okF q) (hE : ∀ q ∈ E, okS F.length q) (hm : F.length ≤ 10) (hl : E.length ≤ 12) (hn : n ≤ 120) {K : fS → Option (Int64 × fS)} : ∀ t nn (S : fS), t ≤ n → t < nn → twM (S.1 157) F E → tbM F E tg mx n S t → ∃ T, lp_X11_plan_100 p1 (o3 n) mx p5 K nn (o3 t - 1) S = K T ∧ tbM F E tg mx n T 0 ∧ e162 S T := by
  intro t
  induction t with
  | zero =>
    intro nn S htn hnn m1 hT
    obtain ⟨nn, rfl⟩ : ∃ z, nn = z + 1 := ⟨nn - 1, by omega⟩
    rw [lp_X11_plan_100.eq_2, if_pos (show o3 0 - 1 < (0 : Int32) by decide)]
    exact ⟨S, rfl, hT, e162.rf⟩
  | succ t ih =>
    intro nn S htn hnn m1 hT
    obtain ⟨nn, rfl⟩ : ∃ z, nn = z + 1 := ⟨nn - 1, by omega⟩
    rw [lp_X11_plan_100.eq_2, show o3 (t + 1) - 1 = o3 t from by rw [show (1 : Int32) = o3 1 from rfl, o3_sub (by omega)]; rfl, if_neg (o3_nn (by omega))]
    obtain ⟨T1, a1, a2, a3⟩ := pn_108 (tg := tg) (mx := mx) (p1 := p1) (p5 := p5) hF hE hm hl hn (t := t) (by omega) (K := fun S42 => lp_X11_plan_100 p1 (o3 n) mx p5 K nn (o3 t + (-1 : Int32)) S42) F.length 0 FU S (by omega) (FU_lt (by omega)) m1 hT (fun f hf => absurd hf (Nat.not_lt_zero _))
    obtain ⟨T, t1, t2, t3⟩ := ih nn T1 (by omega) (by omega) (by rw [a3.1]; exact m1) a2
    refine ⟨T, a1.trans ?_, t2, a3.tr t3⟩
    rw [show o3 t + (-1 : Int32) = o3 t - 1 from (Int32.sub_eq_add_neg _ _).symm]
    exact t1
theorem pn_218 {K : Int32 → fS → Option (Int64 × fS)} {S : fS} {f : Nat} {q : Int64} {i : Nat} (hby : ∀ k, k < E.length → f_X11_by (o3 f) 0 (o3 k) (o3 n) S = some (gsv E (GG F E tg mx) n f k)) : ∀ d k nn, k + d ≤ E.length → d < nn → pf (gsv E (GG F E tg mx) n f) q d k = some i → lp_X11_plan_218 (o3 n) (o3 f) q K nn (o3 k) S = K (o3 i) S := by
  intro d
  induction d with
  | zero => intro k nn _ _ h; exact nomatch h
  | succ d ih =>
    intro k nn hk hnn h
    obtain ⟨nn, rfl⟩ : ∃ z, nn = z + 1 := ⟨nn - 1, by omega⟩
    have e : pf (gsv E (GG F E tg mx) n f) q (d + 1) k = if gsv E (GG F E tg mx) n f k = q then some k else pf (gsv E (GG F E tg mx) n f) q d (k + 1) := rfl
    rw [e] at h
    rw [lp_X11_plan_218.eq_2, hby k (by omega), bd_some, o3_s]
    by_cases z : gsv E (GG F E tg mx) n f k = q
    · rw [if_pos z] at h ⊢
      obtain rfl := Option.some.inj h
      rfl
    · rw [if_neg z] at h ⊢
      exact ih (k + 1) nn (by omega) (by omega) h
theorem cf_34 {S : fS} {f : Nat} {q : Int64} {i : Nat} (hE2 : S.1 4 7 = o3 E.length) (hl : E.length ≤ 12) (hby : ∀ k, k < E.length → f_X1_gainByStair 4 (o3 n) (o3 f) (o3 k) S = some (gsv E (GG F E tg mx) n f k)) : ∀ d k nn, k + d ≤ E.length → d < nn → pf (gsv E (GG F E tg mx) n f) q d k = some i → lp_X1_firstStep_34 4 (o3 n) (o3 f) q S (fun _ => some (-2)) nn (o3 k) = some (o3 i) := by
  intro d
  induction d with
  | zero => intro k nn _ _ h; exact nomatch h
  | succ d ih =>
    intro k nn hk hnn h
    obtain ⟨nn, rfl⟩ : ∃ z, nn = z + 1 := ⟨nn - 1, by omega⟩
    have e : pf (gsv E (GG F E tg mx) n f) q (d + 1) k = if gsv E (GG F E tg mx) n f k = q then some k else pf (gsv E (GG F E tg mx) n f) q d (k + 1) := rfl
    rw [e] at h
    rw [lp_X1_firstStep_34.eq_2, hE2, if_neg (fun q => by have := (o3_le (by omega) (by omega)).mp q; omega), hby k (by omega), bd_some, o3_s]
    by_cases z : gsv E (GG F E tg mx) n f k = q
    · rw [if_pos z] at h ⊢
      obtain rfl := Option.some.inj h
      rfl
    · rw [if_neg z] at h ⊢
      exact ih (k + 1) nn (by omega) (by omega) h
end PM3
/-- what measuring leaves alike -/
theorem meas_rel {S S1 S2 : fS} (hR : Rel S) (e1 : e44 S S1) (e2 : e162 S1 S2) : Rel S2 := by
  obtain ⟨n, s, L, M, hT, hS, hL, hM⟩ := hR
  have k1 : ∀ a k, S2.1 a k = S.1 a k := fun a k => by rw [e2.1, e1.1]
  have k2 : ∀ a k, a ≠ 44 → a ≠ 162 → S2.2 a k = S.2 a k := fun a k x y => (e2.2 a k y).trans (e1.2 a k x)
  refine ⟨n, s, L, M, ?_, ?_, ?_, ?_⟩
  · exact rTp_eq hT (k1 _ _) (k1 _ _) (fun k => k1 _ _) (fun k => k1 _ _)
  · exact rSc_eq hS (fun a k _ _ => k1 a k) (fun a k _ _ => k2 a k (by omega) (by omega)) (by rw [k1 3 3]; exact hS.2.1.2.2.2.2) (fun k => k1 _ _) (fun a k _ => k2 a k (by omega) (by omega))
  · exact rRu_eq hL (k1 _ _) (k1 _ _) (fun a k _ _ _ => k1 a k) (fun a k _ => k1 a k)
  · exact rIm_eq hM (fun a k _ _ => k1 a k) (fun a k _ _ => k2 a k (by omega) (by omega)) (fun k => k1 _ _) (fun k => k2 _ k (by omega) (by omega)) (fun k => k1 _ _)
theorem t_16 (a1 a2 a3 a4 a5 : Int32) (S : fS) (hR : Rel S) : ∃ r S1 S2, f_X10_plan a1 a2 a3 a4 a5 S = some (r, S1) ∧ f_X11_plan a1 a2 a3 a4 a5 S1 = some (r, S2) ∧ Rel S2 := by
  have hR0 := hR
  obtain ⟨n', s, L, M, hT, ⟨⟨n1, n2, n3, n4, n5, n6⟩, ⟨b1, b2, b3, b4, b5⟩, ⟨m1, m2, m3, m4⟩, d⟩, hL, hM⟩ := hR
  have h8 := n5.1
  have i1 : f_X10_isFrom a3 0 120 S = some (if ((0 : Nat) : Int) ≤ a3.toInt ∧ a3.toInt ≤ ((120 : Nat) : Int) then 1 else 0) := from_c (a := 0) (b := 120) (by omega) (by omega)
  have i2 : f_X10_isFrom a5 0 2 S = some (if ((0 : Nat) : Int) ≤ a5.toInt ∧ a5.toInt ≤ ((2 : Nat) : Int) then 1 else 0) := from_c (a := 0) (b := 2) (by omega) (by omega)
  have j1 : ∀ T : fS, f_X11_in (Int32.toInt64 a3) 0 120 T = some (if ((0 : Nat) : Int) ≤ a3.toInt ∧ a3.toInt ≤ ((120 : Nat) : Int) then 1 else 0) := fun T => in_c (a := 0) (b := 120) (by omega) (by omega)
  have j2 : ∀ T : fS, f_X11_in (Int32.toInt64 a5) 0 2 T = some (if ((0 : Nat) : Int) ≤ a5.toInt ∧ a5.toInt ≤ ((2 : Nat) : Int) then 1 else 0) := fun T => in_c (a := 0) (b := 2) (by omega) (by omega)
  have no : f_X10_plan a1 a2 a3 a4 a5 S = some (-1, S) → f_X11_plan a1 a2 a3 a4 a5 S = some (-1, S) → ∃ r S1 S2, f_X10_plan a1 a2 a3 a4 a5 S = some (r, S1) ∧ f_X11_plan a1 a2 a3 a4 a5 S1 = some (r, S2) ∧ Rel S2 := fun h g => ⟨-1, S, S, h, g, hR0⟩
  by_cases h1 : ¬ (0 ≤ a1.toInt ∧ a1.toInt < s.2.2.1.1)
  · refine no ?_ ?_
    · unfold f_X10_plan f_X10_isStanding; rw [ci_thing b3.1 (by omega), bd_some, if_neg h1, if_pos rfl, bd_some, if_pos rfl]
    · unfold f_X11_plan; rw [mi_thing m2.1 (by omega), bd_some, if_neg h1, if_pos rfl]
  have h1 := Decidable.not_not.mp h1
  obtain ⟨th, e1, e2⟩ := o3_ex h1.1
  have hth : th < s.2.2.1.1 := by omega
  have cStand : f_X10_isStanding (o3 th) S = some (if s.2.2.1.2.2.1 th < 0 then 0 else 1) := by
    unfold f_X10_isStanding f_X0_isStanding
    rw [ci_thing b3.1 (by omega), bd_some, ← e1, if_pos h1, if_neg (show ¬ (1 : Int32) = 0 by decide), e1, gI_o (by omega) (by omega), bd_some, show S.1 (11 + 1) th = _ from (b3.2.2 th hth).1]
    by_cases z : s.2.2.1.2.2.1 th < 0
    · rw [if_pos z, if_pos z, bd_some, if_pos rfl]
    · rw [if_neg z, if_neg z, bd_some, if_neg (by decide)]
  have mTh : ∀ T : fS, T.1 = S.1 → f_X11_thingOf (o3 th) 0 T = some (s.2.2.1.2.2.1 th) := fun T hTT => (mw_thing (a := 0) (by omega) (by omega)).trans (congrArg some (by rw [hTT]; exact (m2.2.2 th hth).1))
  have mIs : ∀ T : fS, T.1 = S.1 → f_X11_isThing (o3 th) T = some 1 := fun T hTT => by rw [mi_thing (m := s.2.2.1.1) (by rw [hTT]; exact m2.1) (by omega), ← e1, if_pos h1]
  by_cases h0 : s.2.2.1.2.2.1 th < 0
  · refine no ?_ ?_
    · unfold f_X10_plan; rw [e1, cStand, if_pos h0, bd_some, if_pos rfl]
    · unfold f_X11_plan; rw [e1, mIs S rfl, bd_some, if_neg (show ¬ (1 : Int32) = 0 by decide), mTh S rfl, bd_some, if_pos h0]
  obtain ⟨f, f1, f2⟩ := okT_nn (n5.2.2 th hth).1 n1 h0
  by_cases h2 : ¬ (0 ≤ a2.toInt ∧ a2.toInt < s.1.length)
  · refine no ?_ ?_
    · unfold f_X10_plan; rw [e1, cStand, if_neg h0, bd_some, if_neg (show ¬ (1 : Int32) = 0 by decide), ci_floor b1.1 (by omega), bd_some, if_neg h2, if_pos rfl]
    · unfold f_X11_plan; rw [e1, mIs S rfl, bd_some, if_neg (show ¬ (1 : Int32) = 0 by decide), mTh S rfl, bd_some, if_neg h0, mi_floor m1.1 (by omega), bd_some, if_neg h2, if_pos rfl]
  have h2 := Decidable.not_not.mp h2
  by_cases h3 : ¬ (((0 : Nat) : Int) ≤ a3.toInt ∧ a3.toInt ≤ ((120 : Nat) : Int))
  · refine no ?_ ?_
    · unfold f_X10_plan; rw [e1, cStand, if_neg h0, bd_some, if_neg (show ¬ (1 : Int32) = 0 by decide), ci_floor b1.1 (by omega), bd_some, if_pos h2, if_neg (show ¬ (1 : Int32) = 0 by decide), i1, bd_some, if_neg h3, if_pos rfl]
    · unfold f_X11_plan; rw [e1, mIs S rfl, bd_some, if_neg (show ¬ (1 : Int32) = 0 by decide), mTh S rfl, bd_some, if_neg h0, mi_floor m1.1 (by omega), bd_some, if_pos h2, if_neg (show ¬ (1 : Int32) = 0 by decide), j1, bd_some, if_neg h3, if_pos rfl]
  have h3 := Decidable.not_not.mp h3
  by_cases h5 : ¬ (((0 : Nat) : Int) ≤ a5.toInt ∧ a5.toInt ≤ ((2 : Nat) : Int))
  · refine no ?_ ?_
    · unfold f_X10_plan; rw [e1, cStand, if_neg h0, bd_some, if_neg (show ¬ (1 : Int32) = 0 by decide), ci_floor b1.1 (by omega), bd_some, if_pos h2, if_neg (show ¬ (1 : Int32) = 0 by decide), i1, bd_some, if_pos h3, if_neg (show ¬ (1 : Int32) = 0 by decide), i2, bd_some, if_neg h5, if_pos rfl]
    · unfold f_X11_plan; rw [e1, mIs S rfl, bd_some, if_neg (show ¬ (1 : Int32) = 0 by decide), mTh S rfl, bd_some, if_neg h0, mi_floor m1.1 (by omega), bd_some, if_pos h2, if_neg (show ¬ (1 : Int32) = 0 by decide), j1, bd_some, if_pos h3, if_neg (show ¬ (1 : Int32) = 0 by decide), j2, bd_some, if_neg h5, if_pos rfl]
  have h5 := Decidable.not_not.mp h5
  obtain ⟨tg, e3, e4⟩ := o3_ex h2.1
  have htg : tg < s.1.length := by omega
  obtain ⟨n, e5, e6⟩ := o3_ex (x := a3) (by omega)
  have hn : n ≤ 120 := by omega
  obtain ⟨S1, c1, c2, c3⟩ := c_meas (mx := a4) b1 n4 n1 n2 hn htg
  obtain ⟨ag, g1, g2⟩ := age_o n5 hth
  have hnb := GG_nb (tg := tg) (mx := a4) n3 n4 n1 n f hn f1
  have gc : gL S1 16 8 (o3 th) = some (o6 ag) := (gL_o (by omega) (by omega)).trans (congrArg some ((c3.2 16 th (by omega)).trans (((b3.2.2 th hth).2.2.2.2).trans g1)))
  /- the reference's table -/
  have mtab : ∀ K : fS → Option (Int64 × fS), ∃ T, lp_X11_plan_57 (o3 th) (o3 tg) (o3 n) a4 a5 (fun S29 => lp_X11_plan_100 (o3 th) (o3 n) a4 a5 K FU (o3 n - (1 : Int32)) S29) FU (0 : Int32) S1 = K T ∧ tbM s.1 s.2.1 tg a4 n T 0 ∧ e162 S1 T := fun K => by
    obtain ⟨T1, t1, t2, t3⟩ := pn_57 (tg := tg) (n := n) (p1 := o3 th) (p4 := a4) (p5 := a5) (by omega) hn (K := fun S29 => lp_X11_plan_100 (o3 th) (o3 n) a4 a5 K FU (o3 n - (1 : Int32)) S29) 10 0 FU S1 (by omega) (FU_lt (by omega)) (fun j hj => absurd hj (Nat.not_lt_zero _))
    obtain ⟨T, u1, u2, u3⟩ := pn_100 (F := s.1) (E := s.2.1) (tg := tg) (mx := a4) (n := n) (p1 := o3 th) (p5 := a5) n3 n4 n1 n2 hn (K := K) n FU T1 (Nat.le_refl _) (FU_lt (by omega)) (by rw [t3.1, c3.1]; exact m1) (fun j g h1 h2 h3 => by
      have : j = n := by omega
      subst this
      rw [t2 g (by omega), Nat.sub_self, GG_0])
    exact ⟨T, t1.trans u1, u2, t3.tr u3⟩
  have mPre : ∀ K' : fS → Option (Int64 × fS), K' = (fun S44 => (f_X11_thingOf (o3 th) (0 : Int32) S44).bind fun q46 =>
  (gL S44 162 1210 q46).bind fun a49 =>
  if (0 : Int64) ≤ a49 then (if (2 : Int32) ≤ a5 then (if o3 n = (0 : Int32) then (some ((-4 : Int64), S44)) else
  (lp_X11_plan_218 (o3 n) q46 a49 (fun u59 S60 => if (0 : Int32) ≤ u59 then (some ((Int32.toInt64 u59), S60)) else
  (some ((-3 : Int64), S60))) FU (-1 : Int32) S44)) else
  ((gL S44 158 8 (o3 th)).bind fun a63 =>
  (f_X11_lowest (a63 + a49) (232792560 : Int64) a5 S44).bind fun q66 =>
  some (q66, S44))) else
  (some ((-2 : Int64), S44))) → f_X11_plan a1 a2 a3 a4 a5 S1 = lp_X11_plan_57 (o3 th) (o3 tg) (o3 n) a4 a5 (fun S29 => lp_X11_plan_100 (o3 th) (o3 n) a4 a5 K' FU (o3 n - (1 : Int32)) S29) FU (0 : Int32) S1 := fun K' hK => by
    subst hK
    unfold f_X11_plan
    rw [e1, mIs S1 c3.1, bd_some, if_neg (show ¬ (1 : Int32) = 0 by decide), mTh S1 c3.1, bd_some, if_neg h0, mi_floor (m := s.1.length) (by rw [c3.1]; exact m1.1) (by omega), bd_some, if_pos h2, if_neg (show ¬ (1 : Int32) = 0 by decide), j1, bd_some, if_pos h3, if_neg (show ¬ (1 : Int32) = 0 by decide), j2, bd_some, if_pos h5, if_neg (show ¬ (1 : Int32) = 0 by decide), e3, e5]
  obtain ⟨S2, t1, t2, t3⟩ := mtab _
  have mFin := (mPre _ rfl).trans t1
  clear mPre mtab
  have e157 : S2.1 = S.1 := t3.1.trans c3.1
  have g162 : gL S2 162 1210 (o3 f) = some (GG s.1 s.2.1 tg a4 n f) := by
    have := t2 0 f (by omega) (by omega) f1
    rw [show 10 * 0 + f = f by omega, Nat.sub_zero] at this
    exact (gL_o (by omega) (by omega)).trans (congrArg some this)
  have gm : gL S2 158 8 (o3 th) = some (o6 ag) := (gL_o (by omega) (by omega)).trans (congrArg some ((t3.2 158 th (by omega)).trans ((c3.2 158 th (by omega)).trans (((m2.2.2 th hth).2.2.2.2).trans g1))))
  rw [mTh S2 e157, bd_some, f2, g162, bd_some] at mFin
  have hrel := meas_rel hR0 c3 t3
  have cFin : f_X10_plan a1 a2 a3 a4 a5 S = (if (0 : Int64) ≤ GG s.1 s.2.1 tg a4 n f then (if a5 = (2 : Int32) then ((f_X1_firstStep 4 (o3 n) (o3 f) S1).bind fun q34 => some ((Int32.toInt64 q34), S1)) else ((gL S1 16 8 (o3 th)).bind fun a28 => (f_X10_lowest (a28 + GG s.1 s.2.1 tg a4 n f) (232792560 : Int64) a5 S1).bind fun q31 => some (q31, S1))) else (some ((-2 : Int64), S1))) := by
    unfold f_X10_plan
    rw [e1, cStand, if_neg h0, bd_some, if_neg (show ¬ (1 : Int32) = 0 by decide), ci_floor b1.1 (by omega), bd_some, if_pos h2, if_neg (show ¬ (1 : Int32) = 0 by decide), i1, bd_some, if_pos h3, if_neg (show ¬ (1 : Int32) = 0 by decide), i2, bd_some, if_pos h5, if_neg (show ¬ (1 : Int32) = 0 by decide), gI_o (by omega) (by omega), bd_some, show S.1 12 th = s.2.2.1.2.2.1 th from (b3.2.2 th hth).1, f2, e3, e5, c1, bd_some, cg_of c2 (Nat.le_refl _) hn f1 n1, bd_some]
  rw [cFin]
  rcases hnb with e | ⟨g, q1, q2⟩
  · rw [e] at mFin ⊢
    rw [if_neg (show ¬ (0 : Int64) ≤ -1 by decide)] at mFin ⊢
    exact ⟨-2, S1, S2, rfl, mFin, hrel⟩
  · have hpos : (0 : Int64) ≤ GG s.1 s.2.1 tg a4 n f := by rw [q1]; exact o6_0le (by omega)
    rw [if_pos hpos] at mFin ⊢
    by_cases z2 : a5 = 2
    · rw [if_pos (show (2 : Int32) ≤ a5 by rw [z2]; decide)] at mFin
      rw [if_pos z2]
      unfold f_X1_firstStep
      by_cases zn : n = 0
      · rw [if_pos (show o3 n = (0 : Int32) by rw [zn]; rfl)] at mFin ⊢
        exact ⟨_, S1, S2, rfl, mFin, hrel⟩
      · have zn' : ¬ o3 n = (0 : Int32) := fun q => zn ((o3_inj (b := 0) (by omega) (by omega)).mp q)
        rw [if_neg zn'] at mFin ⊢
        obtain ⟨h, hh⟩ : ∃ h, n = h + 1 := ⟨n - 1, by omega⟩
        have b1' : twC S1 4 s.1 s.2.1 := twC_44 b1 c3
        have c2' : tbC s.1 s.2.1 tg a4 S1 h := fun j g h1 h2 => c2 j g (by omega) h2
        have hT' : tbM s.1 s.2.1 tg a4 n S2 (0 + 1) := fun j g h1 h2 h3 => t2 j g (by omega) h2 h3
        have m1' : twM (S2.1 157) s.1 s.2.1 := by rw [e157]; exact m1
        obtain ⟨fu, hfu⟩ : ∃ z, FU = z + 1 := ⟨FU - 1, by have := FU_lt (d := 1) (by omega); omega⟩
        have hfu2 : s.2.1.length < fu := by have := FU_lt (d := s.2.1.length + 1) (by omega); omega
        have hst : stv (GG s.1 s.2.1 tg a4 (n - 0 - 1) f) (pc (s.1.getD f (0, 0))) = stv (GG s.1 s.2.1 tg a4 h f) (pc (s.1.getD f (0, 0))) := by rw [show n - 0 - 1 = h by omega]
        have mby : f_X11_by (o3 f) 0 (-1) (o3 n) S2 = some (stv (GG s.1 s.2.1 tg a4 h f) (pc (s.1.getD f (0, 0)))) := (mg_stay (t := 0) m1' n3 hT' hn (by omega) f1 n1).trans (congrArg some hst)
        rw [hfu, lp_X11_plan_218.eq_2, mby, bd_some] at mFin
        rw [cg_of c2 (Nat.le_refl _) hn f1 n1, bd_some]
        have hcs : f_X1_gainByStaying 4 (o3 n) (o3 f) S1 = some (stv (GG s.1 s.2.1 tg a4 h f) (pc (s.1.getD f (0, 0)))) := by rw [hh]; exact cg_stay b1' c2' (by omega) f1 n1
        rw [hcs, bd_some]
        by_cases zs : stv (GG s.1 s.2.1 tg a4 h f) (pc (s.1.getD f (0, 0))) = GG s.1 s.2.1 tg a4 n f
        · rw [if_pos zs] at mFin ⊢
          rw [if_neg (show ¬ (0 : Int32) ≤ -1 by decide)] at mFin
          exact ⟨_, S1, S2, rfl, mFin, hrel⟩
        · rw [if_neg zs] at mFin ⊢
          rw [show (-1 : Int32) + 1 = o3 0 from rfl] at mFin
          have hmem : ∃ j, 0 ≤ j ∧ j < 0 + s.2.1.length ∧ gsv s.2.1 (GG s.1 s.2.1 tg a4) n f j = GG s.1 s.2.1 tg a4 n f := by
            have hg : GG s.1 s.2.1 tg a4 n f = bs (gsv s.2.1 (GG s.1 s.2.1 tg a4) n f) a4 s.2.1.length 0 (stv (GG s.1 s.2.1 tg a4 h f) (pc (s.1.getD f (0, 0)))) := by rw [hh]; exact GG_s n4
            rcases bs_mem (v := gsv s.2.1 (GG s.1 s.2.1 tg a4) n f) (mx := a4) s.2.1.length 0 (stv (GG s.1 s.2.1 tg a4 h f) (pc (s.1.getD f (0, 0)))) with w | ⟨j, w1, w2, w3⟩
            · exact absurd (w.symm.trans hg.symm) zs
            · exact ⟨j, w1, w2, by rw [hg]; exact w3.symm⟩
          obtain ⟨i, p1, p2⟩ := pf_ex s.2.1.length 0 hmem
          have hc34 : lp_X1_firstStep_34 4 (o3 n) (o3 f) (GG s.1 s.2.1 tg a4 n f) S1 (fun _ => some (-2)) FU (0 : Int32) = some (o3 i) := cf_34 (F := s.1) (E := s.2.1) (tg := tg) (mx := a4) b1'.2.1 n2 (fun k hk => by rw [hh]; exact cg_stair b1' n4 c2' (by omega) f1 n1 n2 hk) s.2.1.length 0 FU (by omega) (FU_lt (by omega)) p1
          rw [hc34, bd_some]
          rw [pn_218 (F := s.1) (E := s.2.1) (tg := tg) (mx := a4) (n := n) (S := S2) (f := f) (q := GG s.1 s.2.1 tg a4 n f) (i := i) (fun k hk => (mg_stair (t := 0) m1' n4 hT' hn (by omega) f1 n1 n2 hk).trans (by rw [Nat.sub_zero])) s.2.1.length 0 fu (by omega) hfu2 p1, if_pos (o3_0le (by omega))] at mFin
          exact ⟨_, S1, S2, rfl, mFin, hrel⟩
    · have z2' : ¬ (2 : Int32) ≤ a5 := fun q => z2 (ni_eq.mpr (by have q := ni_le.mp q; rw [show (2 : Int32).toInt = 2 from rfl] at q ⊢; omega))
      rw [if_neg z2', gm, bd_some, q1, o6_add, show (232792560 : Int64) = o6 232792560 from rfl, m_low (by omega) (by omega) (by omega), bd_some] at mFin
      rw [if_neg z2, gc, bd_some, q1, o6_add, show (232792560 : Int64) = o6 232792560 from rfl, c_low (by omega) (by omega) (by omega), bd_some]
      exact ⟨_, S1, S2, rfl, mFin, hrel⟩
end
noncomputable section
/-! waiting() -/
/-- is the new one taken? -/
def tk1 (mx : Int32) (x y : Int64) : Bool := decide (¬ x < 0 ∧ (y < 0 ∨ (mx = 0 ∧ ¬ y ≤ x) ∨ (¬ mx = 0 ∧ ¬ x ≤ y)))
theorem c_tk {mx : Int32} {x y : Int64} {S : fS} : f_X1_isBetter x y mx S = some (if tk1 mx x y = true then 1 else 0) := by
  unfold f_X1_isBetter tk1
  by_cases h1 : x < 0
  · rw [if_pos h1, if_pos h1, if_neg (by rw [decide_eq_true_eq]; exact fun q => q.1 h1)]
  · rw [if_neg h1]
    by_cases h2 : y < 0
    · rw [if_neg (show ¬ (0 : Int64) ≤ y by rw [nl_lt] at h2; rw [nl_le]; omega), if_neg h1, if_pos (by rw [decide_eq_true_eq]; exact ⟨h1, Or.inl h2⟩)]
    · rw [if_pos (show (0 : Int64) ≤ y by rw [nl_lt] at h2; rw [nl_le]; omega)]
      by_cases h3 : mx = 0
      · rw [if_pos h3]
        by_cases h4 : y ≤ x
        · rw [if_pos h4, if_neg (by rw [decide_eq_true_eq]; rintro ⟨_, q | q | q⟩; exact h2 q; exact q.2 h4; exact q.1 h3)]
        · rw [if_neg h4, if_pos (by rw [decide_eq_true_eq]; exact ⟨h1, Or.inr (Or.inl ⟨h3, h4⟩)⟩)]
      · rw [if_neg h3]
        by_cases h4 : x ≤ y
        · rw [if_pos h4, if_neg (by rw [decide_eq_true_eq]; rintro ⟨_, q | q | q⟩; exact h2 q; exact h3 q.1; exact q.2 h4)]
        · rw [if_neg h4, if_pos (by rw [decide_eq_true_eq]; exact ⟨h1, Or.inr (Or.inr ⟨h3, h4⟩)⟩)]
theorem m_tk {mx : Int32} {x y : Int64} {S : fS} {β : Type} {A B : Option β} : (if x < (0 : Int64) then A else ((f_X11_isBetter x y mx S).bind fun q49 => if q49 = (0 : Int32) then A else B)) = if tk1 mx x y = true then B else A := by
  unfold f_X11_isBetter tk1
  by_cases h1 : x < 0
  · rw [if_pos h1, if_neg (by rw [decide_eq_true_eq]; exact fun q => q.1 h1)]
  · rw [if_neg h1]
    by_cases h2 : y < 0
    · rw [if_pos h2, bd_some, if_neg (by decide), if_pos (by rw [decide_eq_true_eq]; exact ⟨h1, Or.inl h2⟩)]
    · rw [if_neg h2]
      by_cases h3 : mx = 0
      · rw [if_pos h3]
        by_cases h4 : y ≤ x
        · rw [if_pos h4, bd_some, if_pos rfl, if_neg (by rw [decide_eq_true_eq]; rintro ⟨_, q | q | q⟩; exact h2 q; exact q.2 h4; exact q.1 h3)]
        · rw [if_neg h4, bd_some, if_neg (by decide), if_pos (by rw [decide_eq_true_eq]; exact ⟨h1, Or.inr (Or.inl ⟨h3, h4⟩)⟩)]
      · rw [if_neg h3]
        by_cases h4 : x ≤ y
        · rw [if_pos h4, bd_some, if_pos rfl, if_neg (by rw [decide_eq_true_eq]; rintro ⟨_, q | q | q⟩; exact h2 q; exact h3 q.1; exact q.2 h4)]
        · rw [if_neg h4, bd_some, if_neg (by decide), if_pos (by rw [decide_eq_true_eq]; exact ⟨h1, Or.inr (Or.inr ⟨h3, h4⟩)⟩)]
/-- the class's choice: from floor k on, i held -/
def bc (v : Nat → Int64) (mx : Int32) : Nat → Nat → Nat → Nat
  | 0, _, i => i
  | d + 1, k, i => bc v mx d (k + 1) (if tk1 mx (v k) (v i) = true then k else i)
/-- the reference's choice: floor held (or -1) and its worth -/
def bm (v : Nat → Int64) (mx : Int32) : Nat → Nat → Int32 → Int64 → Int32
  | 0, _, i, _ => i
  | d + 1, k, i, y => if tk1 mx (v k) y = true then bm v mx d (k + 1) (o3 k) (v k) else bm v mx d (k + 1) i y
theorem bm_bc {v : Nat → Int64} {mx : Int32} : ∀ d k i, bm v mx d k (o3 i) (v i) = o3 (bc v mx d k i) := by
  intro d
  induction d with
  | zero => intro k i; rfl
  | succ d ih =>
    intro k i
    show (if tk1 mx (v k) (v i) = true then bm v mx d (k + 1) (o3 k) (v k) else bm v mx d (k + 1) (o3 i) (v i)) = o3 (bc v mx d (k + 1) (if tk1 mx (v k) (v i) = true then k else i))
    by_cases h : tk1 mx (v k) (v i) = true
    · rw [if_pos h, if_pos h]; exact ih (k + 1) k
    · rw [if_neg h, if_neg h]; exact ih (k + 1) i
theorem tk_m1 {mx : Int32} {x y z : Int64} (hy : y < 0) (hz : z < 0) : tk1 mx x y = tk1 mx x z := by
  unfold tk1
  by_cases h1 : x < 0
  · rw [decide_eq_false (fun q => q.1 h1), decide_eq_false (fun q => q.1 h1)]
  · rw [decide_eq_true (show ¬ x < 0 ∧ _ from ⟨h1, Or.inl hy⟩), decide_eq_true (show ¬ x < 0 ∧ _ from ⟨h1, Or.inl hz⟩)]
/-- where some floor can be come to, both choose alike -/
theorem bm_eq {v : Nat → Int64} {mx : Int32} : ∀ d k, (∃ j, k ≤ j ∧ j < k + d ∧ ¬ v j < 0) → ∀ i, v i < 0 → bm v mx d k (-1) (-1) = o3 (bc v mx d k i) := by
  intro d
  induction d with
  | zero => intro k ⟨j, h1, h2, _⟩; omega
  | succ d ih =>
    intro k ⟨j, h1, h2, h3⟩ i hi
    show (if tk1 mx (v k) (-1) = true then bm v mx d (k + 1) (o3 k) (v k) else bm v mx d (k + 1) (-1) (-1)) = o3 (bc v mx d (k + 1) (if tk1 mx (v k) (v i) = true then k else i))
    rw [tk_m1 (y := -1) (z := v i) (by decide) hi]
    by_cases h : tk1 mx (v k) (v i) = true
    · rw [if_pos h, if_pos h]; exact bm_bc d (k + 1) k
    · rw [if_neg h, if_neg h]
      have hk : v k < 0 := by
        refine Decidable.byContradiction fun q => h ?_
        unfold tk1
        rw [decide_eq_true_eq]
        exact ⟨q, Or.inl hi⟩
      have : j ≠ k := fun z => h3 (z ▸ hk)
      exact ih (k + 1) ⟨j, by omega, by omega, h3⟩ i hi
section WT
variable {F : List (Nat × Nat)} {E : List St5} {tg : Nat} {mx : Int32} {n : Nat}
theorem c_bf {S : fS} (b1 : twC S 4 F E) (hT : tbC F E tg mx S n) (hn : n ≤ 120) (hm : F.length ≤ 10) (h1 : 0 < F.length) : f_X1_bestFloor 4 (o3 n) mx S = some (o3 (bc (fun f => GG F E tg mx n f) mx (F.length - 1) 1 0)) := by
  have key : ∀ d k nn i, k + d = F.length → d < nn → i < F.length → lp_X1_bestFloor_6 4 (o3 n) mx S (fun u12 => some u12) nn (o3 i) (o3 k) = some (o3 (bc (fun f => GG F E tg mx n f) mx d k i)) := by
    intro d
    induction d with
    | zero =>
      intro k nn i hk hnn hi
      obtain ⟨nn, rfl⟩ : ∃ z, nn = z + 1 := ⟨nn - 1, by omega⟩
      rw [lp_X1_bestFloor_6.eq_2, b1.1, if_pos ((o3_le (by omega) (by omega)).mpr (by omega))]
      rfl
    | succ d ih =>
      intro k nn i hk hnn hi
      obtain ⟨nn, rfl⟩ : ∃ z, nn = z + 1 := ⟨nn - 1, by omega⟩
      have he : bc (fun f => GG F E tg mx n f) mx (d + 1) k i = bc (fun f => GG F E tg mx n f) mx d (k + 1) (if tk1 mx (GG F E tg mx n k) (GG F E tg mx n i) = true then k else i) := rfl
      rw [lp_X1_bestFloor_6.eq_2, b1.1, if_neg (fun q => by have := (o3_le (by omega) (by omega)).mp q; omega), cg_of hT (Nat.le_refl _) hn (by omega) hm, bd_some, cg_of hT (Nat.le_refl _) hn hi hm, bd_some, c_tk, bd_some, o3_s, he]
      by_cases h : tk1 mx (GG F E tg mx n k) (GG F E tg mx n i) = true
      · rw [if_pos h, if_pos h, if_neg (by decide)]
        exact ih (k + 1) nn k (by omega) (by omega) (by omega)
      · rw [if_neg h, if_neg h, if_pos rfl]
        exact ih (k + 1) nn i (by omega) (by omega) hi
  exact key (F.length - 1) 1 FU 0 (by omega) (FU_lt (by omega)) h1
theorem wn_56 {p1 p3 p4 : Int32} {p5 : Int64} (htg : tg < 2147483648) (hn : n ≤ 120) {K : fS → Option (Int32 × fS)} : ∀ d k nn (S : fS), k + d = 10 → d < nn → (∀ j, j < k → S.2 162 (10 * n + j) = if j = tg then 0 else -1) → ∃ T, lp_X11_waiting_56 p1 (o3 n) p3 p4 p5 (o3 tg) K nn (o3 k) S = K T ∧ (∀ j, j < 10 → T.2 162 (10 * n + j) = if j = tg then 0 else -1) ∧ e162 S T := by
  intro d
  induction d with
  | zero =>
    intro k nn S hk hnn hj
    obtain ⟨nn, rfl⟩ : ∃ z, nn = z + 1 := ⟨nn - 1, by omega⟩
    rw [lp_X11_waiting_56.eq_2, if_pos (show (10 : Int32) ≤ o3 k from (o3_le (a := 10) (by omega) (by omega)).mpr (by omega))]
    exact ⟨S, rfl, fun j h => hj j (by omega), e162.rf⟩
  | succ d ih =>
    intro k nn S hk hnn hj
    obtain ⟨nn, rfl⟩ : ∃ z, nn = z + 1 := ⟨nn - 1, by omega⟩
    have key : ∀ x, x = (if k = tg then (0 : Int64) else -1) → ∃ T, lp_X11_waiting_56 p1 (o3 n) p3 p4 p5 (o3 tg) K nn (o3 (k + 1)) (pL S 162 (10 * n + k) x) = K T ∧ (∀ j, j < 10 → T.2 162 (10 * n + j) = if j = tg then 0 else -1) ∧ e162 S T := fun x hx => by
      obtain ⟨T, t1, t2, t3⟩ := ih (k + 1) nn (pL S 162 (10 * n + k) x) (by omega) (by omega) (fun j h => by
        by_cases e : j = k
        · subst e; rw [pL_eq, hx]
        · rw [pL_ne (by omega)]; exact hj j (by omega))
      exact ⟨T, t1, t2, e162_p.tr t3⟩
    rw [lp_X11_waiting_56.eq_2, if_neg (show ¬ (10 : Int32) ≤ o3 k from fun q => by have := (o3_le (a := 10) (by omega) (by omega)).mp q; omega), show (10 : Int32) = o3 10 from rfl, o3_mul, o3_add, sL_o (by omega) (by omega), sL_o (by omega) (by omega), bd_some, bd_some, o3_s]
    by_cases e : k = tg
    · rw [if_pos ((o3_inj (by omega) htg).mpr e)]
      exact key 0 (by rw [if_pos e])
    · rw [if_neg (fun q => e ((o3_inj (by omega) htg).mp q))]
      exact key (-1) (by rw [if_neg e])
theorem wn_108 {p1 p4 p7 : Int32} {p5 : Int64} (hF : ∀ q ∈ F, okF q) (hE : ∀ q ∈ E, okS F.length q) (hm : F.length ≤ 10) (hl : E.length ≤ 12) (hn : n ≤ 120) {t : Nat} (ht : t < n) {K : fS → Option (Int32 × fS)} : ∀ d k nn (S : fS), k + d = F.length → d < nn → twM (S.1 157) F E → tbM F E tg mx n S (t + 1) → (∀ f, f < k → S.2 162 (10 * t + f) = GG F E tg mx (n - t) f) → ∃ T, lp_X11_waiting_108 p1 (o3 n) mx p4 p5 p7 (o3 t) K nn (o3 k) S = K T ∧ tbM F E tg mx n T t ∧ e162 S T := by
  intro d
  induction d with
  | zero =>
    intro k nn S hk hnn m1 hT hj
    obtain ⟨nn, rfl⟩ : ∃ z, nn = z + 1 := ⟨nn - 1, by omega⟩
    rw [lp_X11_waiting_108.eq_2, show gI S 157 158 0 = some (o3 F.length) from (gI_o (k := 0) (by omega) (by omega)).trans (congrArg some m1.1), bd_some, if_pos ((o3_le (by omega) (by omega)).mpr (by omega))]
    exact ⟨S, rfl, tbM_s hT (fun f hf => hj f (by omega)), e162.rf⟩
  | succ d ih =>
    intro k nn S hk hnn m1 hT hj
    obtain ⟨nn, rfl⟩ : ∃ z, nn = z + 1 := ⟨nn - 1, by omega⟩
    rw [lp_X11_waiting_108.eq_2, show gI S 157 158 0 = some (o3 F.length) from (gI_o (k := 0) (by omega) (by omega)).trans (congrArg some m1.1), bd_some, if_neg (fun q => by have := (o3_le (by omega) (by omega)).mp q; omega), mg_best m1 hF hE hT hn ht (by omega) hm hl, bd_some, show (10 : Int32) = o3 10 from rfl, o3_mul, o3_add, sL_o (by omega) (by omega), bd_some, o3_s]
    obtain ⟨T, t1, t2, t3⟩ := ih (k + 1) nn (pL S 162 (10 * t + k) (GG F E tg mx (n - t) k)) (by omega) (by omega) m1 (fun j f h1 h2 h3 => by rw [pL_ne (by omega)]; exact hT j f h1 h2 h3) (fun f hf => by
      by_cases e : f = k
      · subst e; rw [pL_eq]
      · rw [pL_ne (by omega)]; exact hj f (by omega))
    exact ⟨T, t1, t2, e162_p.tr t3⟩
theorem wn_100 {p1 p4 p7 : Int32} {p5 : Int64} (hF : ∀ q ∈ F, okF q) (hE : ∀ q ∈ E, okS F.length q) (hm : F.length ≤ 10) (hl : E.length ≤ 12) (hn : n ≤ 120) {K : fS → Option (Int32 × fS)} : ∀ t nn (S : fS), t ≤ n → t < nn → twM (S.1 157) F E → tbM F E tg mx n S t → ∃ T, lp_X11_waiting_100 p1 (o3 n) mx p4 p5 p7 K nn (o3 t - 1) S = K T ∧ tbM F E tg mx n T 0 ∧ e162 S T := by
  intro t
  induction t with
  | zero =>
    intro nn S htn hnn m1 hT
    obtain ⟨nn, rfl⟩ : ∃ z, nn = z + 1 := ⟨nn - 1, by omega⟩
    rw [lp_X11_waiting_100.eq_2, if_pos (show o3 0 - 1 < (0 : Int32) by decide)]
    exact ⟨S, rfl, hT, e162.rf⟩
  | succ t ih =>
    intro nn S htn hnn m1 hT
    obtain ⟨nn, rfl⟩ : ∃ z, nn = z + 1 := ⟨nn - 1, by omega⟩
    rw [lp_X11_waiting_100.eq_2, show o3 (t + 1) - 1 = o3 t from by rw [show (1 : Int32) = o3 1 from rfl, o3_sub (by omega)]; rfl, if_neg (o3_nn (by omega))]
    obtain ⟨T1, a1, a2, a3⟩ := wn_108 (tg := tg) (mx := mx) (p1 := p1) (p4 := p4) (p5 := p5) (p7 := p7) hF hE hm hl hn (t := t) (by omega) (K := fun S38 => lp_X11_waiting_100 p1 (o3 n) mx p4 p5 p7 K nn (o3 t + (-1 : Int32)) S38) F.length 0 FU S (by omega) (FU_lt (by omega)) m1 hT (fun f hf => absurd hf (Nat.not_lt_zero _))
    obtain ⟨T, t1, t2, t3⟩ := ih nn T1 (by omega) (by omega) (by rw [a3.1]; exact m1) a2
    refine ⟨T, a1.trans ?_, t2, a3.tr t3⟩
    rw [show o3 t + (-1 : Int32) = o3 t - 1 from (Int32.sub_eq_add_neg _ _).symm]
    exact t1
theorem wn_42 {th f0 : Nat} (hth : th < 8) (hF : ∀ q ∈ F, okF q) (hE : ∀ q ∈ E, okS F.length q) (hm : F.length ≤ 10) (hl : E.length ≤ 12) (hn : n ≤ 120) (hf0 : f0 < F.length) : ∀ d k nn (S : fS) (i : Int32) (y : Int64), k + d = F.length → d < nn → twM (S.1 157) F E → S.1 157 (90 + 4 * th) = o3 f0 → ∃ T, lp_X11_waiting_42 (o3 th) (o3 n) mx (fun u53 S54 => some (u53, S54)) nn i y (o3 k) S = some (bm (fun p => GG F E p mx n f0) mx d k i y, T) ∧ e162 S T := by
  intro d
  induction d with
  | zero =>
    intro k nn S i y hk hnn m1 hp
    obtain ⟨nn, rfl⟩ : ∃ z, nn = z + 1 := ⟨nn - 1, by omega⟩
    rw [lp_X11_waiting_42.eq_2, show gI S 157 158 0 = some (o3 F.length) from (gI_o (k := 0) (by omega) (by omega)).trans (congrArg some m1.1), bd_some, if_pos ((o3_le (by omega) (by omega)).mpr (by omega))]
    exact ⟨S, rfl, e162.rf⟩
  | succ d ih =>
    intro k nn S i y hk hnn m1 hp
    obtain ⟨nn, rfl⟩ : ∃ z, nn = z + 1 := ⟨nn - 1, by omega⟩
    rw [lp_X11_waiting_42.eq_2, show gI S 157 158 0 = some (o3 F.length) from (gI_o (k := 0) (by omega) (by omega)).trans (congrArg some m1.1), bd_some, if_neg (fun q => by have := (o3_le (by omega) (by omega)).mp q; omega), o3_s]
    obtain ⟨T1, t1, t2, t3⟩ := wn_56 (tg := k) (n := n) (p1 := o3 th) (p3 := mx) (p4 := i) (p5 := y) (by omega) hn (K := fun S25 => lp_X11_waiting_100 (o3 th) (o3 n) mx i y (o3 k) (fun S40 => (f_X11_thingOf (o3 th) (0 : Int32) S40).bind fun q42 => (gL S40 162 1210 q42).bind fun a45 => if a45 < (0 : Int64) then (lp_X11_waiting_42 (o3 th) (o3 n) mx (fun u53 S54 => some (u53, S54)) nn i y (o3 (k + 1)) S40) else ((f_X11_isBetter a45 y mx S40).bind fun q49 => if q49 = (0 : Int32) then (lp_X11_waiting_42 (o3 th) (o3 n) mx (fun u53 S54 => some (u53, S54)) nn i y (o3 (k + 1)) S40) else (lp_X11_waiting_42 (o3 th) (o3 n) mx (fun u53 S54 => some (u53, S54)) nn (o3 k) a45 (o3 (k + 1)) S40))) FU (o3 n - (1 : Int32)) S25) 10 0 FU S (by omega) (FU_lt (by omega)) (fun j hj => absurd hj (Nat.not_lt_zero _))
    obtain ⟨T2, u1, u2, u3⟩ := wn_100 (F := F) (E := E) (tg := k) (mx := mx) (n := n) (p1 := o3 th) (p4 := i) (p5 := y) (p7 := o3 k) hF hE hm hl hn (K := fun S40 => (f_X11_thingOf (o3 th) (0 : Int32) S40).bind fun q42 => (gL S40 162 1210 q42).bind fun a45 => if a45 < (0 : Int64) then (lp_X11_waiting_42 (o3 th) (o3 n) mx (fun u53 S54 => some (u53, S54)) nn i y (o3 (k + 1)) S40) else ((f_X11_isBetter a45 y mx S40).bind fun q49 => if q49 = (0 : Int32) then (lp_X11_waiting_42 (o3 th) (o3 n) mx (fun u53 S54 => some (u53, S54)) nn i y (o3 (k + 1)) S40) else (lp_X11_waiting_42 (o3 th) (o3 n) mx (fun u53 S54 => some (u53, S54)) nn (o3 k) a45 (o3 (k + 1)) S40))) n FU T1 (Nat.le_refl _) (FU_lt (by omega)) (by rw [t3.1]; exact m1) (fun j g h1 h2 h3 => by
      have : j = n := by omega
      subst this
      rw [t2 g (by omega), Nat.sub_self, GG_0])
    have e12 := t3.tr u3
    have m1' : twM (T2.1 157) F E := by rw [e12.1]; exact m1
    have hp' : T2.1 157 (90 + 4 * th) = o3 f0 := by rw [e12.1]; exact hp
    have g162 : gL T2 162 1210 (o3 f0) = some (GG F E k mx n f0) := by
      have := u2 0 f0 (by omega) (by omega) hf0
      rw [show 10 * 0 + f0 = f0 by omega, Nat.sub_zero] at this
      exact (gL_o (by omega) (by omega)).trans (congrArg some this)
    have hb : bm (fun p => GG F E p mx n f0) mx (d + 1) k i y = if tk1 mx (GG F E k mx n f0) y = true then bm (fun p => GG F E p mx n f0) mx d (k + 1) (o3 k) (GG F E k mx n f0) else bm (fun p => GG F E p mx n f0) mx d (k + 1) i y := rfl
    have step : lp_X11_waiting_56 (o3 th) (o3 n) mx i y (o3 k) (fun S25 => lp_X11_waiting_100 (o3 th) (o3 n) mx i y (o3 k) (fun S40 => (f_X11_thingOf (o3 th) (0 : Int32) S40).bind fun q42 => (gL S40 162 1210 q42).bind fun a45 => if a45 < (0 : Int64) then (lp_X11_waiting_42 (o3 th) (o3 n) mx (fun u53 S54 => some (u53, S54)) nn i y (o3 (k + 1)) S40) else ((f_X11_isBetter a45 y mx S40).bind fun q49 => if q49 = (0 : Int32) then (lp_X11_waiting_42 (o3 th) (o3 n) mx (fun u53 S54 => some (u53, S54)) nn i y (o3 (k + 1)) S40) else (lp_X11_waiting_42 (o3 th) (o3 n) mx (fun u53 S54 => some (u53, S54)) nn (o3 k) a45 (o3 (k + 1)) S40))) FU (o3 n - (1 : Int32)) S25) FU (0 : Int32) S = if tk1 mx (GG F E k mx n f0) y = true then lp_X11_waiting_42 (o3 th) (o3 n) mx (fun u53 S54 => some (u53, S54)) nn (o3 k) (GG F E k mx n f0) (o3 (k + 1)) T2 else lp_X11_waiting_42 (o3 th) (o3 n) mx (fun u53 S54 => some (u53, S54)) nn i y (o3 (k + 1)) T2 := by
      refine (t1.trans u1).trans ?_
      rw [show f_X11_thingOf (o3 th) 0 T2 = some (o3 f0) from (mw_thing (a := 0) hth (by omega)).trans (congrArg some hp'), bd_some, g162, bd_some, m_tk]
    rw [step, hb]
    by_cases h : tk1 mx (GG F E k mx n f0) y = true
    · rw [if_pos h, if_pos h]
      obtain ⟨T, w1, w2⟩ := ih (k + 1) nn T2 (o3 k) (GG F E k mx n f0) (by omega) (by omega) m1' hp'
      exact ⟨T, w1, e12.tr w2⟩
    · rw [if_neg h, if_neg h]
      obtain ⟨T, w1, w2⟩ := ih (k + 1) nn T2 i y (by omega) (by omega) m1' hp'
      exact ⟨T, w1, e12.tr w2⟩
end WT
end
noncomputable section
/-- waiting: both answer; what each answers -/
theorem t_21 (a1 a2 a3 : Int32) (S : fS) (hR : Rel S) : ∃ r r' S1 S2, f_X10_waiting a1 a2 a3 S = some (r, S1) ∧ f_X11_waiting a1 a2 a3 S1 = some (r', S2) ∧ Rel S2 ∧ (r = r' ∨ ∃ (F : List (Nat × Nat)) (E : List St5) (n f : Nat), (∀ q ∈ F, okF q) ∧ (∀ q ∈ E, okS F.length q) ∧ F.length ≤ 10 ∧ E.length ≤ 12 ∧ n ≤ 120 ∧ f < F.length ∧ r = o3 (bc (fun g => GG F E f a3 n g) a3 (F.length - 1) 1 0) ∧ r' = bm (fun p => GG F E p a3 n f) a3 F.length 0 (-1) (-1)) := by
  have hR0 := hR
  obtain ⟨n', s, L, M, hT, ⟨⟨n1, n2, n3, n4, n5, n6⟩, ⟨b1, b2, b3, b4, b5⟩, ⟨m1, m2, m3, m4⟩, d⟩, hL, hM⟩ := hR
  have h8 := n5.1
  have i1 : f_X10_isFrom a2 0 120 S = some (if ((0 : Nat) : Int) ≤ a2.toInt ∧ a2.toInt ≤ ((120 : Nat) : Int) then 1 else 0) := from_c (a := 0) (b := 120) (by omega) (by omega)
  have j1 : ∀ T : fS, f_X11_in (Int32.toInt64 a2) 0 120 T = some (if ((0 : Nat) : Int) ≤ a2.toInt ∧ a2.toInt ≤ ((120 : Nat) : Int) then 1 else 0) := fun T => in_c (a := 0) (b := 120) (by omega) (by omega)
  have no : f_X10_waiting a1 a2 a3 S = some (-1, S) → f_X11_waiting a1 a2 a3 S = some (-1, S) → ∃ r r' S1 S2, f_X10_waiting a1 a2 a3 S = some (r, S1) ∧ f_X11_waiting a1 a2 a3 S1 = some (r', S2) ∧ Rel S2 ∧ (r = r' ∨ ∃ (F : List (Nat × Nat)) (E : List St5) (n f : Nat), (∀ q ∈ F, okF q) ∧ (∀ q ∈ E, okS F.length q) ∧ F.length ≤ 10 ∧ E.length ≤ 12 ∧ n ≤ 120 ∧ f < F.length ∧ r = o3 (bc (fun g => GG F E f a3 n g) a3 (F.length - 1) 1 0) ∧ r' = bm (fun p => GG F E p a3 n f) a3 F.length 0 (-1) (-1)) := fun h g => ⟨-1, -1, S, S, h, g, hR0, Or.inl rfl⟩
  by_cases h1 : ¬ (0 ≤ a1.toInt ∧ a1.toInt < s.2.2.1.1)
  · refine no ?_ ?_
    · unfold f_X10_waiting f_X10_isStanding; rw [ci_thing b3.1 (by omega), bd_some, if_neg h1, if_pos rfl, bd_some, if_pos rfl]
    · unfold f_X11_waiting; rw [mi_thing m2.1 (by omega), bd_some, if_neg h1, if_pos rfl]
  have h1 := Decidable.not_not.mp h1
  obtain ⟨th, e1, e2⟩ := o3_ex h1.1
  have hth : th < s.2.2.1.1 := by omega
  have cStand : f_X10_isStanding (o3 th) S = some (if s.2.2.1.2.2.1 th < 0 then 0 else 1) := by
    unfold f_X10_isStanding f_X0_isStanding
    rw [ci_thing b3.1 (by omega), bd_some, ← e1, if_pos h1, if_neg (show ¬ (1 : Int32) = 0 by decide), e1, gI_o (by omega) (by omega), bd_some, show S.1 (11 + 1) th = _ from (b3.2.2 th hth).1]
    by_cases z : s.2.2.1.2.2.1 th < 0
    · rw [if_pos z, if_pos z, bd_some, if_pos rfl]
    · rw [if_neg z, if_neg z, bd_some, if_neg (by decide)]
  have mTh : ∀ T : fS, T.1 = S.1 → f_X11_thingOf (o3 th) 0 T = some (s.2.2.1.2.2.1 th) := fun T hTT => (mw_thing (a := 0) (by omega) (by omega)).trans (congrArg some (by rw [hTT]; exact (m2.2.2 th hth).1))
  have mIs : ∀ T : fS, T.1 = S.1 → f_X11_isThing (o3 th) T = some 1 := fun T hTT => by rw [mi_thing (m := s.2.2.1.1) (by rw [hTT]; exact m2.1) (by omega), ← e1, if_pos h1]
  by_cases h0 : s.2.2.1.2.2.1 th < 0
  · refine no ?_ ?_
    · unfold f_X10_waiting; rw [e1, cStand, if_pos h0, bd_some, if_pos rfl]
    · unfold f_X11_waiting; rw [e1, mIs S rfl, bd_some, if_neg (show ¬ (1 : Int32) = 0 by decide), mTh S rfl, bd_some, if_pos h0]
  obtain ⟨f, f1, f2⟩ := okT_nn (n5.2.2 th hth).1 n1 h0
  by_cases h3 : ¬ (((0 : Nat) : Int) ≤ a2.toInt ∧ a2.toInt ≤ ((120 : Nat) : Int))
  · refine no ?_ ?_
    · unfold f_X10_waiting; rw [e1, cStand, if_neg h0, bd_some, if_neg (show ¬ (1 : Int32) = 0 by decide), i1, bd_some, if_neg h3, if_pos rfl]
    · unfold f_X11_waiting; rw [e1, mIs S rfl, bd_some, if_neg (show ¬ (1 : Int32) = 0 by decide), mTh S rfl, bd_some, if_neg h0, j1, bd_some, if_neg h3, if_pos rfl]
  have h3 := Decidable.not_not.mp h3
  obtain ⟨n, e5, e6⟩ := o3_ex (x := a2) (by omega)
  have hn : n ≤ 120 := by omega
  obtain ⟨S1, c1, c2, c3⟩ := c_meas (mx := a3) b1 n4 n1 n2 hn f1
  have hp : S1.1 157 (90 + 4 * th) = o3 f := by
    rw [c3.1]
    exact ((m2.2.2 th hth).1).trans f2
  obtain ⟨S2, w1, w2⟩ := wn_42 (F := s.1) (E := s.2.1) (mx := a3) (n := n) (th := th) (f0 := f) (by omega) n3 n4 n1 n2 hn f1 s.1.length 0 FU S1 (-1) (-1) (by omega) (FU_lt (by omega)) (by rw [c3.1]; exact m1) hp
  refine ⟨_, _, S1, S2, ?_, ?_, meas_rel hR0 c3 w2, Or.inr ⟨s.1, s.2.1, n, f, n3, n4, n1, n2, hn, f1, rfl, rfl⟩⟩
  · unfold f_X10_waiting
    rw [e1, cStand, if_neg h0, bd_some, if_neg (show ¬ (1 : Int32) = 0 by decide), i1, bd_some, if_pos h3, if_neg (show ¬ (1 : Int32) = 0 by decide), gI_o (by omega) (by omega), bd_some, show S.1 12 th = s.2.2.1.2.2.1 th from (b3.2.2 th hth).1, f2, e5, c1, bd_some, c_bf (twC_44 b1 c3) c2 hn n1 (by omega), bd_some]
  · unfold f_X11_waiting
    rw [e1, mIs S1 c3.1, bd_some, if_neg (show ¬ (1 : Int32) = 0 by decide), mTh S1 c3.1, bd_some, if_neg h0, j1, bd_some, if_pos h3, if_neg (show ¬ (1 : Int32) = 0 by decide), e5]
    exact w1
end
