section
/-! owed, hands, when, shown, noonsIn, due -/
theorem from_m {v : Int32} {a b : Nat} {S : fS} {x y : Int64} (hx : x = o6 a) (hy : y = o6 b) (ha : a < 2147483648) (hb : b < 2147483648) : f_X11_in (Int32.toInt64 v) x y S = some (if (a : Int) ≤ v.toInt ∧ v.toInt ≤ b then 1 else 0) := by
  rw [hx, hy]; exact in_c ha hb
theorem t_19 (a1 a2 a3 a4 a5 : Int32) (S : fS) (hR : Rel S) : ∃ r, f_X10_owed a1 a2 a3 a4 a5 S = some r ∧ f_X11_owed a1 a2 a3 a4 a5 S = some r ∧ Rel S := by
  have hR0 := hR
  obtain ⟨n, s, L, M, hT, ⟨⟨n1, n2, n3, n4, n5, n6⟩, ⟨b1, b2, b3, b4, b5⟩, ⟨m1, m2, m3, m4⟩, d⟩, hL, hM⟩ := hR
  have i1 : f_X10_isFrom a2 1 9999 S = some (if ((1 : Nat) : Int) ≤ a2.toInt ∧ a2.toInt ≤ ((9999 : Nat) : Int) then 1 else 0) := from_c (a := 1) (b := 9999) (by omega) (by omega)
  have i2 : f_X10_isFrom a3 0 999 S = some (if ((0 : Nat) : Int) ≤ a3.toInt ∧ a3.toInt ≤ ((999 : Nat) : Int) then 1 else 0) := from_c (a := 0) (b := 999) (by omega) (by omega)
  have j1 : f_X11_in (Int32.toInt64 a2) 1 9999 S = some (if ((1 : Nat) : Int) ≤ a2.toInt ∧ a2.toInt ≤ ((9999 : Nat) : Int) then 1 else 0) := in_c (a := 1) (b := 9999) (by omega) (by omega)
  have j2 : f_X11_in (Int32.toInt64 a3) 0 999 S = some (if ((0 : Nat) : Int) ≤ a3.toInt ∧ a3.toInt ≤ ((999 : Nat) : Int) then 1 else 0) := in_c (a := 0) (b := 999) (by omega) (by omega)
  unfold f_X10_owed f_X11_owed
  rw [ci_floor b1.1 (by omega), mi_floor m1.1 (by omega), bd_some, bd_some, i1, j1, bd_some, bd_some, i2, j2, bd_some, bd_some, hour_c, hour_m, bd_some, bd_some, part_c, part_m, bd_some, bd_some]
  by_cases h1 : 0 ≤ a1.toInt ∧ a1.toInt < s.1.length
  · rw [if_pos h1, if_neg (show ¬ (1 : Int32) = 0 by decide), if_neg (show ¬ (1 : Int32) = 0 by decide)]
    by_cases h2 : ((1 : Nat) : Int) ≤ a2.toInt ∧ a2.toInt ≤ ((9999 : Nat) : Int)
    · rw [if_pos h2, if_neg (show ¬ (1 : Int32) = 0 by decide), if_neg (show ¬ (1 : Int32) = 0 by decide)]
      by_cases h3 : ((0 : Nat) : Int) ≤ a3.toInt ∧ a3.toInt ≤ ((999 : Nat) : Int)
      · rw [if_pos h3, if_neg (show ¬ (1 : Int32) = 0 by decide), if_neg (show ¬ (1 : Int32) = 0 by decide)]
        by_cases h4 : ((0 : Nat) : Int) ≤ a4.toInt ∧ a4.toInt ≤ ((9999 : Nat) : Int)
        · rw [if_pos h4, if_neg (show ¬ (1 : Int32) = 0 by decide), if_neg (show ¬ (1 : Int32) = 0 by decide)]
          by_cases h5 : ((0 : Nat) : Int) ≤ a5.toInt ∧ a5.toInt ≤ ((1 : Nat) : Int)
          · rw [if_pos h5, if_neg (show ¬ (1 : Int32) = 0 by decide), if_neg (show ¬ (1 : Int32) = 0 by decide)]
            obtain ⟨f, e1, e2⟩ := o3_ex h1.1
            obtain ⟨u, e3, e4⟩ := o3_ex (x := a2) (by omega)
            obtain ⟨v, e5, e6⟩ := o3_ex (x := a3) (by omega)
            obtain ⟨w, e7, e8⟩ := o3_ex (x := a4) (by omega)
            have hf : f < s.1.length := by omega
            have hq := n3 _ (gd_mem (d := (0, 0)) hf)
            rw [e1, e3, e5, e7, cf_p b1 n1 hf, mf_a m1 n1 hf, mf_b m1 n1 hf, bd_some, bd_some, bd_some]
            generalize s.1.getD f (0, 0) = q at hq
            have hp := pcn_le hq
            have hlw := lwF (q := q) (v := 0) hq
            have hlw1 := lwF (q := q) (v := 1) hq
            obtain ⟨q1, q2, q3, q4⟩ := hq
            rw [pc_o, show (232792560 : Int64) = o6 232792560 from rfl, c_low (by omega) (by omega) (by omega), bd_some, bd_some, c_low (by omega) (by omega) (by omega), bd_some, hlw, hlw1]
            obtain ⟨g1, g2⟩ := gcd_lt (a := q.1) (b := q.2) (by omega) (by omega) (by omega)
            have l0 : lw q.1 q.2 0 = o6 (q.1 / Nat.gcd q.1 q.2) := if_pos rfl
            have l1 : lw q.1 q.2 1 = o6 (q.2 / Nat.gcd q.1 q.2) := if_neg (by decide)
            have c1 := Nat.div_mul_cancel (Nat.gcd_dvd_left q.1 q.2)
            have c2 := Nat.div_mul_cancel (Nat.gcd_dvd_right q.1 q.2)
            have k1 := Nat.div_le_self q.1 (Nat.gcd q.1 q.2)
            have k2 := Nat.div_le_self q.2 (Nat.gcd q.1 q.2)
            rw [l0, l1]
            generalize Nat.gcd q.1 q.2 = g at *
            generalize q.1 / g = x at *
            generalize q.2 / g = y at *
            have hy : 0 < y := by
              rcases Nat.eq_zero_or_pos y with h | h
              · rw [h, Nat.zero_mul] at c2; omega
              · exact h
            have x1 : v * x ≤ 999 * 20 := Nat.mul_le_mul (by omega) (by omega)
            have x2 : v * x * w ≤ 19980 * 9999 := Nat.mul_le_mul (by omega) (by omega)
            have x3 : u * (24000 * y + v * x * w) ≤ 9999 * (480000 + 199780020) := Nat.mul_le_mul (by omega) (by omega)
            have x4 : u * (24000 * q.2) ≤ 9999 * 480000 := Nat.mul_le_mul (by omega) (by omega)
            have x5 : u * v ≤ 9999 * 999 := Nat.mul_le_mul (by omega) (by omega)
            have x6 : u * v * w ≤ 9989001 * 9999 := Nat.mul_le_mul (by omega) (by omega)
            have x7 : u * v * w * q.1 ≤ 99880020999 * 20 := Nat.mul_le_mul (by omega) (by omega)
            rw [o6_of3 (by omega), o6_of3 (by omega), o6_of3 (by omega), o6_of3 (by omega), o6_of3 (by omega), show (24000 : Int64) = o6 24000 from rfl, o6_mul, o6_mul, o6_mul, o6_add, o6_mul, c_low (by omega) (by omega) (by omega), bd_some, o6_mul, o6_mul, o6_mul, o6_mul, o6_mul, o6_add, m_low (by omega) (by omega) (by omega), bd_some]
            refine ⟨_, rfl, ?_, hR0⟩
            congr 1
            refine (lw_cross (by omega) (by omega) ?_).symm
            rw [← c2]
            have y1 : u * (24000 * (y * g)) + u * v * w * q.1 = u * (24000 * y + v * x * w) * g := by
              rw [← c1, Nat.mul_add, Nat.add_mul]
              congr 1
              · rw [Nat.mul_assoc, Nat.mul_assoc 24000 y g]
              · rw [← Nat.mul_assoc, Nat.mul_assoc u v w, Nat.mul_assoc u (v * w) x, Nat.mul_right_comm v w x]
            rw [y1, ← Nat.mul_assoc 24000 y g, Nat.mul_comm (24000 * y) g]
            simp only [Nat.mul_assoc]
          · rw [if_neg h5, if_pos rfl, if_pos rfl]
            exact ⟨_, rfl, rfl, hR0⟩
        · rw [if_neg h4, if_pos rfl, if_pos rfl]
          exact ⟨_, rfl, rfl, hR0⟩
      · rw [if_neg h3, if_pos rfl, if_pos rfl]
        exact ⟨_, rfl, rfl, hR0⟩
    · rw [if_neg h2, if_pos rfl, if_pos rfl]
      exact ⟨_, rfl, rfl, hR0⟩
  · rw [if_neg h1, if_pos rfl, if_pos rfl]
    exact ⟨_, rfl, rfl, hR0⟩
theorem cl_sc {X Y z : Nat} (hz : 0 < z) (hY : 0 < Y) : (X * z + Y * z - 1) / (Y * z) = (X + Y - 1) / Y := by
  have e : X * z + Y * z - 1 = (z - 1) + (X + Y - 1) * z := by
    have h1 : (X + Y) * z = X * z + Y * z := Nat.add_mul X Y z
    have h2 : (X + Y - 1) * z = (X + Y) * z - z := Nat.sub_one_mul (X + Y) z
    have h3 : 1 * z ≤ (X + Y) * z := Nat.mul_le_mul_right z (by omega)
    omega
  rw [e, Nat.mul_comm Y z, ← Nat.div_div_eq_div_mul, Nat.add_mul_div_right _ _ hz, show (z - 1) / z = 0 from Nat.div_eq_of_lt (by omega), Nat.zero_add]
theorem cl_cross {X Y X' Y' : Nat} (hY : 0 < Y) (hY' : 0 < Y') (h : X * Y' = X' * Y) : (X + Y - 1) / Y = (X' + Y' - 1) / Y' := by
  rw [← cl_sc (X := X) hY' hY, h, Nat.mul_comm Y Y', cl_sc hY hY']
theorem t_20 (a1 a2 a3 a4 : Int32) (S : fS) (hR : Rel S) : ∃ r, f_X10_hands a1 a2 a3 a4 S = some r ∧ f_X11_hands a1 a2 a3 a4 S = some r ∧ Rel S := by
  have hR0 := hR
  obtain ⟨n, s, L, M, hT, ⟨⟨n1, n2, n3, n4, n5, n6⟩, ⟨b1, b2, b3, b4, b5⟩, ⟨m1, m2, m3, m4⟩, d⟩, hL, hM⟩ := hR
  have i1 : ∀ v : Int32, f_X10_isFrom v 1 9999 S = some (if ((1 : Nat) : Int) ≤ v.toInt ∧ v.toInt ≤ ((9999 : Nat) : Int) then 1 else 0) := fun v => from_c (a := 1) (b := 9999) (by omega) (by omega)
  have i2 : ∀ v : Int32, f_X11_in (Int32.toInt64 v) 1 9999 S = some (if ((1 : Nat) : Int) ≤ v.toInt ∧ v.toInt ≤ ((9999 : Nat) : Int) then 1 else 0) := fun v => in_c (a := 1) (b := 9999) (by omega) (by omega)
  unfold f_X10_hands f_X11_hands
  rw [ci_floor b1.1 (by omega), mi_floor m1.1 (by omega), ci_floor b1.1 (by omega), mi_floor m1.1 (by omega), bd_some, bd_some, bd_some, bd_some, i1, i2, bd_some, bd_some, i1, i2, bd_some, bd_some]
  by_cases h1 : 0 ≤ a1.toInt ∧ a1.toInt < s.1.length
  · rw [if_pos h1, if_neg (show ¬ (1 : Int32) = 0 by decide), if_neg (show ¬ (1 : Int32) = 0 by decide)]
    by_cases h2 : 0 ≤ a2.toInt ∧ a2.toInt < s.1.length
    · rw [if_pos h2, if_neg (show ¬ (1 : Int32) = 0 by decide), if_neg (show ¬ (1 : Int32) = 0 by decide)]
      by_cases h3 : ((1 : Nat) : Int) ≤ a3.toInt ∧ a3.toInt ≤ ((9999 : Nat) : Int)
      · rw [if_pos h3, if_neg (show ¬ (1 : Int32) = 0 by decide), if_neg (show ¬ (1 : Int32) = 0 by decide)]
        by_cases h4 : ((1 : Nat) : Int) ≤ a4.toInt ∧ a4.toInt ≤ ((9999 : Nat) : Int)
        · rw [if_pos h4, if_neg (show ¬ (1 : Int32) = 0 by decide), if_neg (show ¬ (1 : Int32) = 0 by decide)]
          obtain ⟨f, e1, e2⟩ := o3_ex h1.1
          obtain ⟨g, e3, e4⟩ := o3_ex h2.1
          obtain ⟨v, e5, e6⟩ := o3_ex (x := a3) (by omega)
          obtain ⟨w, e7, e8⟩ := o3_ex (x := a4) (by omega)
          have hf : f < s.1.length := by omega
          have hg : g < s.1.length := by omega
          have hq := n3 _ (gd_mem (d := (0, 0)) hf)
          have hq' := n3 _ (gd_mem (d := (0, 0)) hg)
          rw [e1, e3, e5, e7, cf_p b1 n1 hf, cf_p b1 n1 hg, mf_a m1 n1 hf, mf_b m1 n1 hf, mf_a m1 n1 hg, mf_b m1 n1 hg, bd_some, bd_some, bd_some, bd_some, bd_some, bd_some]
          generalize s.1.getD f (0, 0) = q at hq
          generalize s.1.getD g (0, 0) = q' at hq'
          have hp := pcn_le hq
          have hp' := pcn_le hq'
          obtain ⟨z1, z2, z3⟩ := pz_eq hq
          obtain ⟨z1', z2', z3'⟩ := pz_eq hq'
          obtain ⟨q1, q2, q3, q4⟩ := hq
          obtain ⟨q1', q2', q3', q4'⟩ := hq'
          have x1 : v * (q'.1 * pz q') ≤ 9999 * 4655851200 := Nat.mul_le_mul (by omega) hp'.2
          have x2 : w * (q.1 * pz q) ≤ 9999 * 4655851200 := Nat.mul_le_mul (by omega) hp.2
          have x3 : 0 < w * (q.1 * pz q) := Nat.mul_pos (by omega) hp.1
          have x4 : v * q'.1 ≤ 9999 * 20 := Nat.mul_le_mul (by omega) q2'
          have x5 : v * q'.1 * q.2 ≤ 199980 * 20 := Nat.mul_le_mul (by omega) q4
          have x6 : w * q'.2 ≤ 9999 * 20 := Nat.mul_le_mul (by omega) q4'
          have x7 : w * q'.2 * q.1 ≤ 199980 * 20 := Nat.mul_le_mul (by omega) q2
          have x8 : 0 < w * q'.2 * q.1 := Nat.mul_pos (Nat.mul_pos (by omega) (by omega)) (by omega)
          unfold f_X10_upwards
          rw [pc_o, pc_o, o6_of3 (by omega), o6_of3 (by omega), o6_mul, o6_mul, if_pos (show (0 : Int64) < o6 (w * (q.1 * pz q)) from (o6_lt (a := 0) (by omega) (by omega)).mpr x3), show (1 : Int64) = o6 1 from rfl, o6_add, o6_sub (by omega), o6_dL (by omega) (by omega) (by omega), bd_some, bd_some, o6_of3 (by omega), o6_of3 (by omega), o6_of3 (by omega), o6_of3 (by omega), o6_mul, o6_mul, o6_mul, o6_mul, o6_add, o6_sub (by omega), o6_dL (by omega) (by omega) (by omega), bd_some]
          refine ⟨_, rfl, ?_, hR0⟩
          congr 2
          congr 1
          refine (cl_cross x3 x8 ?_).symm
          have y1 : v * (q'.1 * pz q') * (w * q'.2 * q.1) = v * q'.1 * w * q.1 * (pz q' * q'.2) := by
            have : ∀ A B C D E G : Nat, A * (B * C) * (D * E * G) = A * B * D * G * (C * E) := fun A B C D E G => by
              simp only [Nat.mul_left_comm, Nat.mul_comm]
            exact this _ _ _ _ _ _
          have y2 : v * q'.1 * q.2 * (w * (q.1 * pz q)) = v * q'.1 * w * q.1 * (pz q * q.2) := by
            have : ∀ A B C D E G : Nat, A * B * C * (D * (E * G)) = A * B * D * E * (G * C) := fun A B C D E G => by
              simp only [Nat.mul_left_comm, Nat.mul_comm]
            exact this _ _ _ _ _ _
          rw [y1, y2, z1, z1']
        · rw [if_neg h4, if_pos rfl, if_pos rfl]
          exact ⟨_, rfl, rfl, hR0⟩
      · rw [if_neg h3, if_pos rfl, if_pos rfl]
        exact ⟨_, rfl, rfl, hR0⟩
    · rw [if_neg h2, if_pos rfl, if_pos rfl]
      exact ⟨_, rfl, rfl, hR0⟩
  · rw [if_neg h1, if_pos rfl, if_pos rfl]
    exact ⟨_, rfl, rfl, hR0⟩
theorem t_22 (a1 a2 a3 a4 : Int32) (S : fS) (hR : Rel S) : ∃ r, f_X10_when a1 a2 a3 a4 S = some r ∧ f_X11_when a1 a2 a3 a4 S = some r ∧ Rel S := by
  have hR0 := hR
  obtain ⟨n, s, L, M, hT, ⟨⟨n1, n2, n3, n4, n5, n6⟩, ⟨b1, b2, b3, b4, b5⟩, ⟨m1, m2, m3, m4⟩, d⟩, hL, hM⟩ := hR
  have h8 := n5.1
  have i1 : f_X10_isFrom a3 0 9999 S = some (if ((0 : Nat) : Int) ≤ a3.toInt ∧ a3.toInt ≤ ((9999 : Nat) : Int) then 1 else 0) := from_c (a := 0) (b := 9999) (by omega) (by omega)
  unfold f_X10_when f_X11_when
  rw [ci_thing b3.1 (by omega), mi_thing m2.1 (by omega), bd_some, bd_some, ci_floor b1.1 (by omega), mi_floor m1.1 (by omega), bd_some, bd_some, i1, hour_m, bd_some, bd_some, part_c, part_m, bd_some, bd_some]
  by_cases h1 : 0 ≤ a1.toInt ∧ a1.toInt < s.2.2.1.1
  · rw [if_pos h1, if_neg (show ¬ (1 : Int32) = 0 by decide), if_neg (show ¬ (1 : Int32) = 0 by decide)]
    by_cases h2 : 0 ≤ a2.toInt ∧ a2.toInt < s.1.length
    · rw [if_pos h2, if_neg (show ¬ (1 : Int32) = 0 by decide), if_neg (show ¬ (1 : Int32) = 0 by decide)]
      by_cases h3 : ((0 : Nat) : Int) ≤ a3.toInt ∧ a3.toInt ≤ ((9999 : Nat) : Int)
      · rw [if_pos h3, if_neg (show ¬ (1 : Int32) = 0 by decide), if_neg (show ¬ (1 : Int32) = 0 by decide)]
        by_cases h4 : ((0 : Nat) : Int) ≤ a4.toInt ∧ a4.toInt ≤ ((1 : Nat) : Int)
        · rw [if_pos h4, if_neg (show ¬ (1 : Int32) = 0 by decide), if_neg (show ¬ (1 : Int32) = 0 by decide)]
          obtain ⟨f, e1, e2⟩ := o3_ex h1.1
          obtain ⟨g, e3, e4⟩ := o3_ex h2.1
          obtain ⟨v, e5, e6⟩ := o3_ex (x := a3) (by omega)
          have hf : f < s.2.2.1.1 := by omega
          have hg : g < s.1.length := by omega
          obtain ⟨a, g1, g2⟩ := age_o n5 hf
          have hq := n3 _ (gd_mem (d := (0, 0)) hg)
          have gc : gL S 16 8 (o3 f) = some (o6 a) := (gL_o (by omega) (by omega)).trans (congrArg some (((b3.2.2 f hf).2.2.2.2).trans g1))
          have gm : gL S 158 8 (o3 f) = some (o6 a) := (gL_o (by omega) (by omega)).trans (congrArg some (((m2.2.2 f hf).2.2.2.2).trans g1))
          rw [e1, e3, e5, gc, gm, bd_some, bd_some, cf_p b1 n1 hg, bd_some, mp_floor m1 n3 n1 hg, bd_some]
          generalize s.1.getD g (0, 0) = q at hq
          have hp := pcn_le hq
          rw [pc_o, show (232792560 : Int64) = o6 232792560 from rfl, o6_of3 (by omega), o6_mul]
          by_cases h5 : a ≤ v * 232792560
          · rw [o6_sub h5, if_pos (o6_0le (by omega)), if_pos (o6_0le (by omega)), c_low (by omega) (by omega) hp.1, bd_some]
            by_cases h6 : v * 232792560 - a = 0
            · rw [h6, if_pos (show o6 0 = (0 : Int64) from rfl)]
              refine ⟨_, rfl, ?_, hR0⟩
              congr 1
              unfold lw
              rw [Nat.gcd_zero_left]
              by_cases h7 : a4 = 0
              · rw [if_pos h7, h7, Nat.zero_div]; rfl
              · have : a4 = 1 := by
                  have : a4.toInt ≠ 0 := fun z => h7 (ni_eq.mpr z)
                  exact ni_eq.mpr (by show a4.toInt = 1; omega)
                rw [if_neg h7, this, Nat.div_self hp.1]; rfl
            · rw [if_neg (o6_ne0 (by omega) h6), m_low (by omega) (by omega) hp.1, bd_some]
              exact ⟨_, rfl, rfl, hR0⟩
          · have hn : ¬ (0 : Int64) ≤ o6 (v * 232792560) - o6 a := fun z => by
              have z := nl_le.mp z
              rw [nl_sub (by rw [o6_int (by omega), o6_int (by omega)]; omega) (by rw [o6_int (by omega), o6_int (by omega)]; omega), o6_int (by omega), o6_int (by omega), nl_0] at z
              omega
            rw [if_neg hn, if_neg hn]
            exact ⟨_, rfl, rfl, hR0⟩
        · rw [if_neg h4, if_pos rfl, if_pos rfl]
          exact ⟨_, rfl, rfl, hR0⟩
      · rw [if_neg h3, if_pos rfl, if_pos rfl]
        exact ⟨_, rfl, rfl, hR0⟩
    · rw [if_neg h2, if_pos rfl, if_pos rfl]
      exact ⟨_, rfl, rfl, hR0⟩
  · rw [if_neg h1, if_pos rfl, if_pos rfl]
    exact ⟨_, rfl, rfl, hR0⟩
theorem t_23 (a1 a2 a3 : Int32) (S : fS) (hR : Rel S) : ∃ r, f_X10_shown a1 a2 a3 S = some r ∧ f_X11_shown a1 a2 a3 S = some r ∧ Rel S := by
  have hR0 := hR
  obtain ⟨n, s, L, M, hT, ⟨⟨n1, n2, n3, n4, n5, n6⟩, ⟨b1, b2, b3, b4, b5⟩, ⟨m1, m2, m3, m4⟩, d⟩, hL, hM⟩ := hR
  have i1 : f_X10_isFrom a3 0 1 S = some (if ((0 : Nat) : Int) ≤ a3.toInt ∧ a3.toInt ≤ ((1 : Nat) : Int) then 1 else 0) := from_c (a := 0) (b := 1) (by omega) (by omega)
  unfold f_X10_shown f_X11_shown
  rw [ci_floor b1.1 (by omega), mi_floor m1.1 (by omega), bd_some, bd_some, hour_c, hour_m, bd_some, bd_some, i1, part_m, bd_some, bd_some]
  by_cases h1 : 0 ≤ a1.toInt ∧ a1.toInt < s.1.length
  · rw [if_pos h1, if_neg (show ¬ (1 : Int32) = 0 by decide), if_neg (show ¬ (1 : Int32) = 0 by decide)]
    by_cases h2 : ((0 : Nat) : Int) ≤ a2.toInt ∧ a2.toInt ≤ ((9999 : Nat) : Int)
    · rw [if_pos h2, if_neg (show ¬ (1 : Int32) = 0 by decide), if_neg (show ¬ (1 : Int32) = 0 by decide)]
      by_cases h3 : ((0 : Nat) : Int) ≤ a3.toInt ∧ a3.toInt ≤ ((1 : Nat) : Int)
      · rw [if_pos h3, if_neg (show ¬ (1 : Int32) = 0 by decide), if_neg (show ¬ (1 : Int32) = 0 by decide)]
        obtain ⟨f, e1, e2⟩ := o3_ex h1.1
        obtain ⟨v, e3, e4⟩ := o3_ex (x := a2) (by omega)
        have hf : f < s.1.length := by omega
        have hq := n3 _ (gd_mem (d := (0, 0)) hf)
        unfold f_X8_clockAt
        rw [e1, e3, show gL S (4 + 1) 10 (o3 f) = some (pc (s.1.getD f (0, 0))) from cf_p b1 n1 hf, mf_a m1 n1 hf, mf_b m1 n1 hf, bd_some, bd_some, bd_some, bd_some]
        generalize s.1.getD f (0, 0) = q at hq
        have hp := pcn_le hq
        obtain ⟨z1, z2, z3⟩ := pz_eq hq
        obtain ⟨q1, q2, q3, q4⟩ := hq
        have x1 : v * (q.1 * pz q) ≤ 9999 * 4655851200 := Nat.mul_le_mul (by omega) hp.2
        have x2 : v * q.1 ≤ 9999 * 20 := Nat.mul_le_mul (by omega) q2
        have x3 : v * q.1 / q.2 ≤ v * q.1 := Nat.div_le_self _ _
        have k0 : v * (q.1 * pz q) / 232792560 = v * q.1 / q.2 := by
          rw [← Nat.mul_assoc, ← z1, Nat.mul_comm (pz q) q.2]
          exact Nat.mul_div_mul_right _ _ z2
        have k1 : v * (q.1 * pz q) / 5587021440 = v * q.1 / q.2 / 24 := by
          rw [← k0, Nat.div_div_eq_div_mul]
        have k2 : v * (q.1 * pz q) % 5587021440 / 232792560 = v * q.1 / q.2 % 24 := by
          rw [← k0, show 5587021440 = 232792560 * 24 from rfl, Nat.mod_mul_right_div_self]
        have x4 : v * q.1 / q.2 / 24 ≤ v * q.1 / q.2 := Nat.div_le_self _ _
        have x5 : v * q.1 / q.2 % 24 < 24 := Nat.mod_lt _ (by omega)
        have x6 : v * (q.1 * pz q) % 5587021440 < 5587021440 := Nat.mod_lt _ (by omega)
        rw [o3_mul, o3_dI (by omega) (by omega) (by omega), bd_some, pc_o, o6_of3 (by omega), o6_mul, show (5587021440 : Int64) = o6 5587021440 from rfl, show (24 : Int32) = o3 24 from rfl, o6_dL (by omega) (by omega) (by omega), o6_rL (by omega) (by omega) (by omega), bd_some, bd_some, show (232792560 : Int64) = o6 232792560 from rfl, o6_dL (by omega) (by omega) (by omega), bd_some, k1, k2, o6_to3 (by omega), o6_to3 (by omega), o3_dI (by omega) (by omega) (by omega), o3_rI (by omega) (by omega) (by omega), bd_some, bd_some]
        by_cases h4 : a3 = 0
        · rw [if_pos h4]
          exact ⟨_, rfl, rfl, hR0⟩
        · rw [if_neg h4]
          exact ⟨_, rfl, rfl, hR0⟩
      · rw [if_neg h3, if_pos rfl, if_pos rfl]
        exact ⟨_, rfl, rfl, hR0⟩
    · rw [if_neg h2, if_pos rfl, if_pos rfl]
      exact ⟨_, rfl, rfl, hR0⟩
  · rw [if_neg h1, if_pos rfl, if_pos rfl]
    exact ⟨_, rfl, rfl, hR0⟩
theorem t_25 (a1 a2 : Int32) (S : fS) (hR : Rel S) : ∃ r, f_X10_due a1 a2 S = some r ∧ f_X11_due a1 a2 S = some r ∧ Rel S := by
  have hR0 := hR
  obtain ⟨n, s, L, M, hT, ⟨⟨n1, n2, n3, n4, n5, n6⟩, ⟨b1, b2, b3, b4, b5⟩, ⟨m1, m2, m3, m4⟩, d⟩, hL, hM⟩ := hR
  have i1 : f_X10_isFrom a2 0 9999 S = some (if ((0 : Nat) : Int) ≤ a2.toInt ∧ a2.toInt ≤ ((9999 : Nat) : Int) then 1 else 0) := from_c (a := 0) (b := 9999) (by omega) (by omega)
  unfold f_X10_due f_X11_due
  rw [ci_floor b1.1 (by omega), mi_floor m1.1 (by omega), bd_some, bd_some, i1, hour_m, bd_some, bd_some]
  by_cases h1 : 0 ≤ a1.toInt ∧ a1.toInt < s.1.length
  · rw [if_pos h1, if_neg (show ¬ (1 : Int32) = 0 by decide), if_neg (show ¬ (1 : Int32) = 0 by decide)]
    by_cases h2 : ((0 : Nat) : Int) ≤ a2.toInt ∧ a2.toInt ≤ ((9999 : Nat) : Int)
    · rw [if_pos h2, if_neg (show ¬ (1 : Int32) = 0 by decide), if_neg (show ¬ (1 : Int32) = 0 by decide)]
      obtain ⟨f, e1, e2⟩ := o3_ex h1.1
      obtain ⟨v, e3, e4⟩ := o3_ex (x := a2) (by omega)
      have hf : f < s.1.length := by omega
      have hq := n3 _ (gd_mem (d := (0, 0)) hf)
      rw [e1, e3, cf_p b1 n1 hf, mf_a m1 n1 hf, mf_b m1 n1 hf, bd_some, bd_some, bd_some]
      generalize s.1.getD f (0, 0) = q at hq
      have hp := pcn_le hq
      obtain ⟨z1, z2, z3⟩ := pz_eq hq
      obtain ⟨q1, q2, q3, q4⟩ := hq
      have x2 : 24 * v * q.2 ≤ 24 * 9999 * 20 := Nat.mul_le_mul (by omega) q4
      have kk : (v * 5587021440 + q.1 * pz q - 1) / (q.1 * pz q) = (24 * v * q.2 + q.1 - 1) / q.1 := by
        refine cl_cross hp.1 (by omega) ?_
        have : ∀ A B C D : Nat, 24 * A * B * (C * D) = 24 * A * C * (D * B) := fun A B C D => by
          simp only [Nat.mul_assoc, Nat.mul_left_comm, Nat.mul_comm]
        rw [this, z1, show 5587021440 = 24 * 232792560 from rfl, Nat.mul_comm 24 v, Nat.mul_assoc v 24 q.1, Nat.mul_assoc v, Nat.mul_assoc v]
        congr 1
        rw [Nat.mul_right_comm]
      have x3 : (24 * v * q.2 + q.1 - 1) / q.1 ≤ 24 * v * q.2 + q.1 - 1 := Nat.div_le_self _ _
      unfold f_X10_upwards
      rw [pc_o, show (5587021440 : Int64) = o6 5587021440 from rfl, o6_of3 (by omega), o6_mul, if_pos (show (0 : Int64) < o6 (q.1 * pz q) from (o6_lt (a := 0) (by omega) (by omega)).mpr hp.1), show (1 : Int64) = o6 1 from rfl, o6_add, o6_sub (by omega), o6_dL (by omega) (by omega) (by omega), bd_some, bd_some, kk, o6_to3 (by omega), show (24 : Int32) = o3 24 from rfl, show (1 : Int32) = o3 1 from rfl, o3_mul, o3_mul, o3_add, o3_sub (by omega), o3_dI (by omega) (by omega) (by omega), bd_some]
      exact ⟨_, rfl, rfl, hR0⟩
    · rw [if_neg h2, if_pos rfl, if_pos rfl]
      exact ⟨_, rfl, rfl, hR0⟩
  · rw [if_neg h1, if_pos rfl, if_pos rfl]
    exact ⟨_, rfl, rfl, hR0⟩
end
