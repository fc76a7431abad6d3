section
/-! what only asks: noons, owed, hands, when, shown, noonsIn, due -/
theorem t_15 (a1 a2 a3 : Int32) (S : fS) (hR : Rel S) : ∃ r, f_X10_noons a1 a2 a3 S = some r ∧ f_X11_noons a1 a2 a3 S = some r ∧ Rel S := by
  have hR0 := hR
  obtain ⟨n, s, L, M, hT, ⟨⟨n1, n2, n3, n4, n5, n6⟩, ⟨b1, b2, b3, b4, b5⟩, ⟨m1, m2, m3, m4⟩, d⟩, hL, hM⟩ := hR
  unfold f_X10_noons f_X11_noons
  rw [ci_floor b1.1 (by omega), mi_floor m1.1 (by omega), ci_floor b1.1 (by omega), mi_floor m1.1 (by omega), bd_some, bd_some, bd_some, bd_some, part_c, part_m, bd_some, bd_some]
  by_cases h1 : 0 ≤ a1.toInt ∧ a1.toInt < s.1.length
  · rw [if_pos h1, if_neg (show ¬ (1 : Int32) = 0 by decide), if_neg (show ¬ (1 : Int32) = 0 by decide)]
    by_cases h2 : 0 ≤ a2.toInt ∧ a2.toInt < s.1.length
    · rw [if_pos h2, if_neg (show ¬ (1 : Int32) = 0 by decide), if_neg (show ¬ (1 : Int32) = 0 by decide)]
      by_cases h3 : ((0 : Nat) : Int) ≤ a3.toInt ∧ a3.toInt ≤ ((1 : Nat) : Int)
      · rw [if_pos h3, if_neg (show ¬ (1 : Int32) = 0 by decide), if_neg (show ¬ (1 : Int32) = 0 by decide)]
        obtain ⟨f, e1, e2⟩ := o3_ex h1.1
        obtain ⟨g, e3, e4⟩ := o3_ex h2.1
        have hf : f < s.1.length := by omega
        have hg : g < s.1.length := by omega
        have hq := n3 _ (gd_mem (d := (0, 0)) hf)
        have hq' := n3 _ (gd_mem (d := (0, 0)) hg)
        rw [e1, e3, cf_p b1 n1 hf, cf_p b1 n1 hg, mf_a m1 n1 hf, mf_b m1 n1 hf, mf_a m1 n1 hg, mf_b m1 n1 hg, bd_some, bd_some, bd_some, bd_some, bd_some, bd_some]
        generalize s.1.getD f (0, 0) = q at hq
        generalize s.1.getD g (0, 0) = q' at hq'
        have hp := pcn_le hq
        have hp' := pcn_le hq'
        obtain ⟨z1, z2, z3⟩ := pz_eq hq
        obtain ⟨z1', z2', z3'⟩ := pz_eq hq'
        obtain ⟨q1, q2, q3, q4⟩ := hq
        obtain ⟨q1', q2', q3', q4'⟩ := hq'
        have w1 : q'.2 * q.1 ≤ 20 * 20 := Nat.mul_le_mul q4' q2
        have w2 : q.2 * q'.1 ≤ 20 * 20 := Nat.mul_le_mul q4 q2'
        have w3 : 0 < q.2 * q'.1 := Nat.mul_pos (by omega) (by omega)
        rw [o6_of3 (by omega), o6_of3 (by omega), o6_of3 (by omega), o6_of3 (by omega), o6_mul, o6_mul]
        have hc : ∀ v : Int32, lw (q'.2 * q.1) (q.2 * q'.1) v = lw (q.1 * pz q) (q'.1 * pz q') v := fun v => lw_cross w3 hp'.1 (by
          have x1 : q'.2 * q.1 * (q'.1 * pz q') = q.1 * q'.1 * (pz q' * q'.2) := by
            rw [Nat.mul_comm q'.2 q.1, Nat.mul_assoc, Nat.mul_assoc]
            congr 1
            rw [Nat.mul_left_comm, Nat.mul_comm q'.2 (pz q')]
          have x2 : q.1 * pz q * (q.2 * q'.1) = q.1 * q'.1 * (pz q * q.2) := by
            rw [Nat.mul_assoc, Nat.mul_assoc]
            congr 1
            rw [Nat.mul_comm q.2 q'.1, Nat.mul_left_comm]
          rw [x1, x2, z1, z1'])
        rw [m_low (by omega) (by omega) w3, bd_some, hc 0]
        rw [m_low (by omega) (by omega) w3, hc 1]
        rw [pc_o, pc_o, c_cd (by omega) (by omega), bd_some]
        obtain ⟨g1, g2⟩ := gcd_lt (a := q.1 * pz q) (b := q'.1 * pz q') (by omega) (by omega) hp'.1
        have l0 : lw (q.1 * pz q) (q'.1 * pz q') 0 = o6 (q.1 * pz q / Nat.gcd (q.1 * pz q) (q'.1 * pz q')) := if_pos rfl
        have l1 : lw (q.1 * pz q) (q'.1 * pz q') 1 = o6 (q'.1 * pz q' / Nat.gcd (q.1 * pz q) (q'.1 * pz q')) := if_neg (by decide)
        have hdv : Nat.gcd (q.1 * pz q) (q'.1 * pz q') ∣ q.1 * pz q := Nat.gcd_dvd_left _ _
        have hu := Nat.div_mul_cancel hdv
        have hu2 := Nat.div_le_self (q.1 * pz q) (Nat.gcd (q.1 * pz q) (q'.1 * pz q'))
        have hu3 := Nat.div_le_self (q'.1 * pz q') (Nat.gcd (q.1 * pz q) (q'.1 * pz q'))
        rw [if_neg (o6_ne0 g1 g2), o6_dL (by omega) g1 g2, bd_some, o6_dL (by omega) g1 g2, l0, l1]
        generalize Nat.gcd (q.1 * pz q) (q'.1 * pz q') = gg at *
        generalize q.1 * pz q / gg = u at *
        generalize q'.1 * pz q' / gg = u' at *
        rw [bd_some, show (2 : Int64) = o6 2 from rfl, o6_rL (by omega) (by omega) (by omega), bd_some, bd_some]
        by_cases p1 : o6 (u % 2) = 0
        · rw [if_pos p1, if_pos p1]
          exact ⟨_, rfl, rfl, hR0⟩
        · rw [if_neg p1, if_neg p1, bd_some, o6_rL (by omega) (by omega) (by omega), bd_some, bd_some]
          by_cases p2 : o6 (u' % 2) = 0
          · rw [if_pos p2, if_pos p2]
            exact ⟨_, rfl, rfl, hR0⟩
          · have w4 : 12 * u * q.2 ≤ 12 * u * 20 := Nat.mul_le_mul_left _ q4
            rw [if_neg p2, if_neg p2, show (2793510720 : Int64) = o6 2793510720 from rfl, show (12 : Int64) = o6 12 from rfl, c_low (by omega) g1 (by omega), bd_some, o6_mul, o6_mul, m_low (by omega) (by omega) (by omega), bd_some]
            refine ⟨_, rfl, ?_, hR0⟩
            congr 1
            refine (lw_cross (by omega) (by omega) ?_).symm
            have x3 : 12 * u * q.2 * gg = 12 * (u * gg) * q.2 := by
              rw [Nat.mul_right_comm, Nat.mul_assoc 12 u gg]
            rw [x3, hu]
            have x4 : 12 * (q.1 * pz q) * q.2 = 12 * (pz q * q.2) * q.1 := by
              rw [Nat.mul_assoc, Nat.mul_assoc, Nat.mul_assoc]
              congr 1
              rw [Nat.mul_comm]
            rw [x4, z1]
      · rw [if_neg h3, if_pos rfl, if_pos rfl]
        exact ⟨_, rfl, rfl, hR0⟩
    · rw [if_neg h2, if_pos rfl, if_pos rfl]
      exact ⟨_, rfl, rfl, hR0⟩
  · rw [if_neg h1, if_pos rfl, if_pos rfl]
    exact ⟨_, rfl, rfl, hR0⟩
end
