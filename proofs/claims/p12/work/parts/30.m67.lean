section
/-! what only asks: floor, stair, thing, age, older, far, next, clock -/
theorem lwF {q : Nat × Nat} {v : Int32} (h : okF q) : lw (q.1 * pz q) 232792560 v = lw q.1 q.2 v := by
  obtain ⟨h1, h2, _⟩ := pz_eq h
  have e : 232792560 = q.2 * pz q := by rw [Nat.mul_comm]; exact h1.symm
  rw [show lw (q.1 * pz q) 232792560 v = lw (q.1 * pz q) (q.2 * pz q) v by rw [← e], lw_sc h2]
section QR
variable {S : fS} {F : List (Nat × Nat)} {E : List St5}
theorem cf_p (b1 : twC S 4 F E) (hm : F.length ≤ 10) {f : Nat} (hf : f < F.length) : gL S 5 10 (o3 f) = some (pc (F.getD f (0, 0))) := by
  rw [gL_o (by omega) (by omega)]
  exact congrArg some (b1.2.2.1 f hf)
theorem mf_a (m1 : twM (S.1 157) F E) (hm : F.length ≤ 10) {f : Nat} (hf : f < F.length) : gI S 157 158 ((10 : Int32) + ((2 : Int32) * o3 f)) = some (o3 (F.getD f (0, 0)).1) := by
  rw [show (10 : Int32) = o3 10 from rfl, show (2 : Int32) = o3 2 from rfl, o3_mul, o3_add, gI_o (by omega) (by omega), (m1.2.2.1 f hf).1]
theorem mf_b (m1 : twM (S.1 157) F E) (hm : F.length ≤ 10) {f : Nat} (hf : f < F.length) : gI S 157 158 (((10 : Int32) + ((2 : Int32) * o3 f)) + (1 : Int32)) = some (o3 (F.getD f (0, 0)).2) := by
  rw [show (10 : Int32) = o3 10 from rfl, show (2 : Int32) = o3 2 from rfl, o3_mul, o3_add, o3_s, gI_o (by omega) (by omega), (m1.2.2.1 f hf).2]
end QR
theorem t_4 (a1 a2 : Int32) (S : fS) (hR : Rel S) : ∃ r, f_X10_floor a1 a2 S = some r ∧ f_X11_floor a1 a2 S = some r ∧ Rel S := by
  have hR0 := hR
  obtain ⟨n, s, L, M, hT, ⟨⟨n1, n2, n3, n4, n5, n6⟩, ⟨b1, b2, b3, b4, b5⟩, ⟨m1, m2, m3, m4⟩, d⟩, hL, hM⟩ := hR
  have h8 := n5.1
  have hi1 : f_X10_isFrom a2 0 2 S = some (if ((0 : Nat) : Int) ≤ a2.toInt ∧ a2.toInt ≤ ((2 : Nat) : Int) then 1 else 0) := from_c (a := 0) (b := 2) (by omega) (by omega)
  have hi2 : f_X11_in (Int32.toInt64 a2) 0 2 S = some (if ((0 : Nat) : Int) ≤ a2.toInt ∧ a2.toInt ≤ ((2 : Nat) : Int) then 1 else 0) := in_c (a := 0) (b := 2) (by omega) (by omega)
  unfold f_X10_floor f_X11_floor
  rw [ci_floor b1.1 (by omega), mi_floor m1.1 (by omega), bd_some, bd_some, hi1, hi2, bd_some, bd_some]
  by_cases h1 : 0 ≤ a1.toInt ∧ a1.toInt < s.1.length
  · rw [if_pos h1, if_neg (show ¬ (1 : Int32) = 0 by decide), if_neg (show ¬ (1 : Int32) = 0 by decide)]
    by_cases h2 : ((0 : Nat) : Int) ≤ a2.toInt ∧ a2.toInt ≤ ((2 : Nat) : Int)
    · rw [if_pos h2, if_neg (show ¬ (1 : Int32) = 0 by decide), if_neg (show ¬ (1 : Int32) = 0 by decide)]
      by_cases h3 : a2 = 2
      · rw [if_pos h3, if_pos h3, cw_standing b3 h8, mw_standing m2 h8, bd_some]
        exact ⟨_, rfl, rfl, hR0⟩
      · obtain ⟨f, e1, e2⟩ := o3_ex h1.1
        have hf : f < s.1.length := by omega
        have hq := n3 _ (gd_mem (d := (0, 0)) hf)
        have hp := pcn_le hq
        obtain ⟨q1, q2, q3, q4⟩ := hq
        rw [if_neg h3, if_neg h3, e1, cf_p b1 n1 hf, mf_a m1 n1 hf, mf_b m1 n1 hf, bd_some, bd_some, bd_some, pc_o, show (232792560 : Int64) = o6 232792560 from rfl, c_low (by omega) (by omega) (by omega), bd_some, o6_of3 (by omega), o6_of3 (by omega), m_low (by omega) (by omega) (by omega), bd_some, lwF ⟨q1, q2, q3, q4⟩]
        exact ⟨_, rfl, rfl, hR0⟩
    · rw [if_neg h2, if_pos rfl, if_pos rfl]
      exact ⟨_, rfl, rfl, hR0⟩
  · rw [if_neg h1, if_pos rfl, if_pos rfl]
    exact ⟨_, rfl, rfl, hR0⟩
theorem t_5 (a1 a2 : Int32) (S : fS) (hR : Rel S) : ∃ r, f_X10_stair a1 a2 S = some r ∧ f_X11_stair a1 a2 S = some r ∧ Rel S := by
  have hR0 := hR
  obtain ⟨n, s, L, M, hT, ⟨⟨n1, n2, n3, n4, n5, n6⟩, ⟨b1, b2, b3, b4, b5⟩, ⟨m1, m2, m3, m4⟩, d⟩, hL, hM⟩ := hR
  have hi1 : f_X10_isFrom a2 0 4 S = some (if ((0 : Nat) : Int) ≤ a2.toInt ∧ a2.toInt ≤ ((4 : Nat) : Int) then 1 else 0) := from_c (a := 0) (b := 4) (by omega) (by omega)
  have hi2 : f_X11_in (Int32.toInt64 a2) 0 4 S = some (if ((0 : Nat) : Int) ≤ a2.toInt ∧ a2.toInt ≤ ((4 : Nat) : Int) then 1 else 0) := in_c (a := 0) (b := 4) (by omega) (by omega)
  unfold f_X10_stair f_X11_stair
  rw [b1.2.1, from_o (by omega), mi_stair m1.2.1 (by omega), bd_some, bd_some, hi1, hi2, bd_some, bd_some]
  by_cases h1 : 0 ≤ a1.toInt ∧ a1.toInt < s.2.1.length
  · rw [if_pos h1, if_neg (show ¬ (1 : Int32) = 0 by decide), if_neg (show ¬ (1 : Int32) = 0 by decide)]
    by_cases h2 : ((0 : Nat) : Int) ≤ a2.toInt ∧ a2.toInt ≤ ((4 : Nat) : Int)
    · rw [if_pos h2, if_neg (show ¬ (1 : Int32) = 0 by decide), if_neg (show ¬ (1 : Int32) = 0 by decide)]
      obtain ⟨f, e1, e2⟩ := o3_ex h1.1
      obtain ⟨v, g1, g2⟩ := o3_ex (x := a2) (by omega)
      have hf : f < s.2.1.length := by omega
      obtain ⟨_, _, _, _, _, hq⟩ := n4 _ (gd_mem (d := d5) hf)
      have hp := pcn_le hq
      have hq0 := hq
      obtain ⟨q1, q2, q3, q4⟩ := hq
      obtain ⟨w1, w2, w3, w4⟩ := b1.2.2.2 f hf
      obtain ⟨u1, u2, u3, u4, u5⟩ := mh_stair m1 n2 hf
      have hlow : ∀ v' : Int32, ((gL S 9 12 (o3 f)).bind fun a21 => (f_X10_lowest a21 (232792560 : Int64) v' S).bind fun q24 => some (Int64.toInt32 q24)) = ((f_X11_stairOf (o3 f) (3 : Int32) S).bind fun q10 => (f_X11_stairOf (o3 f) (4 : Int32) S).bind fun q13 => (f_X11_lowest (Int32.toInt64 q10) (Int32.toInt64 q13) v' S).bind fun q16 => some (Int64.toInt32 q16)) ∧ ∃ r, ((gL S 9 12 (o3 f)).bind fun a21 => (f_X10_lowest a21 (232792560 : Int64) v' S).bind fun q24 => some (Int64.toInt32 q24)) = some r := fun v' => by
        have u4 : f_X11_stairOf (o3 f) 3 S = some (o3 (s.2.1.getD f d5).2.2.2.1) := u4
        have u5 : f_X11_stairOf (o3 f) 4 S = some (o3 (s.2.1.getD f d5).2.2.2.2) := u5
        rw [gL_o (by omega) (by omega), bd_some, show S.2 9 f = pc (s.2.1.getD f d5).2.2.2 from w4, pc_o, show (232792560 : Int64) = o6 232792560 from rfl, c_low (by omega) (by omega) (by omega), bd_some, u4, u5, bd_some, bd_some, o6_of3 (by omega), o6_of3 (by omega), m_low (by omega) (by omega) (by omega), bd_some, lwF hq0]
        exact ⟨rfl, _, rfl⟩
      have : v = 0 ∨ v = 1 ∨ v = 2 ∨ v = 3 ∨ v = 4 := by omega
      rw [e1, g1]
      rcases this with rfl | rfl | rfl | rfl | rfl
      · rw [if_pos (show o3 0 = (0 : Int32) from rfl), if_neg (show ¬ (3 : Int32) ≤ o3 0 by decide), gI_o (by omega) (by omega), bd_some, u1, bd_some]
        exact ⟨_, congrArg some w1, rfl, hR0⟩
      · rw [if_neg (show ¬ o3 1 = (0 : Int32) by decide), if_pos (show o3 1 = (1 : Int32) from rfl), if_neg (show ¬ (3 : Int32) ≤ o3 1 by decide), gI_o (by omega) (by omega), bd_some, u2, bd_some]
        exact ⟨_, congrArg some w2, rfl, hR0⟩
      · rw [if_neg (show ¬ o3 2 = (0 : Int32) by decide), if_neg (show ¬ o3 2 = (1 : Int32) by decide), if_pos (show o3 2 = (2 : Int32) from rfl), if_neg (show ¬ (3 : Int32) ≤ o3 2 by decide), gI_o (by omega) (by omega), bd_some, u3, bd_some]
        exact ⟨_, congrArg some w3, rfl, hR0⟩
      · rw [if_neg (show ¬ o3 3 = (0 : Int32) by decide), if_neg (show ¬ o3 3 = (1 : Int32) by decide), if_neg (show ¬ o3 3 = (2 : Int32) by decide), if_pos (show (3 : Int32) ≤ o3 3 by decide)]
        obtain ⟨z1, r, z2⟩ := hlow (o3 3 - 3)
        exact ⟨r, z2, z1 ▸ z2, hR0⟩
      · rw [if_neg (show ¬ o3 4 = (0 : Int32) by decide), if_neg (show ¬ o3 4 = (1 : Int32) by decide), if_neg (show ¬ o3 4 = (2 : Int32) by decide), if_pos (show (3 : Int32) ≤ o3 4 by decide)]
        obtain ⟨z1, r, z2⟩ := hlow (o3 4 - 3)
        exact ⟨r, z2, z1 ▸ z2, hR0⟩
    · rw [if_neg h2, if_pos rfl, if_pos rfl]
      exact ⟨_, rfl, rfl, hR0⟩
  · rw [if_neg h1, if_pos rfl, if_pos rfl]
    exact ⟨_, rfl, rfl, hR0⟩
theorem t_6 (a1 a2 : Int32) (S : fS) (hR : Rel S) : ∃ r, f_X10_thing a1 a2 S = some r ∧ f_X11_thing a1 a2 S = some r ∧ Rel S := by
  have hR0 := hR
  obtain ⟨n, s, L, M, hT, ⟨⟨n1, n2, n3, n4, n5, n6⟩, ⟨b1, b2, b3, b4, b5⟩, ⟨m1, m2, m3, m4⟩, d⟩, hL, hM⟩ := hR
  have h8 := n5.1
  have hi1 : f_X10_isFrom a2 0 3 S = some (if ((0 : Nat) : Int) ≤ a2.toInt ∧ a2.toInt ≤ ((3 : Nat) : Int) then 1 else 0) := from_c (a := 0) (b := 3) (by omega) (by omega)
  have hi2 : f_X11_in (Int32.toInt64 a2) 0 3 S = some (if ((0 : Nat) : Int) ≤ a2.toInt ∧ a2.toInt ≤ ((3 : Nat) : Int) then 1 else 0) := in_c (a := 0) (b := 3) (by omega) (by omega)
  unfold f_X10_thing f_X11_thing
  rw [ci_thing b3.1 (by omega), mi_thing m2.1 (by omega), bd_some, bd_some, hi1, hi2, bd_some, bd_some]
  by_cases h1 : 0 ≤ a1.toInt ∧ a1.toInt < s.2.2.1.1
  · rw [if_pos h1, if_neg (show ¬ (1 : Int32) = 0 by decide), if_neg (show ¬ (1 : Int32) = 0 by decide)]
    by_cases h2 : ((0 : Nat) : Int) ≤ a2.toInt ∧ a2.toInt ≤ ((3 : Nat) : Int)
    · rw [if_pos h2, if_neg (show ¬ (1 : Int32) = 0 by decide), if_neg (show ¬ (1 : Int32) = 0 by decide)]
      obtain ⟨f, e1, e2⟩ := o3_ex h1.1
      obtain ⟨v, g1, g2⟩ := o3_ex (x := a2) (by omega)
      have hf : f < s.2.2.1.1 := by omega
      obtain ⟨w1, w2, w3, w4, w5⟩ := b3.2.2 f hf
      obtain ⟨u1, u2, u3, u4, u5⟩ := m2.2.2 f hf
      rw [e1, g1, mw_thing (by omega) (by omega), bd_some]
      have : v = 0 ∨ v = 1 ∨ v = 2 ∨ v = 3 := by omega
      rcases this with rfl | rfl | rfl | rfl
      · rw [if_pos (show o3 0 = (0 : Int32) from rfl), gI_o (by omega) (by omega), bd_some]
        exact ⟨_, congrArg some w1, congrArg some u1, hR0⟩
      · rw [if_neg (show ¬ o3 1 = (0 : Int32) by decide), if_pos (show o3 1 = (1 : Int32) from rfl), gI_o (by omega) (by omega), bd_some]
        exact ⟨_, congrArg some w2, congrArg some u2, hR0⟩
      · rw [if_neg (show ¬ o3 2 = (0 : Int32) by decide), if_neg (show ¬ o3 2 = (1 : Int32) by decide), if_pos (show o3 2 = (2 : Int32) from rfl), gI_o (by omega) (by omega), bd_some]
        exact ⟨_, congrArg some w3, congrArg some u3, hR0⟩
      · rw [if_neg (show ¬ o3 3 = (0 : Int32) by decide), if_neg (show ¬ o3 3 = (1 : Int32) by decide), if_neg (show ¬ o3 3 = (2 : Int32) by decide), gI_o (by omega) (by omega), bd_some]
        exact ⟨_, congrArg some w4, congrArg some u4, hR0⟩
    · rw [if_neg h2, if_pos rfl, if_pos rfl]
      exact ⟨_, rfl, rfl, hR0⟩
  · rw [if_neg h1, if_pos rfl, if_pos rfl]
    exact ⟨_, rfl, rfl, hR0⟩
/-- an age as a number -/
theorem age_o {m : Nat} {E : List St5} {C : Cw} (h : okC m E C) {k : Nat} (hk : k < C.1) : ∃ a, C.2.2.2.2.2.2 k = o6 a ∧ a ≤ 46553856148800 := by
  obtain ⟨_, h1, h2⟩ := h
  obtain ⟨_, h3, h4⟩ := h2 k hk
  obtain ⟨a, e1, e2⟩ := o6_of h3
  exact ⟨a, e1, by omega⟩
theorem part_c {v : Int32} {S : fS} : f_X10_isPart v S = some (if ((0 : Nat) : Int) ≤ v.toInt ∧ v.toInt ≤ ((1 : Nat) : Int) then 1 else 0) := by
  unfold f_X10_isPart
  have : f_X10_isFrom v 0 1 S = some (if ((0 : Nat) : Int) ≤ v.toInt ∧ v.toInt ≤ ((1 : Nat) : Int) then 1 else 0) := from_c (a := 0) (b := 1) (by omega) (by omega)
  rw [this, bd_some]
  split <;> rfl
theorem part_m {v : Int32} {S : fS} : f_X11_in (Int32.toInt64 v) 0 1 S = some (if ((0 : Nat) : Int) ≤ v.toInt ∧ v.toInt ≤ ((1 : Nat) : Int) then 1 else 0) := in_c (a := 0) (b := 1) (by omega) (by omega)
theorem hour_c {v : Int32} {S : fS} : f_X10_isHour v S = some (if ((0 : Nat) : Int) ≤ v.toInt ∧ v.toInt ≤ ((9999 : Nat) : Int) then 1 else 0) := by
  unfold f_X10_isHour
  have : f_X10_isFrom v 0 9999 S = some (if ((0 : Nat) : Int) ≤ v.toInt ∧ v.toInt ≤ ((9999 : Nat) : Int) then 1 else 0) := from_c (a := 0) (b := 9999) (by omega) (by omega)
  rw [this, bd_some]
  split <;> rfl
theorem hour_m {v : Int32} {S : fS} : f_X11_in (Int32.toInt64 v) 0 9999 S = some (if ((0 : Nat) : Int) ≤ v.toInt ∧ v.toInt ≤ ((9999 : Nat) : Int) then 1 else 0) := in_c (a := 0) (b := 9999) (by omega) (by omega)
theorem t_7 (a1 a2 : Int32) (S : fS) (hR : Rel S) : ∃ r, f_X10_age a1 a2 S = some r ∧ f_X11_age a1 a2 S = some r ∧ Rel S := by
  have hR0 := hR
  obtain ⟨n, s, L, M, hT, ⟨⟨n1, n2, n3, n4, n5, n6⟩, ⟨b1, b2, b3, b4, b5⟩, ⟨m1, m2, m3, m4⟩, d⟩, hL, hM⟩ := hR
  have h8 := n5.1
  unfold f_X10_age f_X11_age
  rw [ci_thing b3.1 (by omega), mi_thing m2.1 (by omega), bd_some, bd_some, part_c, part_m, bd_some, bd_some]
  by_cases h1 : 0 ≤ a1.toInt ∧ a1.toInt < s.2.2.1.1
  · rw [if_pos h1, if_neg (show ¬ (1 : Int32) = 0 by decide), if_neg (show ¬ (1 : Int32) = 0 by decide)]
    by_cases h2 : ((0 : Nat) : Int) ≤ a2.toInt ∧ a2.toInt ≤ ((1 : Nat) : Int)
    · rw [if_pos h2, if_neg (show ¬ (1 : Int32) = 0 by decide), if_neg (show ¬ (1 : Int32) = 0 by decide)]
      obtain ⟨f, e1, e2⟩ := o3_ex h1.1
      have hf : f < s.2.2.1.1 := by omega
      obtain ⟨a, g1, g2⟩ := age_o n5 hf
      rw [e1, gL_o (by omega) (by omega), gL_o (by omega) (by omega), bd_some, bd_some, show S.2 16 f = o6 a from ((b3.2.2 f hf).2.2.2.2).trans g1, show S.2 158 f = o6 a from ((m2.2.2 f hf).2.2.2.2).trans g1, show (232792560 : Int64) = o6 232792560 from rfl, c_low (by omega) (by omega) (by omega), m_low (by omega) (by omega) (by omega), bd_some]
      exact ⟨_, rfl, rfl, hR0⟩
    · rw [if_neg h2, if_pos rfl, if_pos rfl]
      exact ⟨_, rfl, rfl, hR0⟩
  · rw [if_neg h1, if_pos rfl, if_pos rfl]
    exact ⟨_, rfl, rfl, hR0⟩
theorem t_8 (a1 a2 : Int32) (S : fS) (hR : Rel S) : ∃ r, f_X10_older a1 a2 S = some r ∧ f_X11_older a1 a2 S = some r ∧ Rel S := by
  have hR0 := hR
  obtain ⟨n, s, L, M, hT, ⟨⟨n1, n2, n3, n4, n5, n6⟩, ⟨b1, b2, b3, b4, b5⟩, ⟨m1, m2, m3, m4⟩, d⟩, hL, hM⟩ := hR
  have h8 := n5.1
  unfold f_X10_older f_X11_older
  rw [ci_thing b3.1 (by omega), mi_thing m2.1 (by omega), ci_thing b3.1 (by omega), mi_thing m2.1 (by omega), bd_some, bd_some, bd_some, bd_some]
  by_cases h1 : 0 ≤ a1.toInt ∧ a1.toInt < s.2.2.1.1
  · rw [if_pos h1, if_neg (show ¬ (1 : Int32) = 0 by decide), if_neg (show ¬ (1 : Int32) = 0 by decide)]
    by_cases h2 : 0 ≤ a2.toInt ∧ a2.toInt < s.2.2.1.1
    · rw [if_pos h2, if_neg (show ¬ (1 : Int32) = 0 by decide), if_neg (show ¬ (1 : Int32) = 0 by decide)]
      obtain ⟨f, e1, e2⟩ := o3_ex h1.1
      have hf : f < s.2.2.1.1 := by omega
      obtain ⟨a, g1, g2⟩ := age_o n5 hf
      obtain ⟨f', e1', e2'⟩ := o3_ex h2.1
      have hf' : f' < s.2.2.1.1 := by omega
      obtain ⟨a', g1', g2'⟩ := age_o n5 hf'
      rw [e1, e1', gL_o (by omega) (by omega), gL_o (by omega) (by omega), gL_o (by omega) (by omega), gL_o (by omega) (by omega), bd_some, bd_some, bd_some, bd_some, bd_some, bd_some, show S.2 16 f = o6 a from ((b3.2.2 f hf).2.2.2.2).trans g1, show S.2 158 f = o6 a from ((m2.2.2 f hf).2.2.2.2).trans g1, show S.2 16 f' = o6 a' from ((b3.2.2 f' hf').2.2.2.2).trans g1', show S.2 158 f' = o6 a' from ((m2.2.2 f' hf').2.2.2.2).trans g1']
      have hs : (o6 a - o6 a').toInt = (a : Int) - a' := by rw [nl_sub (by rw [o6_int (by omega), o6_int (by omega)]; omega) (by rw [o6_int (by omega), o6_int (by omega)]; omega), o6_int (by omega), o6_int (by omega)]
      by_cases h3 : a ≤ a'
      · rw [if_pos (show o6 a ≤ o6 a' from (o6_le (by omega) (by omega)).mpr h3)]
        by_cases h4 : a' ≤ a
        · rw [if_pos (show o6 a' ≤ o6 a from (o6_le (by omega) (by omega)).mpr h4), if_pos (show o6 a - o6 a' = 0 from nl_eq.mpr (by rw [hs, nl_0]; omega))]
          exact ⟨_, rfl, rfl, hR0⟩
        · rw [if_neg (show ¬ o6 a' ≤ o6 a from fun q => h4 ((o6_le (by omega) (by omega)).mp q)), if_neg (show ¬ o6 a - o6 a' = 0 from fun q => by have := nl_eq.mp q; rw [hs, nl_0] at this; omega), if_pos (show o6 a - o6 a' ≤ 0 from nl_le.mpr (by rw [hs, nl_0]; omega))]
          exact ⟨_, rfl, rfl, hR0⟩
      · rw [if_neg (show ¬ o6 a ≤ o6 a' from fun q => h3 ((o6_le (by omega) (by omega)).mp q)), if_neg (show ¬ o6 a - o6 a' = 0 from fun q => by have := nl_eq.mp q; rw [hs, nl_0] at this; omega), if_neg (show ¬ o6 a - o6 a' ≤ 0 from fun q => by have := nl_le.mp q; rw [hs, nl_0] at this; omega)]
        exact ⟨_, rfl, rfl, hR0⟩
    · rw [if_neg h2, if_pos rfl, if_pos rfl]
      exact ⟨_, rfl, rfl, hR0⟩
  · rw [if_neg h1, if_pos rfl, if_pos rfl]
    exact ⟨_, rfl, rfl, hR0⟩
theorem t_12 (a1 a2 : Int32) (S : fS) (hR : Rel S) : ∃ r, f_X10_far a1 a2 S = some r ∧ f_X11_far a1 a2 S = some r ∧ Rel S := by
  have hR0 := hR
  obtain ⟨n, s, L, M, hT, ⟨⟨n1, n2, n3, n4, n5, n6⟩, ⟨b1, b2, b3, b4, b5⟩, ⟨m1, m2, m3, m4⟩, d⟩, hL, hM⟩ := hR
  unfold f_X10_far f_X11_far
  rw [ci_floor b1.1 (by omega), mi_floor m1.1 (by omega), ci_floor b1.1 (by omega), mi_floor m1.1 (by omega), bd_some, bd_some, bd_some, bd_some]
  by_cases h1 : 0 ≤ a1.toInt ∧ a1.toInt < s.1.length
  · rw [if_pos h1, if_neg (show ¬ (1 : Int32) = 0 by decide), if_neg (show ¬ (1 : Int32) = 0 by decide)]
    by_cases h2 : 0 ≤ a2.toInt ∧ a2.toInt < s.1.length
    · rw [if_pos h2, if_neg (show ¬ (1 : Int32) = 0 by decide), if_neg (show ¬ (1 : Int32) = 0 by decide)]
      obtain ⟨f, e1, e2⟩ := o3_ex h1.1
      obtain ⟨g, e3, e4⟩ := o3_ex h2.1
      rw [e1, e3, ch_btw b2 n1 (by omega) (by omega), bd_some, mh_btw d n1 (by omega) (by omega), bd_some, bd_some]
      rcases cwv_cs (E := s.2.1) (a := f) (b := g) with ⟨h, e⟩ | ⟨h, e⟩
      · rw [e, h, if_neg (show ¬ (0 : Int32) ≤ -1 by decide), if_neg (show ¬ o6 99999 < (99999 : Int64) by decide)]
        exact ⟨_, rfl, rfl, hR0⟩
      · rw [e, if_pos (o3_0le (by omega)), if_pos (show o6 (dst s.2.1 f g) < (99999 : Int64) from (o6_lt (b := 99999) (by omega) (by omega)).mpr h), o6_to3 (by omega)]
        exact ⟨_, rfl, rfl, hR0⟩
    · rw [if_neg h2, if_pos rfl, if_pos rfl]
      exact ⟨_, rfl, rfl, hR0⟩
  · rw [if_neg h1, if_pos rfl, if_pos rfl]
    exact ⟨_, rfl, rfl, hR0⟩
theorem t_13 (a1 a2 : Int32) (S : fS) (hR : Rel S) : ∃ r, f_X10_next a1 a2 S = some r ∧ f_X11_next a1 a2 S = some r ∧ Rel S := by
  have hR0 := hR
  obtain ⟨n, s, L, M, hT, ⟨⟨n1, n2, n3, n4, n5, n6⟩, ⟨b1, b2, b3, b4, b5⟩, ⟨m1, m2, m3, m4⟩, d⟩, hL, hM⟩ := hR
  unfold f_X10_next f_X11_next
  rw [ci_floor b1.1 (by omega), mi_floor m1.1 (by omega), ci_floor b1.1 (by omega), mi_floor m1.1 (by omega), bd_some, bd_some, bd_some, bd_some]
  by_cases h1 : 0 ≤ a1.toInt ∧ a1.toInt < s.1.length
  · rw [if_pos h1, if_neg (show ¬ (1 : Int32) = 0 by decide), if_neg (show ¬ (1 : Int32) = 0 by decide)]
    by_cases h2 : 0 ≤ a2.toInt ∧ a2.toInt < s.1.length
    · rw [if_pos h2, if_neg (show ¬ (1 : Int32) = 0 by decide), if_neg (show ¬ (1 : Int32) = 0 by decide)]
      obtain ⟨f, e1, e2⟩ := o3_ex h1.1
      obtain ⟨g, e3, e4⟩ := o3_ex h2.1
      rw [e1, e3, ch_first b1 b2 n4 n1 n2 (by omega) (by omega), bd_some, mh_next m1 d n4 n1 n2 (by omega) (by omega), bd_some]
      unfold fsI fsJ
      cases hfs : fS1 s.2.1 f g with
      | none =>
        dsimp only
        rw [if_neg (show ¬ (0 : Int32) ≤ -1 by decide)]
        exact ⟨_, rfl, rfl, hR0⟩
      | some k =>
        dsimp only
        unfold fS1 at hfs
        split at hfs
        · exact nomatch hfs
        · obtain ⟨x, y, z⟩ := fsf_pr _ _ _ hfs
          rw [if_pos (o3_0le (by omega))]
          exact ⟨_, rfl, rfl, hR0⟩
    · rw [if_neg h2, if_pos rfl, if_pos rfl]
      exact ⟨_, rfl, rfl, hR0⟩
  · rw [if_neg h1, if_pos rfl, if_pos rfl]
    exact ⟨_, rfl, rfl, hR0⟩
theorem t_14 (a1 a2 a3 : Int32) (S : fS) (hR : Rel S) : ∃ r, f_X10_clock a1 a2 a3 S = some r ∧ f_X11_clock a1 a2 a3 S = some r ∧ Rel S := by
  have hR0 := hR
  obtain ⟨n, s, L, M, hT, ⟨⟨n1, n2, n3, n4, n5, n6⟩, ⟨b1, b2, b3, b4, b5⟩, ⟨m1, m2, m3, m4⟩, d⟩, hL, hM⟩ := hR
  unfold f_X10_clock f_X11_clock
  rw [ci_floor b1.1 (by omega), mi_floor m1.1 (by omega), bd_some, bd_some, hour_c, hour_m, bd_some, bd_some, part_c, part_m, bd_some, bd_some]
  by_cases h1 : 0 ≤ a1.toInt ∧ a1.toInt < s.1.length
  · rw [if_pos h1, if_neg (show ¬ (1 : Int32) = 0 by decide), if_neg (show ¬ (1 : Int32) = 0 by decide)]
    by_cases h2 : ((0 : Nat) : Int) ≤ a2.toInt ∧ a2.toInt ≤ ((9999 : Nat) : Int)
    · rw [if_pos h2, if_neg (show ¬ (1 : Int32) = 0 by decide), if_neg (show ¬ (1 : Int32) = 0 by decide)]
      by_cases h3 : ((0 : Nat) : Int) ≤ a3.toInt ∧ a3.toInt ≤ ((1 : Nat) : Int)
      · rw [if_pos h3, if_neg (show ¬ (1 : Int32) = 0 by decide), if_neg (show ¬ (1 : Int32) = 0 by decide)]
        obtain ⟨f, e1, e2⟩ := o3_ex h1.1
        obtain ⟨v, e3, e4⟩ := o3_ex (x := a2) (by omega)
        have hf : f < s.1.length := by omega
        have hq := n3 _ (gd_mem (d := (0, 0)) hf)
        have hp := pcn_le hq
        obtain ⟨z1, z2, z3⟩ := pz_eq hq
        have hb1 : v * ((s.1.getD f (0, 0)).1 * pz (s.1.getD f (0, 0))) ≤ 9999 * 4655851200 := Nat.mul_le_mul (by omega) hp.2
        have hb2 : v * (s.1.getD f (0, 0)).1 ≤ 9999 * 20 := Nat.mul_le_mul (by omega) hq.2.1
        have hq3 := hq.2.2.1
        have hq4 := hq.2.2.2
        have hq2 := hq.2.1
        unfold f_X8_clockAt
        rw [e1, e3, show gL S (4 + 1) 10 (o3 f) = some (pc (s.1.getD f (0, 0))) from cf_p b1 n1 hf, mf_a m1 n1 hf, mf_b m1 n1 hf, bd_some, bd_some, bd_some, bd_some, pc_o, o6_of3 (by omega), o6_mul, show (232792560 : Int64) = o6 232792560 from rfl, c_low (by omega) (by omega) (by omega), bd_some, o6_of3 (by omega), o6_mul, o6_of3 (by omega), m_low (by omega) (by omega) (by omega), bd_some]
        refine ⟨_, rfl, ?_, hR0⟩
        congr 1
        refine lw_cross (by omega) (by omega) ?_
        rw [Nat.mul_assoc, Nat.mul_assoc, show 232792560 = pz (s.1.getD f (0, 0)) * (s.1.getD f (0, 0)).2 from z1.symm, Nat.mul_assoc]
      · rw [if_neg h3, if_pos rfl, if_pos rfl]
        exact ⟨_, rfl, rfl, hR0⟩
    · rw [if_neg h2, if_pos rfl, if_pos rfl]
      exact ⟨_, rfl, rfl, hR0⟩
  · rw [if_neg h1, if_pos rfl, if_pos rfl]
    exact ⟨_, rfl, rfl, hR0⟩
end
