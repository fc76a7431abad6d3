section
/-! what only asks: floor, stair, thing, age, older, far, next, clock -/
theorem lwF {q : Nat × Nat} {v : Int32} (h : okF q) : lw (q.1 * pz q) 232792560 v = lw q.1 q.2 v := by
  obtain ⟨h1, h2, _⟩ := pz_eq h
  have e : 232792560 = q.2 * pz q := by rw [Nat.mul_comm]; exact h1.symm
  rw [show lw (q.1 * pz q) 232792560 v = lw (q.1 * pz q) (q.2 * pz q) v by rw [← e], lw_sc h2]
section QR
variable {S : fS} {F : List (Nat × Nat)} {E : List St5}
theorem cf_p (b1 : twC S 4 F E) (hm : F.length ≤ 10) {f : Nat} (hf : f < F.length) : gL S 5 10 (o3 f) = some (pc (F.getD f (0, 0))) := by
  rw [gL_o (by omega) (by omega)]
  exact congrArg some (b1.2.2.1 f hf)
theorem mf_a (m1 : twM (S.1 157) F E) (hm : F.length ≤ 10) {f : Nat} (hf : f < F.length) : gI S 157 158 ((10 : Int32) + ((2 : Int32) * o3 f)) = some (o3 (F.getD f (0, 0)).1) := by
  rw [show (10 : Int32) = o3 10 from rfl, show (2 : Int32) = o3 2 from rfl, o3_mul, o3_add, gI_o (by omega) (by omega), (m1.2.2.1 f hf).1]
theorem mf_b (m1 : twM (S.1 157) F E) (hm : F.length ≤ 10) {f : Nat} (hf : f < F.length) : gI S 157 158 (((10 : Int32) + ((2 : Int32) * o3 f)) + (1 : Int32)) = some (o3 (F.getD f (0, 0)).2) := by
  rw [show (10 : Int32) = o3 10 from rfl, show (2 : Int32) = o3 2 from rfl, o3_mul, o3_add, o3_s, gI_o (by omega) (by omega), (m1.2.2.1 f hf).2]
end QR
theorem t_4 (a1 a2 : Int32) (S : fS) (hR : Rel S) : ∃ r, f_X10_floor a1 a2 S = some r ∧ f_X11_floor a1 a2 S = some r ∧ Rel S := by
  have hR0 := hR
  obtain ⟨n, s, L, M, hT, ⟨⟨n1, n2, n3, n4, n5, n6⟩, ⟨b1, b2, b3, b4, b5⟩, ⟨m1, m2, m3, m4⟩, d⟩, hL, hM⟩ := hR
  have h8 := n5.1
  have hi1 : f_X10_isFrom a2 0 2 S = some (if ((0 : Nat) : Int) ≤ a2.toInt ∧ a2.toInt ≤ ((2 : Nat) : Int) then 1 else 0) := from_c (a := 0) (b := 2) (by omega) (by omega)
  have hi2 : f_X11_in (Int32.toInt64 a2) 0 2 S = some (if ((0 : Nat) : Int) ≤ a2.toInt ∧ a2.toInt ≤ ((2 : Nat) : Int) then 1 else 0) := in_c (a := 0) (b := 2) (by omega) (by omega)
  unfold f_X10_floor f_X11_floor
  rw [ci_floor b1.1 (by omega), mi_floor m1.1 (by omega), bd_some, bd_some, hi1, hi2, bd_some, bd_some]
  by_cases h1 : 0 ≤ a1.toInt ∧ a1.toInt < s.1.length
  · rw [if_pos h1, if_neg (show ¬ (1 : Int32) = 0 by decide), if_neg (show ¬ (1 : Int32) = 0 by decide)]
    by_cases h2 : ((0 : Nat) : Int) ≤ a2.toInt ∧ a2.toInt ≤ ((2 : Nat) : Int)
    · rw [if_pos h2, if_neg (show ¬ (1 : Int32) = 0 by decide), if_neg (show ¬ (1 : Int32) = 0 by decide)]
      by_cases h3 : a2 = 2
      · rw [if_pos h3, if_pos h3, cw_standing b3 h8, mw_standing m2 h8, bd_some]
        exact ⟨_, rfl, rfl, hR0⟩
      · obtain ⟨f, e1, e2⟩ := o3_ex h1.1
        have hf : f < s.1.length := by omega
        have hq := n3 _ (gd_mem (d := (0, 0)) hf)
        have hp := pcn_le hq
        obtain ⟨q1, q2, q3, q4⟩ := hq
        rw [if_neg h3, if_neg h3, e1, cf_p b1 n1 hf, mf_a m1 n1 hf, mf_b m1 n1 hf, bd_some, bd_some, bd_some, pc_o, show (232792560 : Int64) = o6 232792560 from rfl, c_low (by omega) (by omega) (by omega), bd_some, o6_of3 (by omega), o6_of3 (by omega), m_low (by omega) (by omega) (by omega), bd_some, lwF ⟨q1, q2, q3, q4⟩]
        exact ⟨_, rfl, rfl, hR0⟩
    · rw [if_neg h2, if_pos rfl, if_pos rfl]
      exact ⟨_, rfl, rfl, hR0⟩
  · rw [if_neg h1, if_pos rfl, if_pos rfl]
    exact ⟨_, rfl, rfl, hR0⟩
theorem t_5 (a1 a2 : Int32) (S : fS) (hR : Rel S) : ∃ r, f_X10_stair a1 a2 S = some r ∧ f_X11_stair a1 a2 S = some r ∧ Rel S := by
  have hR0 := hR
  obtain ⟨n, s, L, M, hT, ⟨⟨n1, n2, n3, n4, n5, n6⟩, ⟨b1, b2, b3, b4, b5⟩, ⟨m1, m2, m3, m4⟩, d⟩, hL, hM⟩ := hR
  have hi1 : f_X10_isFrom a2 0 4 S = some (if ((0 : Nat) : Int) ≤ a2.toInt ∧ a2.toInt ≤ ((4 : Nat) : Int) then 1 else 0) := from_c (a := 0) (b := 4) (by omega) (by omega)
  have hi2 : f_X11_in (Int32.toInt64 a2) 0 4 S = some (if ((0 : Nat) : Int) ≤ a2.toInt ∧ a2.toInt ≤ ((4 : Nat) : Int) then 1 else 0) := in_c (a := 0) (b := 4) (by omega) (by omega)
  unfold f_X10_stair f_X11_stair
  rw [b1.2.1, from_o (by omega), mi_stair m1.2.1 (by omega), bd_some, bd_some, hi1, hi2, bd_some, bd_some]
  by_cases h1 : 0 ≤ a1.toInt ∧ a1.toInt < s.2.1.length
  · rw [if_pos h1, if_neg (show ¬ (1 : Int32) = 0 by decide), if_neg (show ¬ (1 : Int32) = 0 by decide)]
    by_cases h2 : ((0 : Nat) : Int) ≤ a2.toInt ∧ a2.toInt ≤ ((4 : Nat) : Int)
    · rw [if_pos h2, if_neg (show ¬ (1 : Int32) = 0 by decide), if_neg (show ¬ (1 : Int32) = 0 by decide)]
      obtain ⟨f, e1, e2⟩ := o3_ex h1.1
      obtain ⟨v, g1, g2⟩ := o3_ex (x := a2) (by omega)
      have hf : f < s.2.1.length := by omega
      obtain ⟨_, _, _, _, _, hq⟩ := n4 _ (gd_mem (d := d5) hf)
      have hp := pcn_le hq
      have hq0 := hq
      obtain ⟨q1, q2, q3, q4⟩ := hq
      obtain ⟨w1, w2, w3, w4⟩ := b1.2.2.2 f hf
      obtain ⟨u1, u2, u3, u4, u5⟩ := mh_stair m1 n2 hf
      have hlow : ∀ v' : Int32, ((gL S 9 12 (o3 f)).bind fun a21 => (f_X10_lowest a21 (232792560 : Int64) v' S).bind fun q24 => some (Int64.toInt32 q24)) = ((f_X11_stairOf (o3 f) (3 : Int32) S).bind fun q10 => (f_X11_stairOf (o3 f) (4 : Int32) S).bind fun q13 => (f_X11_lowest (Int32.toInt64 q10) (Int32.toInt64 q13) v' S).bind fun q16 => some (Int64.toInt32 q16)) ∧ ∃ r, ((gL S 9 12 (o3 f)).bind fun a21 => (f_X10_lowest a21 (232792560 : Int64) v' S).bind fun q24 => some (Int64.toInt32 q24)) = some r := fun v' => by
        have u4 : f_X11_stairOf (o3 f) 3 S = some (o3 (s.2.1.getD f d5).2.2.2.1) := u4
        have u5 : f_X11_stairOf (o3 f) 4 S = some (o3 (s.2.1.getD f d5).2.2.2.2) := u5
        rw [gL_o (by omega) (by omega), bd_some, show S.2 9 f = pc (s.2.1.getD f d5).2.2.2 from w4, pc_o, show (232792560 : Int64) = o6 232792560 from rfl, c_low (by omega) (by omega) (by omega), bd_some, u4, u5, bd_some, bd_some, o6_of3 (by omega), o6_of3 (by omega), m_low (by omega) (by omega) (by omega), bd_some, lwF hq0]
        exact ⟨rfl, _, rfl⟩
      have : v = 0 ∨ v = 1 ∨ v = 2 ∨ v = 3 ∨ v = 4 := by omega
      rw [e1, g1]
      rcases this with rfl | rfl | rfl | rfl | rfl
      · rw [if_pos (show o3 0 = (0 : Int32) from rfl), if_neg (show ¬ (3 : Int32) ≤ o3 0 by decide), gI_o (by omega) (by omega), bd_some, u1, bd_some]
        exact ⟨_, congrArg some w1, rfl, hR0⟩
      · rw [if_neg (show ¬ o3 1 = (0 : Int32) by decide), if_pos (show o3 1 = (1 : Int32) from rfl), if_neg (show ¬ (3 : Int32) ≤ o3 1 by decide), gI_o (by omega) (by omega), bd_some, u2, bd_some]
        exact ⟨_, congrArg some w2, rfl, hR0⟩
      · rw [if_neg (show ¬ o3 2 = (0 : Int32) by decide), if_neg (show ¬ o3 2 = (1 : Int32) by decide), if_pos (show o3 2 = (2 : Int32) from rfl), if_neg (show ¬ (3 : Int32) ≤ o3 2 by decide), gI_o (by omega) (by omega), bd_some, u3, bd_some]
        exact ⟨_, congrArg some w3, rfl, hR0⟩
      · rw [if_neg (show ¬ o3 3 = (0 : Int32) by decide), if_neg (show ¬ o3 3 = (1 : Int32) by decide), if_neg (show ¬ o3 3 = (2 : Int32) by decide), if_pos (show (3 : Int32) ≤ o3 3 by decide)]
        obtain ⟨z1, r, z2⟩ := hlow (o3 3 - 3)
        exact ⟨r, z2, z1 ▸ z2, hR0⟩
      · rw [if_neg (show ¬ o3 4 = (0 : Int32) by decide), if_neg (show ¬ o3 4 = (1 : Int32) by decide), if_neg (show ¬ o3 4 = (2 : Int32) by decide), if_pos (show (3 : Int32) ≤ o3 4 by decide)]
        obtain ⟨z1, r, z2⟩ := hlow (o3 4 - 3)
        exact ⟨r, z2, z1 ▸ z2, hR0⟩
    · rw [if_neg h2, if_pos rfl, if_pos rfl]
      exact ⟨_, rfl, rfl, hR0⟩
  · rw [if_neg h1, if_pos rfl, if_pos rfl]
    exact ⟨_, rfl, rfl, hR0⟩
theorem t_6 (a1 a2 : Int32) (S : fS) (hR : Rel S) : ∃ r, f_X10_thing a1 a2 S = some r ∧ f_X11_thing a1 a2 S = some r ∧ Rel S := by
  have hR0 := hR
  obtain ⟨n, s, L, M, hT, ⟨⟨n1, n2, n3, n4, n5, n6⟩, ⟨b1, b2, b3, b4, b5⟩, ⟨m1, m2, m3, m4⟩, d⟩, hL, hM⟩ := hR
  have h8 := n5.1
  have hi1 : f_X10_isFrom a2 0 3 S = some (if ((0 : Nat) : Int) ≤ a2.toInt ∧ a2.toInt ≤ ((3 : Nat) : Int) then 1 else 0) := from_c (a := 0) (b := 3) (by omega) (by omega)
  have hi2 : f_X11_in (Int32.toInt64 a2) 0 3 S = some (if ((0 : Nat) : Int) ≤ a2.toInt ∧ a2.toInt ≤ ((3 : Nat) : Int) then 1 else 0) := in_c (a := 0) (b := 3) (by omega) (by omega)
  unfold f_X10_thing f_X11_thing
  rw [ci_thing b3.1 (by omega), mi_thing m2.1 (by omega), bd_some, bd_some, hi1, hi2, bd_some, bd_some]
  by_cases h1 : 0 ≤ a1.toInt ∧ a1.toInt < s.2.2.1.1
  · rw [if_pos h1, if_neg (show ¬ (1 : Int32) = 0 by decide), if_neg (show ¬ (1 : Int32) = 0 by decide)]
    by_cases h2 : ((0 : Nat) : Int) ≤ a2.toInt ∧ a2.toInt ≤ ((3 : Nat) : Int)
    · rw [if_pos h2, if_neg (show ¬ (1 : Int32) = 0 by decide), if_neg (show ¬ (1 : Int32) = 0 by decide)]
      obtain ⟨f, e1, e2⟩ := o3_ex h1.1
      obtain ⟨v, g1, g2⟩ := o3_ex (x := a2) (by omega)
      have hf : f < s.2.2.1.1 := by omega
      obtain ⟨w1, w2, w3, w4, w5⟩ := b3.2.2 f hf
      obtain ⟨u1, u2, u3, u4, u5⟩ := m2.2.2 f hf
      rw [e1, g1, mw_thing (by omega) (by omega), bd_some]
      have : v = 0 ∨ v = 1 ∨ v = 2 ∨ v = 3 := by omega
      rcases this with rfl | rfl | rfl | rfl
      · rw [if_pos (show o3 0 = (0 : Int32) from rfl), gI_o (by omega) (by omega), bd_some]
        exact ⟨_, congrArg some w1, congrArg some u1, hR0⟩
      · rw [if_neg (show ¬ o3 1 = (0 : Int32) by decide), if_pos (show o3 1 = (1 : Int32) from rfl), gI_o (by omega) (by omega), bd_some]
        exact ⟨_, congrArg some w2, congrArg some u2, hR0⟩
      · rw [if_neg (show ¬ o3 2 = (0 : Int32) by decide), if_neg (show ¬ o3 2 = (1 : Int32) by decide), if_pos (show o3 2 = (2 : Int32) from rfl), gI_o (by omega) (by omega), bd_some]
        exact ⟨_, congrArg some w3, congrArg some u3, hR0⟩
      · rw [if_neg (show ¬ o3 3 = (0 : Int32) by decide), if_neg (show ¬ o3 3 = (1 : Int32) by decide), if_neg (show ¬ o3 3 = (2 : Int32) by decide), gI_o (by omega) (by omega), bd_some]
        exact ⟨_, congrArg some w4, congrArg some u4, hR0⟩
    · rw [if_neg h2, if_pos rfl, if_pos rfl]
      exact ⟨_, rfl, rfl, hR0⟩
  · rw [if_neg h1, if_pos rfl, if_pos rfl]
    exact ⟨_, rfl, rfl, hR0⟩
/-- an age as a number -/
theorem age_o {m : Nat} {E : List St5} {C : Cw} (h : okC m E C) {k : Nat} (hk : k < C.1) : ∃ a, C.2.2.2.2.2.2 k = o6 a ∧ a ≤ 46553856148800 := by
  obtain ⟨_, h1, h2⟩ := h
  obtain ⟨_, h3, h4⟩ := h2 k hk
  obtain ⟨a, e1, e2⟩ := o6_of h3
  exact ⟨a, e1, by omega⟩
theorem part_c {v : Int32} {S : fS} : f_X10_isPart v S = some (if ((0 : Nat) : Int) ≤ v.toInt ∧ v.toInt ≤ ((1 : Nat) : Int) then 1 else 0) := by
  unfold f_X10_isPart
  have : f_X10_isFrom v 0 1 S = some (if ((0 : Nat) : Int) ≤ v.toInt ∧ v.toInt ≤ ((1 : Nat) : Int) then 1 else 0) := from_c (a := 0) (b := 1) (by omega) (by omega)
  rw [this, bd_some]
  split <;> rfl
theorem part_m {v : Int32} {S : fS} : f_X11_in (Int32.toInt64 v) 0 1 S = some (if ((0 : Nat) : Int) ≤ v.toInt ∧ v.toInt ≤ ((1 : Nat) : Int) then 1 else 0) := in_c (a := 0) (b := 1) (by omega) (by omega)
theorem hour_c {v : Int32} {S : fS} : f_X10_isHour v S = some (if ((0 : Nat) : Int) ≤ v.toInt ∧ v.toInt ≤ ((9999 : Nat) : Int) then 1 else 0) := by
  unfold f_X10_isHour
  have : f_X10_isFrom v 0 9999 S = some (if ((0 : Nat) : Int) ≤ v.toInt ∧ v.toInt ≤ ((9999 : Nat) : Int) then 1 else 0) := from_c (a := 0) (b := 9999) (by omega) (by omega)
  rw [this, bd_some]
  split <;> rfl
theorem hour_m {v : Int32} {S : fS} : f_X11_in (Int32.toInt64 v) 0 9999 S = some (if ((0 : Nat) : Int) ≤ v.toInt ∧ v.toInt ≤ ((9999 : Nat) : Int) then 1 else 0) := in_c (a := 0) (b := 9999) (by omega) (by omega)
theorem t_7 (a1 a2 : Int32) (S : fS) (hR : Rel S) : ∃ r, f_X10_age a1 a2 S = some r ∧ f_X11_age a1 a2 S = some r ∧ Rel S := by
  have hR0 := hR
  obtain ⟨n, s, L, M, hT, ⟨⟨n1, n2, n3, n4, n5, n6⟩, ⟨b1, b2, b3, b4, b5⟩, ⟨m1, m2, m3, m4⟩, d⟩, hL, hM⟩ := hR
  have h8 := n5.1
  unfold f_X10_age f_X11_age
  rw [ci_thing b3.1 (by omega), mi_thing m2.1 (by omega), bd_some, bd_some, part_c, part_m, bd_some, bd_some]
  by_cases h1 : 0 ≤ a1.toInt ∧ a1.toInt < s.2.2.1.1
  · rw [if_pos h1, if_neg (show ¬ (1 : Int32) = 0 by decide), if_neg (show ¬ (1 : Int32) = 0 by decide)]
    by_cases h2 : ((0 : Nat) : Int) ≤ a2.toInt ∧ a2.toInt ≤ ((1 : Nat) : Int)
    · rw [if_pos h2, if_neg (show ¬ (1 : Int32) = 0 by decide), if_neg (show ¬ (1 : Int32) = 0 by decide)]
      obtain ⟨f, e1, e2⟩ := o3_ex h1.1
      have hf : f < s.2.2.1.1 := by omega
      obtain ⟨a, g1, g2⟩ := age_o n5 hf
      rw [e1, gL_o (by omega) (by omega), gL_o (by omega) (by omega), bd_some, bd_some, show S.2 16 f = o6 a from ((b3.2.2 f hf).2.2.2.2).trans g1, show S.2 158 f = o6 a from ((m2.2.2 f hf).2.2.2.2).trans g1, show (232792560 : Int64) = o6 232792560 from rfl, c_low (by omega) (by omega) (by omega), m_low (by omega) (by omega) (by omega), bd_some]
      exact ⟨_, rfl, rfl, hR0⟩
    · rw [if_neg h2, if_pos rfl, if_pos rfl]
      exact ⟨_, rfl, rfl, hR0⟩
  · rw [if_neg h1, if_pos rfl, if_pos rfl]
    exact ⟨_, rfl, rfl, hR0⟩
theorem t_8 (a1 a2 : Int32) (S : fS) (hR : Rel S) : ∃ r, f_X10_older a1 a2 S = some r ∧ f_X11_older a1 a2 S = some r ∧ Rel S := by
  have hR0 := hR
  obtain ⟨n, s, L, M, hT, ⟨⟨n1, n2, n3, n4, n5, n6⟩, ⟨b1, b2, b3, b4, b5⟩, ⟨m1, m2, m3, m4⟩, d⟩, hL, hM⟩ := hR
  have h8 := n5.1
  unfold f_X10_older f_X11_older
  rw [ci_thing b3.1 (by omega), mi_thing m2.1 (by omega), ci_thing b3.1 (by omega), mi_thing m2.1 (by omega), bd_some, bd_some, bd_some, bd_some]
  by_cases h1 : 0 ≤ a1.toInt ∧ a1.toInt < s.2.2.1.1
  · rw [if_pos h1, if_neg (show ¬ (1 : Int32) = 0 by decide), if_neg (show ¬ (1 : Int32) = 0 by decide)]
    by_cases h2 : 0 ≤ a2.toInt ∧ a2.toInt < s.2.2.1.1
    · rw [if_pos h2, if_neg (show ¬ (1 : Int32) = 0 by decide), if_neg (show ¬ (1 : Int32) = 0 by decide)]
      obtain ⟨f, e1, e2⟩ := o3_ex h1.1
      have hf : f < s.2.2.1.1 := by omega
      obtain ⟨a, g1, g2⟩ := age_o n5 hf
      obtain ⟨f', e1', e2'⟩ := o3_ex h2.1
      have hf' : f' < s.2.2.1.1 := by omega
      obtain ⟨a', g1', g2'⟩ := age_o n5 hf'
      rw [e1, e1', gL_o (by omega) (by omega), gL_o (by omega) (by omega), gL_o (by omega) (by omega), gL_o (by omega) (by omega), bd_some, bd_some, bd_some, bd_some, bd_some, bd_some, show S.2 16 f = o6 a from ((b3.2.2 f hf).2.2.2.2).trans g1, show S.2 158 f = o6 a from ((m2.2.2 f hf).2.2.2.2).trans g1, show S.2 16 f' = o6 a' from ((b3.2.2 f' hf').2.2.2.2).trans g1', show S.2 158 f' = o6 a' from ((m2.2.2 f' hf').2.2.2.2).trans g1']
      have hs : (o6 a - o6 a').toInt = (a : Int) - a' := by rw [nl_sub (by rw [o6_int (by omega), o6_int (by omega)]; omega) (by rw [o6_int (by omega), o6_int (by omega)]; omega), o6_int (by omega), o6_int (by omega)]
      by_cases h3 : a ≤ a'
      · rw [if_pos (show o6 a ≤ o6 a' from (o6_le (by omega) (by omega)).mpr h3)]
        by_cases h4 : a' ≤ a
        · rw [if_pos (show o6 a' ≤ o6 a from (o6_le (by omega) (by omega)).mpr h4), if_pos (show o6 a - o6 a' = 0 from nl_eq.mpr (by rw [hs, nl_0]; omega))]
          exact ⟨_, rfl, rfl, hR0⟩
        · rw [if_neg (show ¬ o6 a' ≤ o6 a from fun q => h4 ((o6_le (by omega) (by omega)).mp q)), if_neg (show ¬ o6 a - o6 a' = 0 from fun q => by have := nl_eq.mp q; rw [hs, nl_0] at this; omega), if_pos (show o6 a - o6 a' ≤ 0 from nl_le.mpr (by rw [hs, nl_0]; omega))]
          exact ⟨_, rfl, rfl, hR0⟩
      · rw [if_neg (show ¬ o6 a ≤ o6 a' from fun q => h3 ((o6_le (by omega) (by omega)).mp q)), if_neg (show ¬ o6 a - o6 a' = 0 from fun q => by have := nl_eq.mp q; rw [hs, nl_0] at this; omega), if_neg (show ¬ o6 a - o6 a' ≤ 0 from fun q => by have := nl_le.mp q; rw [hs, nl_0] at this; omega)]
        exact ⟨_, rfl, rfl, hR0⟩
    · rw [if_neg h2, if_pos rfl, if_pos rfl]
      exact ⟨_, rfl, rfl, hR0⟩
  · rw [if_neg h1, if_pos rfl, if_pos rfl]
    exact ⟨_, rfl, rfl, hR0⟩
theorem t_12 (a1 a2 : Int32) (S : fS) (hR : Rel S) : ∃ r, f_X10_far a1 a2 S = some r ∧ f_X11_far a1 a2 S = some r ∧ Rel S := by
  have hR0 := hR
  obtain ⟨n, s, L, M, hT, ⟨⟨n1, n2, n3, n4, n5, n6⟩, ⟨b1, b2, b3, b4, b5⟩, ⟨m1, m2, m3, m4⟩, d⟩, hL, hM⟩ := hR
  unfold f_X10_far f_X11_far
  rw [ci_floor b1.1 (by omega), mi_floor m1.1 (by omega), ci_floor b1.1 (by omega), mi_floor m1.1 (by omega), bd_some, bd_some, bd_some, bd_some]
  by_cases h1 : 0 ≤ a1.toInt ∧ a1.toInt < s.1.length
  · rw [if_pos h1, if_neg (show ¬ (1 : Int32) = 0 by decide), if_neg (show ¬ (1 : Int32) = 0 by decide)]
    by_cases h2 : 0 ≤ a2.toInt ∧ a2.toInt < s.1.length
    · rw [if_pos h2, if_neg (show ¬ (1 : Int32) = 0 by decide), if_neg (show ¬ (1 : Int32) = 0 by decide)]
      obtain ⟨f, e1, e2⟩ := o3_ex h1.1
      obtain ⟨g, e3, e4⟩ := o3_ex h2.1
      rw [e1, e3, ch_btw b2 n1 (by omega) (by omega), bd_some, mh_btw d n1 (by omega) (by omega), bd_some, bd_some]
      rcases cwv_cs (E := s.2.1) (a := f) (b := g) with ⟨h, e⟩ | ⟨h, e⟩
      · rw [e, h, if_neg (show ¬ (0 : Int32) ≤ -1 by decide), if_neg (show ¬ o6 99999 < (99999 : Int64) by decide)]
        exact ⟨_, rfl, rfl, hR0⟩
      · rw [e, if_pos (o3_0le (by omega)), if_pos (show o6 (dst s.2.1 f g) < (99999 : Int64) from (o6_lt (b := 99999) (by omega) (by omega)).mpr h), o6_to3 (by omega)]
        exact ⟨_, rfl, rfl, hR0⟩
    · rw [if_neg h2, if_pos rfl, if_pos rfl]
      exact ⟨_, rfl, rfl, hR0⟩
  · rw [if_neg h1, if_pos rfl, if_pos rfl]
    exact ⟨_, rfl, rfl, hR0⟩
theorem t_13 (a1 a2 : Int32) (S : fS) (hR : Rel S) : ∃ r, f_X10_next a1 a2 S = some r ∧ f_X11_next a1 a2 S = some r ∧ Rel S := by
  have hR0 := hR
  obtain ⟨n, s, L, M, hT, ⟨⟨n1, n2, n3, n4, n5, n6⟩, ⟨b1, b2, b3, b4, b5⟩, ⟨m1, m2, m3, m4⟩, d⟩, hL, hM⟩ := hR
  unfold f_X10_next f_X11_next
  rw [ci_floor b1.1 (by omega), mi_floor m1.1 (by omega), ci_floor b1.1 (by omega), mi_floor m1.1 (by omega), bd_some, bd_some, bd_some, bd_some]
  by_cases h1 : 0 ≤ a1.toInt ∧ a1.toInt < s.1.length
  · rw [if_pos h1, if_neg (show ¬ (1 : Int32) = 0 by decide), if_neg (show ¬ (1 : Int32) = 0 by decide)]
    by_cases h2 : 0 ≤ a2.toInt ∧ a2.toInt < s.1.length
    · rw [if_pos h2, if_neg (show ¬ (1 : Int32) = 0 by decide), if_neg (show ¬ (1 : Int32) = 0 by decide)]
      obtain ⟨f, e1, e2⟩ := o3_ex h1.1
      obtain ⟨g, e3, e4⟩ := o3_ex h2.1
      rw [e1, e3, ch_first b1 b2 n4 n1 n2 (by omega) (by omega), bd_some, mh_next m1 d n4 n1 n2 (by omega) (by omega), bd_some]
      unfold fsI fsJ
      cases hfs : fS1 s.2.1 f g with
      | none =>
        dsimp only
        rw [if_neg (show ¬ (0 : Int32) ≤ -1 by decide)]
        exact ⟨_, rfl, rfl, hR0⟩
      | some k =>
        dsimp only
        unfold fS1 at hfs
        split at hfs
        · exact nomatch hfs
        · obtain ⟨x, y, z⟩ := fsf_pr _ _ _ hfs
          rw [if_pos (o3_0le (by omega))]
          exact ⟨_, rfl, rfl, hR0⟩
    · rw [if_neg h2, if_pos rfl, if_pos rfl]
      exact ⟨_, rfl, rfl, hR0⟩
  · rw [if_neg h1, if_pos rfl, if_pos rfl]
    exact ⟨_, rfl, rfl, hR0⟩
theorem t_14 (a1 a2 a3 : Int32) (S : fS) (hR : Rel S) : ∃ r, f_X10_clock a1 a2 a3 S = some r ∧ f_X11_clock a1 a2 a3 S = some r ∧ Rel S := by
  have hR0 := hR
  obtain ⟨n, s, L, M, hT, ⟨⟨n1, n2, n3, n4, n5, n6⟩, ⟨b1, b2, b3, b4, b5⟩, ⟨m1, m2, m3, m4⟩, d⟩, hL, hM⟩ := hR
  unfold f_X10_clock f_X11_clock
  rw [ci_floor b1.1 (by omega), mi_floor m1.1 (by omega), bd_some, bd_some, hour_c, hour_m, bd_some, bd_some, part_c, part_m, bd_some, bd_some]
  by_cases h1 : 0 ≤ a1.toInt ∧ a1.toInt < s.1.length
  · rw [if_pos h1, if_neg (show ¬ (1 : Int32) = 0 by decide), if_neg (show ¬ (1 : Int32) = 0 by decide)]
    by_cases h2 : ((0 : Nat) : Int) ≤ a2.toInt ∧ a2.toInt ≤ ((9999 : Nat) : Int)
    · rw [if_pos h2, if_neg (show ¬ (1 : Int32) = 0 by decide), if_neg (show ¬ (1 : Int32) = 0 by decide)]
      by_cases h3 : ((0 : Nat) : Int) ≤ a3.toInt ∧ a3.toInt ≤ ((1 : Nat) : Int)
      · rw [if_pos h3, if_neg (show ¬ (1 : Int32) = 0 by decide), if_neg (show ¬ (1 : Int32) = 0 by decide)]
        obtain ⟨f, e1, e2⟩ := o3_ex h1.1
        obtain ⟨v, e3, e4⟩ := o3_ex (x := a2) (by omega)
        have hf : f < s.1.length := by omega
        have hq := n3 _ (gd_mem (d := (0, 0)) hf)
        have hp := pcn_le hq
        obtain ⟨z1, z2, z3⟩ := pz_eq hq
        have hb1 : v * ((s.1.getD f (0, 0)).1 * pz (s.1.getD f (0, 0))) ≤ 9999 * 4655851200 := Nat.mul_le_mul (by omega) hp.2
        have hb2 : v * (s.1.getD f (0, 0)).1 ≤ 9999 * 20 := Nat.mul_le_mul (by omega) hq.2.1
        have hq3 := hq.2.2.1
        have hq4 := hq.2.2.2
        have hq2 := hq.2.1
        unfold f_X8_clockAt
        rw [e1, e3, show gL S (4 + 1) 10 (o3 f) = some (pc (s.1.getD f (0, 0))) from cf_p b1 n1 hf, mf_a m1 n1 hf, mf_b m1 n1 hf, bd_some, bd_some, bd_some, bd_some, pc_o, o6_of3 (by omega), o6_mul, show (232792560 : Int64) = o6 232792560 from rfl, c_low (by omega) (by omega) (by omega), bd_some, o6_of3 (by omega), o6_mul, o6_of3 (by omega), m_low (by omega) (by omega) (by omega), bd_some]
        refine ⟨_, rfl, ?_, hR0⟩
        congr 1
        refine lw_cross (by omega) (by omega) ?_
        rw [Nat.mul_assoc, Nat.mul_assoc, show 232792560 = pz (s.1.getD f (0, 0)) * (s.1.getD f (0, 0)).2 from z1.symm, Nat.mul_assoc]
      · rw [if_neg h3, if_pos rfl, if_pos rfl]
        exact ⟨_, rfl, rfl, hR0⟩
    · rw [if_neg h2, if_pos rfl, if_pos rfl]
      exact ⟨_, rfl, rfl, hR0⟩
  · rw [if_neg h1, if_pos rfl, if_pos rfl]
    exact ⟨_, rfl, rfl, hR0⟩
end
section
/-! what only asks: noons, owed, hands, when, shown, noonsIn, due -/
theorem t_15 (a1 a2 a3 : Int32) (S : fS) (hR : Rel S) : ∃ r, f_X10_noons a1 a2 a3 S = some r ∧ f_X11_noons a1 a2 a3 S = some r ∧ Rel S := by
  have hR0 := hR
  obtain ⟨n, s, L, M, hT, ⟨⟨n1, n2, n3, n4, n5, n6⟩, ⟨b1, b2, b3, b4, b5⟩, ⟨m1, m2, m3, m4⟩, d⟩, hL, hM⟩ := hR
  unfold f_X10_noons f_X11_noons
  rw [ci_floor b1.1 (by omega), mi_floor m1.1 (by omega), ci_floor b1.1 (by omega), mi_floor m1.1 (by omega), bd_some, bd_some, bd_some, bd_some, part_c, part_m, bd_some, bd_some]
  by_cases h1 : 0 ≤ a1.toInt ∧ a1.toInt < s.1.length
  · rw [if_pos h1, if_neg (show ¬ (1 : Int32) = 0 by decide), if_neg (show ¬ (1 : Int32) = 0 by decide)]
    by_cases h2 : 0 ≤ a2.toInt ∧ a2.toInt < s.1.length
    · rw [if_pos h2, if_neg (show ¬ (1 : Int32) = 0 by decide), if_neg (show ¬ (1 : Int32) = 0 by decide)]
      by_cases h3 : ((0 : Nat) : Int) ≤ a3.toInt ∧ a3.toInt ≤ ((1 : Nat) : Int)
      · rw [if_pos h3, if_neg (show ¬ (1 : Int32) = 0 by decide), if_neg (show ¬ (1 : Int32) = 0 by decide)]
        obtain ⟨f, e1, e2⟩ := o3_ex h1.1
        obtain ⟨g, e3, e4⟩ := o3_ex h2.1
        have hf : f < s.1.length := by omega
        have hg : g < s.1.length := by omega
        have hq := n3 _ (gd_mem (d := (0, 0)) hf)
        have hq' := n3 _ (gd_mem (d := (0, 0)) hg)
        rw [e1, e3, cf_p b1 n1 hf, cf_p b1 n1 hg, mf_a m1 n1 hf, mf_b m1 n1 hf, mf_a m1 n1 hg, mf_b m1 n1 hg, bd_some, bd_some, bd_some, bd_some, bd_some, bd_some]
        generalize s.1.getD f (0, 0) = q at hq
        generalize s.1.getD g (0, 0) = q' at hq'
        have hp := pcn_le hq
        have hp' := pcn_le hq'
        obtain ⟨z1, z2, z3⟩ := pz_eq hq
        obtain ⟨z1', z2', z3'⟩ := pz_eq hq'
        obtain ⟨q1, q2, q3, q4⟩ := hq
        obtain ⟨q1', q2', q3', q4'⟩ := hq'
        have w1 : q'.2 * q.1 ≤ 20 * 20 := Nat.mul_le_mul q4' q2
        have w2 : q.2 * q'.1 ≤ 20 * 20 := Nat.mul_le_mul q4 q2'
        have w3 : 0 < q.2 * q'.1 := Nat.mul_pos (by omega) (by omega)
        rw [o6_of3 (by omega), o6_of3 (by omega), o6_of3 (by omega), o6_of3 (by omega), o6_mul, o6_mul]
        have hc : ∀ v : Int32, lw (q'.2 * q.1) (q.2 * q'.1) v = lw (q.1 * pz q) (q'.1 * pz q') v := fun v => lw_cross w3 hp'.1 (by
          have x1 : q'.2 * q.1 * (q'.1 * pz q') = q.1 * q'.1 * (pz q' * q'.2) := by
            rw [Nat.mul_comm q'.2 q.1, Nat.mul_assoc, Nat.mul_assoc]
            congr 1
            rw [Nat.mul_left_comm, Nat.mul_comm q'.2 (pz q')]
          have x2 : q.1 * pz q * (q.2 * q'.1) = q.1 * q'.1 * (pz q * q.2) := by
            rw [Nat.mul_assoc, Nat.mul_assoc]
            congr 1
            rw [Nat.mul_comm q.2 q'.1, Nat.mul_left_comm]
          rw [x1, x2, z1, z1'])
        rw [m_low (by omega) (by omega) w3, bd_some, hc 0]
        rw [m_low (by omega) (by omega) w3, hc 1]
        rw [pc_o, pc_o, c_cd (by omega) (by omega), bd_some]
        obtain ⟨g1, g2⟩ := gcd_lt (a := q.1 * pz q) (b := q'.1 * pz q') (by omega) (by omega) hp'.1
        have l0 : lw (q.1 * pz q) (q'.1 * pz q') 0 = o6 (q.1 * pz q / Nat.gcd (q.1 * pz q) (q'.1 * pz q')) := if_pos rfl
        have l1 : lw (q.1 * pz q) (q'.1 * pz q') 1 = o6 (q'.1 * pz q' / Nat.gcd (q.1 * pz q) (q'.1 * pz q')) := if_neg (by decide)
        have hdv : Nat.gcd (q.1 * pz q) (q'.1 * pz q') ∣ q.1 * pz q := Nat.gcd_dvd_left _ _
        have hu := Nat.div_mul_cancel hdv
        have hu2 := Nat.div_le_self (q.1 * pz q) (Nat.gcd (q.1 * pz q) (q'.1 * pz q'))
        have hu3 := Nat.div_le_self (q'.1 * pz q') (Nat.gcd (q.1 * pz q) (q'.1 * pz q'))
        rw [if_neg (o6_ne0 g1 g2), o6_dL (by omega) g1 g2, bd_some, o6_dL (by omega) g1 g2, l0, l1]
        generalize Nat.gcd (q.1 * pz q) (q'.1 * pz q') = gg at *
        generalize q.1 * pz q / gg = u at *
        generalize q'.1 * pz q' / gg = u' at *
        rw [bd_some, show (2 : Int64) = o6 2 from rfl, o6_rL (by omega) (by omega) (by omega), bd_some, bd_some]
        by_cases p1 : o6 (u % 2) = 0
        · rw [if_pos p1, if_pos p1]
          exact ⟨_, rfl, rfl, hR0⟩
        · rw [if_neg p1, if_neg p1, bd_some, o6_rL (by omega) (by omega) (by omega), bd_some, bd_some]
          by_cases p2 : o6 (u' % 2) = 0
          · rw [if_pos p2, if_pos p2]
            exact ⟨_, rfl, rfl, hR0⟩
          · have w4 : 12 * u * q.2 ≤ 12 * u * 20 := Nat.mul_le_mul_left _ q4
            rw [if_neg p2, if_neg p2, show (2793510720 : Int64) = o6 2793510720 from rfl, show (12 : Int64) = o6 12 from rfl, c_low (by omega) g1 (by omega), bd_some, o6_mul, o6_mul, m_low (by omega) (by omega) (by omega), bd_some]
            refine ⟨_, rfl, ?_, hR0⟩
            congr 1
            refine (lw_cross (by omega) (by omega) ?_).symm
            have x3 : 12 * u * q.2 * gg = 12 * (u * gg) * q.2 := by
              rw [Nat.mul_right_comm, Nat.mul_assoc 12 u gg]
            rw [x3, hu]
            have x4 : 12 * (q.1 * pz q) * q.2 = 12 * (pz q * q.2) * q.1 := by
              rw [Nat.mul_assoc, Nat.mul_assoc, Nat.mul_assoc]
              congr 1
              rw [Nat.mul_comm]
            rw [x4, z1]
      · rw [if_neg h3, if_pos rfl, if_pos rfl]
        exact ⟨_, rfl, rfl, hR0⟩
    · rw [if_neg h2, if_pos rfl, if_pos rfl]
      exact ⟨_, rfl, rfl, hR0⟩
  · rw [if_neg h1, if_pos rfl, if_pos rfl]
    exact ⟨_, rfl, rfl, hR0⟩
end
section
/-! owed, hands, when, shown, noonsIn, due -/
theorem from_m {v : Int32} {a b : Nat} {S : fS} {x y : Int64} (hx : x = o6 a) (hy : y = o6 b) (ha : a < 2147483648) (hb : b < 2147483648) : f_X11_in (Int32.toInt64 v) x y S = some (if (a : Int) ≤ v.toInt ∧ v.toInt ≤ b then 1 else 0) := by
  rw [hx, hy]; exact in_c ha hb
theorem t_19 (a1 a2 a3 a4 a5 : Int32) (S : fS) (hR : Rel S) : ∃ r, f_X10_owed a1 a2 a3 a4 a5 S = some r ∧ f_X11_owed a1 a2 a3 a4 a5 S = some r ∧ Rel S := by
  have hR0 := hR
  obtain ⟨n, s, L, M, hT, ⟨⟨n1, n2, n3, n4, n5, n6⟩, ⟨b1, b2, b3, b4, b5⟩, ⟨m1, m2, m3, m4⟩, d⟩, hL, hM⟩ := hR
  have i1 : f_X10_isFrom a2 1 9999 S = some (if ((1 : Nat) : Int) ≤ a2.toInt ∧ a2.toInt ≤ ((9999 : Nat) : Int) then 1 else 0) := from_c (a := 1) (b := 9999) (by omega) (by omega)
  have i2 : f_X10_isFrom a3 0 999 S = some (if ((0 : Nat) : Int) ≤ a3.toInt ∧ a3.toInt ≤ ((999 : Nat) : Int) then 1 else 0) := from_c (a := 0) (b := 999) (by omega) (by omega)
  have j1 : f_X11_in (Int32.toInt64 a2) 1 9999 S = some (if ((1 : Nat) : Int) ≤ a2.toInt ∧ a2.toInt ≤ ((9999 : Nat) : Int) then 1 else 0) := in_c (a := 1) (b := 9999) (by omega) (by omega)
  have j2 : f_X11_in (Int32.toInt64 a3) 0 999 S = some (if ((0 : Nat) : Int) ≤ a3.toInt ∧ a3.toInt ≤ ((999 : Nat) : Int) then 1 else 0) := in_c (a := 0) (b := 999) (by omega) (by omega)
  unfold f_X10_owed f_X11_owed
  rw [ci_floor b1.1 (by omega), mi_floor m1.1 (by omega), bd_some, bd_some, i1, j1, bd_some, bd_some, i2, j2, bd_some, bd_some, hour_c, hour_m, bd_some, bd_some, part_c, part_m, bd_some, bd_some]
  by_cases h1 : 0 ≤ a1.toInt ∧ a1.toInt < s.1.length
  · rw [if_pos h1, if_neg (show ¬ (1 : Int32) = 0 by decide), if_neg (show ¬ (1 : Int32) = 0 by decide)]
    by_cases h2 : ((1 : Nat) : Int) ≤ a2.toInt ∧ a2.toInt ≤ ((9999 : Nat) : Int)
    · rw [if_pos h2, if_neg (show ¬ (1 : Int32) = 0 by decide), if_neg (show ¬ (1 : Int32) = 0 by decide)]
      by_cases h3 : ((0 : Nat) : Int) ≤ a3.toInt ∧ a3.toInt ≤ ((999 : Nat) : Int)
      · rw [if_pos h3, if_neg (show ¬ (1 : Int32) = 0 by decide), if_neg (show ¬ (1 : Int32) = 0 by decide)]
        by_cases h4 : ((0 : Nat) : Int) ≤ a4.toInt ∧ a4.toInt ≤ ((9999 : Nat) : Int)
        · rw [if_pos h4, if_neg (show ¬ (1 : Int32) = 0 by decide), if_neg (show ¬ (1 : Int32) = 0 by decide)]
          by_cases h5 : ((0 : Nat) : Int) ≤ a5.toInt ∧ a5.toInt ≤ ((1 : Nat) : Int)
          · rw [if_pos h5, if_neg (show ¬ (1 : Int32) = 0 by decide), if_neg (show ¬ (1 : Int32) = 0 by decide)]
            obtain ⟨f, e1, e2⟩ := o3_ex h1.1
            obtain ⟨u, e3, e4⟩ := o3_ex (x := a2) (by omega)
            obtain ⟨v, e5, e6⟩ := o3_ex (x := a3) (by omega)
            obtain ⟨w, e7, e8⟩ := o3_ex (x := a4) (by omega)
            have hf : f < s.1.length := by omega
            have hq := n3 _ (gd_mem (d := (0, 0)) hf)
            rw [e1, e3, e5, e7, cf_p b1 n1 hf, mf_a m1 n1 hf, mf_b m1 n1 hf, bd_some, bd_some, bd_some]
            generalize s.1.getD f (0, 0) = q at hq
            have hp := pcn_le hq
            have hlw := lwF (q := q) (v := 0) hq
            have hlw1 := lwF (q := q) (v := 1) hq
            obtain ⟨q1, q2, q3, q4⟩ := hq
            rw [pc_o, show (232792560 : Int64) = o6 232792560 from rfl, c_low (by omega) (by omega) (by omega), bd_some, bd_some, c_low (by omega) (by omega) (by omega), bd_some, hlw, hlw1]
            obtain ⟨g1, g2⟩ := gcd_lt (a := q.1) (b := q.2) (by omega) (by omega) (by omega)
            have l0 : lw q.1 q.2 0 = o6 (q.1 / Nat.gcd q.1 q.2) := if_pos rfl
            have l1 : lw q.1 q.2 1 = o6 (q.2 / Nat.gcd q.1 q.2) := if_neg (by decide)
            have c1 := Nat.div_mul_cancel (Nat.gcd_dvd_left q.1 q.2)
            have c2 := Nat.div_mul_cancel (Nat.gcd_dvd_right q.1 q.2)
            have k1 := Nat.div_le_self q.1 (Nat.gcd q.1 q.2)
            have k2 := Nat.div_le_self q.2 (Nat.gcd q.1 q.2)
            rw [l0, l1]
            generalize Nat.gcd q.1 q.2 = g at *
            generalize q.1 / g = x at *
            generalize q.2 / g = y at *
            have hy : 0 < y := by
              rcases Nat.eq_zero_or_pos y with h | h
              · rw [h, Nat.zero_mul] at c2; omega
              · exact h
            have x1 : v * x ≤ 999 * 20 := Nat.mul_le_mul (by omega) (by omega)
            have x2 : v * x * w ≤ 19980 * 9999 := Nat.mul_le_mul (by omega) (by omega)
            have x3 : u * (24000 * y + v * x * w) ≤ 9999 * (480000 + 199780020) := Nat.mul_le_mul (by omega) (by omega)
            have x4 : u * (24000 * q.2) ≤ 9999 * 480000 := Nat.mul_le_mul (by omega) (by omega)
            have x5 : u * v ≤ 9999 * 999 := Nat.mul_le_mul (by omega) (by omega)
            have x6 : u * v * w ≤ 9989001 * 9999 := Nat.mul_le_mul (by omega) (by omega)
            have x7 : u * v * w * q.1 ≤ 99880020999 * 20 := Nat.mul_le_mul (by omega) (by omega)
            rw [o6_of3 (by omega), o6_of3 (by omega), o6_of3 (by omega), o6_of3 (by omega), o6_of3 (by omega), show (24000 : Int64) = o6 24000 from rfl, o6_mul, o6_mul, o6_mul, o6_add, o6_mul, c_low (by omega) (by omega) (by omega), bd_some, o6_mul, o6_mul, o6_mul, o6_mul, o6_mul, o6_add, m_low (by omega) (by omega) (by omega), bd_some]
            refine ⟨_, rfl, ?_, hR0⟩
            congr 1
            refine (lw_cross (by omega) (by omega) ?_).symm
            rw [← c2]
            have y1 : u * (24000 * (y * g)) + u * v * w * q.1 = u * (24000 * y + v * x * w) * g := by
              rw [← c1, Nat.mul_add, Nat.add_mul]
              congr 1
              · rw [Nat.mul_assoc, Nat.mul_assoc 24000 y g]
              · rw [← Nat.mul_assoc, Nat.mul_assoc u v w, Nat.mul_assoc u (v * w) x, Nat.mul_right_comm v w x]
            rw [y1, ← Nat.mul_assoc 24000 y g, Nat.mul_comm (24000 * y) g]
            simp only [Nat.mul_assoc]
          · rw [if_neg h5, if_pos rfl, if_pos rfl]
            exact ⟨_, rfl, rfl, hR0⟩
        · rw [if_neg h4, if_pos rfl, if_pos rfl]
          exact ⟨_, rfl, rfl, hR0⟩
      · rw [if_neg h3, if_pos rfl, if_pos rfl]
        exact ⟨_, rfl, rfl, hR0⟩
    · rw [if_neg h2, if_pos rfl, if_pos rfl]
      exact ⟨_, rfl, rfl, hR0⟩
  · rw [if_neg h1, if_pos rfl, if_pos rfl]
    exact ⟨_, rfl, rfl, hR0⟩
theorem cl_sc {X Y z : Nat} (hz : 0 < z) (hY : 0 < Y) : (X * z + Y * z - 1) / (Y * z) = (X + Y - 1) / Y := by
  have e : X * z + Y * z - 1 = (z - 1) + (X + Y - 1) * z := by
    have h1 : (X + Y) * z = X * z + Y * z := Nat.add_mul X Y z
    have h2 : (X + Y - 1) * z = (X + Y) * z - z := Nat.sub_one_mul (X + Y) z
    have h3 : 1 * z ≤ (X + Y) * z := Nat.mul_le_mul_right z (by omega)
    omega
  rw [e, Nat.mul_comm Y z, ← Nat.div_div_eq_div_mul, Nat.add_mul_div_right _ _ hz, show (z - 1) / z = 0 from Nat.div_eq_of_lt (by omega), Nat.zero_add]
theorem cl_cross {X Y X' Y' : Nat} (hY : 0 < Y) (hY' : 0 < Y') (h : X * Y' = X' * Y) : (X + Y - 1) / Y = (X' + Y' - 1) / Y' := by
  rw [← cl_sc (X := X) hY' hY, h, Nat.mul_comm Y Y', cl_sc hY hY']
theorem t_20 (a1 a2 a3 a4 : Int32) (S : fS) (hR : Rel S) : ∃ r, f_X10_hands a1 a2 a3 a4 S = some r ∧ f_X11_hands a1 a2 a3 a4 S = some r ∧ Rel S := by
  have hR0 := hR
  obtain ⟨n, s, L, M, hT, ⟨⟨n1, n2, n3, n4, n5, n6⟩, ⟨b1, b2, b3, b4, b5⟩, ⟨m1, m2, m3, m4⟩, d⟩, hL, hM⟩ := hR
  have i1 : ∀ v : Int32, f_X10_isFrom v 1 9999 S = some (if ((1 : Nat) : Int) ≤ v.toInt ∧ v.toInt ≤ ((9999 : Nat) : Int) then 1 else 0) := fun v => from_c (a := 1) (b := 9999) (by omega) (by omega)
  have i2 : ∀ v : Int32, f_X11_in (Int32.toInt64 v) 1 9999 S = some (if ((1 : Nat) : Int) ≤ v.toInt ∧ v.toInt ≤ ((9999 : Nat) : Int) then 1 else 0) := fun v => in_c (a := 1) (b := 9999) (by omega) (by omega)
  unfold f_X10_hands f_X11_hands
  rw [ci_floor b1.1 (by omega), mi_floor m1.1 (by omega), ci_floor b1.1 (by omega), mi_floor m1.1 (by omega), bd_some, bd_some, bd_some, bd_some, i1, i2, bd_some, bd_some, i1, i2, bd_some, bd_some]
  by_cases h1 : 0 ≤ a1.toInt ∧ a1.toInt < s.1.length
  · rw [if_pos h1, if_neg (show ¬ (1 : Int32) = 0 by decide), if_neg (show ¬ (1 : Int32) = 0 by decide)]
    by_cases h2 : 0 ≤ a2.toInt ∧ a2.toInt < s.1.length
    · rw [if_pos h2, if_neg (show ¬ (1 : Int32) = 0 by decide), if_neg (show ¬ (1 : Int32) = 0 by decide)]
      by_cases h3 : ((1 : Nat) : Int) ≤ a3.toInt ∧ a3.toInt ≤ ((9999 : Nat) : Int)
      · rw [if_pos h3, if_neg (show ¬ (1 : Int32) = 0 by decide), if_neg (show ¬ (1 : Int32) = 0 by decide)]
        by_cases h4 : ((1 : Nat) : Int) ≤ a4.toInt ∧ a4.toInt ≤ ((9999 : Nat) : Int)
        · rw [if_pos h4, if_neg (show ¬ (1 : Int32) = 0 by decide), if_neg (show ¬ (1 : Int32) = 0 by decide)]
          obtain ⟨f, e1, e2⟩ := o3_ex h1.1
          obtain ⟨g, e3, e4⟩ := o3_ex h2.1
          obtain ⟨v, e5, e6⟩ := o3_ex (x := a3) (by omega)
          obtain ⟨w, e7, e8⟩ := o3_ex (x := a4) (by omega)
          have hf : f < s.1.length := by omega
          have hg : g < s.1.length := by omega
          have hq := n3 _ (gd_mem (d := (0, 0)) hf)
          have hq' := n3 _ (gd_mem (d := (0, 0)) hg)
          rw [e1, e3, e5, e7, cf_p b1 n1 hf, cf_p b1 n1 hg, mf_a m1 n1 hf, mf_b m1 n1 hf, mf_a m1 n1 hg, mf_b m1 n1 hg, bd_some, bd_some, bd_some, bd_some, bd_some, bd_some]
          generalize s.1.getD f (0, 0) = q at hq
          generalize s.1.getD g (0, 0) = q' at hq'
          have hp := pcn_le hq
          have hp' := pcn_le hq'
          obtain ⟨z1, z2, z3⟩ := pz_eq hq
          obtain ⟨z1', z2', z3'⟩ := pz_eq hq'
          obtain ⟨q1, q2, q3, q4⟩ := hq
          obtain ⟨q1', q2', q3', q4'⟩ := hq'
          have x1 : v * (q'.1 * pz q') ≤ 9999 * 4655851200 := Nat.mul_le_mul (by omega) hp'.2
          have x2 : w * (q.1 * pz q) ≤ 9999 * 4655851200 := Nat.mul_le_mul (by omega) hp.2
          have x3 : 0 < w * (q.1 * pz q) := Nat.mul_pos (by omega) hp.1
          have x4 : v * q'.1 ≤ 9999 * 20 := Nat.mul_le_mul (by omega) q2'
          have x5 : v * q'.1 * q.2 ≤ 199980 * 20 := Nat.mul_le_mul (by omega) q4
          have x6 : w * q'.2 ≤ 9999 * 20 := Nat.mul_le_mul (by omega) q4'
          have x7 : w * q'.2 * q.1 ≤ 199980 * 20 := Nat.mul_le_mul (by omega) q2
          have x8 : 0 < w * q'.2 * q.1 := Nat.mul_pos (Nat.mul_pos (by omega) (by omega)) (by omega)
          unfold f_X10_upwards
          rw [pc_o, pc_o, o6_of3 (by omega), o6_of3 (by omega), o6_mul, o6_mul, if_pos (show (0 : Int64) < o6 (w * (q.1 * pz q)) from (o6_lt (a := 0) (by omega) (by omega)).mpr x3), show (1 : Int64) = o6 1 from rfl, o6_add, o6_sub (by omega), o6_dL (by omega) (by omega) (by omega), bd_some, bd_some, o6_of3 (by omega), o6_of3 (by omega), o6_of3 (by omega), o6_of3 (by omega), o6_mul, o6_mul, o6_mul, o6_mul, o6_add, o6_sub (by omega), o6_dL (by omega) (by omega) (by omega), bd_some]
          refine ⟨_, rfl, ?_, hR0⟩
          congr 2
          congr 1
          refine (cl_cross x3 x8 ?_).symm
          have y1 : v * (q'.1 * pz q') * (w * q'.2 * q.1) = v * q'.1 * w * q.1 * (pz q' * q'.2) := by
            have : ∀ A B C D E G : Nat, A * (B * C) * (D * E * G) = A * B * D * G * (C * E) := fun A B C D E G => by
              simp only [Nat.mul_left_comm, Nat.mul_comm]
            exact this _ _ _ _ _ _
          have y2 : v * q'.1 * q.2 * (w * (q.1 * pz q)) = v * q'.1 * w * q.1 * (pz q * q.2) := by
            have : ∀ A B C D E G : Nat, A * B * C * (D * (E * G)) = A * B * D * E * (G * C) := fun A B C D E G => by
              simp only [Nat.mul_left_comm, Nat.mul_comm]
            exact this _ _ _ _ _ _
          rw [y1, y2, z1, z1']
        · rw [if_neg h4, if_pos rfl, if_pos rfl]
          exact ⟨_, rfl, rfl, hR0⟩
      · rw [if_neg h3, if_pos rfl, if_pos rfl]
        exact ⟨_, rfl, rfl, hR0⟩
    · rw [if_neg h2, if_pos rfl, if_pos rfl]
      exact ⟨_, rfl, rfl, hR0⟩
  · rw [if_neg h1, if_pos rfl, if_pos rfl]
    exact ⟨_, rfl, rfl, hR0⟩
theorem t_22 (a1 a2 a3 a4 : Int32) (S : fS) (hR : Rel S) : ∃ r, f_X10_when a1 a2 a3 a4 S = some r ∧ f_X11_when a1 a2 a3 a4 S = some r ∧ Rel S := by
  have hR0 := hR
  obtain ⟨n, s, L, M, hT, ⟨⟨n1, n2, n3, n4, n5, n6⟩, ⟨b1, b2, b3, b4, b5⟩, ⟨m1, m2, m3, m4⟩, d⟩, hL, hM⟩ := hR
  have h8 := n5.1
  have i1 : f_X10_isFrom a3 0 9999 S = some (if ((0 : Nat) : Int) ≤ a3.toInt ∧ a3.toInt ≤ ((9999 : Nat) : Int) then 1 else 0) := from_c (a := 0) (b := 9999) (by omega) (by omega)
  unfold f_X10_when f_X11_when
  rw [ci_thing b3.1 (by omega), mi_thing m2.1 (by omega), bd_some, bd_some, ci_floor b1.1 (by omega), mi_floor m1.1 (by omega), bd_some, bd_some, i1, hour_m, bd_some, bd_some, part_c, part_m, bd_some, bd_some]
  by_cases h1 : 0 ≤ a1.toInt ∧ a1.toInt < s.2.2.1.1
  · rw [if_pos h1, if_neg (show ¬ (1 : Int32) = 0 by decide), if_neg (show ¬ (1 : Int32) = 0 by decide)]
    by_cases h2 : 0 ≤ a2.toInt ∧ a2.toInt < s.1.length
    · rw [if_pos h2, if_neg (show ¬ (1 : Int32) = 0 by decide), if_neg (show ¬ (1 : Int32) = 0 by decide)]
      by_cases h3 : ((0 : Nat) : Int) ≤ a3.toInt ∧ a3.toInt ≤ ((9999 : Nat) : Int)
      · rw [if_pos h3, if_neg (show ¬ (1 : Int32) = 0 by decide), if_neg (show ¬ (1 : Int32) = 0 by decide)]
        by_cases h4 : ((0 : Nat) : Int) ≤ a4.toInt ∧ a4.toInt ≤ ((1 : Nat) : Int)
        · rw [if_pos h4, if_neg (show ¬ (1 : Int32) = 0 by decide), if_neg (show ¬ (1 : Int32) = 0 by decide)]
          obtain ⟨f, e1, e2⟩ := o3_ex h1.1
          obtain ⟨g, e3, e4⟩ := o3_ex h2.1
          obtain ⟨v, e5, e6⟩ := o3_ex (x := a3) (by omega)
          have hf : f < s.2.2.1.1 := by omega
          have hg : g < s.1.length := by omega
          obtain ⟨a, g1, g2⟩ := age_o n5 hf
          have hq := n3 _ (gd_mem (d := (0, 0)) hg)
          have gc : gL S 16 8 (o3 f) = some (o6 a) := (gL_o (by omega) (by omega)).trans (congrArg some (((b3.2.2 f hf).2.2.2.2).trans g1))
          have gm : gL S 158 8 (o3 f) = some (o6 a) := (gL_o (by omega) (by omega)).trans (congrArg some (((m2.2.2 f hf).2.2.2.2).trans g1))
          rw [e1, e3, e5, gc, gm, bd_some, bd_some, cf_p b1 n1 hg, bd_some, mp_floor m1 n3 n1 hg, bd_some]
          generalize s.1.getD g (0, 0) = q at hq
          have hp := pcn_le hq
          rw [pc_o, show (232792560 : Int64) = o6 232792560 from rfl, o6_of3 (by omega), o6_mul]
          by_cases h5 : a ≤ v * 232792560
          · rw [o6_sub h5, if_pos (o6_0le (by omega)), if_pos (o6_0le (by omega)), c_low (by omega) (by omega) hp.1, bd_some]
            by_cases h6 : v * 232792560 - a = 0
            · rw [h6, if_pos (show o6 0 = (0 : Int64) from rfl)]
              refine ⟨_, rfl, ?_, hR0⟩
              congr 1
              unfold lw
              rw [Nat.gcd_zero_left]
              by_cases h7 : a4 = 0
              · rw [if_pos h7, h7, Nat.zero_div]; rfl
              · have : a4 = 1 := by
                  have : a4.toInt ≠ 0 := fun z => h7 (ni_eq.mpr z)
                  exact ni_eq.mpr (by show a4.toInt = 1; omega)
                rw [if_neg h7, this, Nat.div_self hp.1]; rfl
            · rw [if_neg (o6_ne0 (by omega) h6), m_low (by omega) (by omega) hp.1, bd_some]
              exact ⟨_, rfl, rfl, hR0⟩
          · have hn : ¬ (0 : Int64) ≤ o6 (v * 232792560) - o6 a := fun z => by
              have z := nl_le.mp z
              rw [nl_sub (by rw [o6_int (by omega), o6_int (by omega)]; omega) (by rw [o6_int (by omega), o6_int (by omega)]; omega), o6_int (by omega), o6_int (by omega), nl_0] at z
              omega
            rw [if_neg hn, if_neg hn]
            exact ⟨_, rfl, rfl, hR0⟩
        · rw [if_neg h4, if_pos rfl, if_pos rfl]
          exact ⟨_, rfl, rfl, hR0⟩
      · rw [if_neg h3, if_pos rfl, if_pos rfl]
        exact ⟨_, rfl, rfl, hR0⟩
    · rw [if_neg h2, if_pos rfl, if_pos rfl]
      exact ⟨_, rfl, rfl, hR0⟩
  · rw [if_neg h1, if_pos rfl, if_pos rfl]
    exact ⟨_, rfl, rfl, hR0⟩
theorem t_23 (a1 a2 a3 : Int32) (S : fS) (hR : Rel S) : ∃ r, f_X10_shown a1 a2 a3 S = some r ∧ f_X11_shown a1 a2 a3 S = some r ∧ Rel S := by
  have hR0 := hR
  obtain ⟨n, s, L, M, hT, ⟨⟨n1, n2, n3, n4, n5, n6⟩, ⟨b1, b2, b3, b4, b5⟩, ⟨m1, m2, m3, m4⟩, d⟩, hL, hM⟩ := hR
  have i1 : f_X10_isFrom a3 0 1 S = some (if ((0 : Nat) : Int) ≤ a3.toInt ∧ a3.toInt ≤ ((1 : Nat) : Int) then 1 else 0) := from_c (a := 0) (b := 1) (by omega) (by omega)
  unfold f_X10_shown f_X11_shown
  rw [ci_floor b1.1 (by omega), mi_floor m1.1 (by omega), bd_some, bd_some, hour_c, hour_m, bd_some, bd_some, i1, part_m, bd_some, bd_some]
  by_cases h1 : 0 ≤ a1.toInt ∧ a1.toInt < s.1.length
  · rw [if_pos h1, if_neg (show ¬ (1 : Int32) = 0 by decide), if_neg (show ¬ (1 : Int32) = 0 by decide)]
    by_cases h2 : ((0 : Nat) : Int) ≤ a2.toInt ∧ a2.toInt ≤ ((9999 : Nat) : Int)
    · rw [if_pos h2, if_neg (show ¬ (1 : Int32) = 0 by decide), if_neg (show ¬ (1 : Int32) = 0 by decide)]
      by_cases h3 : ((0 : Nat) : Int) ≤ a3.toInt ∧ a3.toInt ≤ ((1 : Nat) : Int)
      · rw [if_pos h3, if_neg (show ¬ (1 : Int32) = 0 by decide), if_neg (show ¬ (1 : Int32) = 0 by decide)]
        obtain ⟨f, e1, e2⟩ := o3_ex h1.1
        obtain ⟨v, e3, e4⟩ := o3_ex (x := a2) (by omega)
        have hf : f < s.1.length := by omega
        have hq := n3 _ (gd_mem (d := (0, 0)) hf)
        unfold f_X8_clockAt
        rw [e1, e3, show gL S (4 + 1) 10 (o3 f) = some (pc (s.1.getD f (0, 0))) from cf_p b1 n1 hf, mf_a m1 n1 hf, mf_b m1 n1 hf, bd_some, bd_some, bd_some, bd_some]
        generalize s.1.getD f (0, 0) = q at hq
        have hp := pcn_le hq
        obtain ⟨z1, z2, z3⟩ := pz_eq hq
        obtain ⟨q1, q2, q3, q4⟩ := hq
        have x1 : v * (q.1 * pz q) ≤ 9999 * 4655851200 := Nat.mul_le_mul (by omega) hp.2
        have x2 : v * q.1 ≤ 9999 * 20 := Nat.mul_le_mul (by omega) q2
        have x3 : v * q.1 / q.2 ≤ v * q.1 := Nat.div_le_self _ _
        have k0 : v * (q.1 * pz q) / 232792560 = v * q.1 / q.2 := by
          rw [← Nat.mul_assoc, ← z1, Nat.mul_comm (pz q) q.2]
          exact Nat.mul_div_mul_right _ _ z2
        have k1 : v * (q.1 * pz q) / 5587021440 = v * q.1 / q.2 / 24 := by
          rw [← k0, Nat.div_div_eq_div_mul]
        have k2 : v * (q.1 * pz q) % 5587021440 / 232792560 = v * q.1 / q.2 % 24 := by
          rw [← k0, show 5587021440 = 232792560 * 24 from rfl, Nat.mod_mul_right_div_self]
        have x4 : v * q.1 / q.2 / 24 ≤ v * q.1 / q.2 := Nat.div_le_self _ _
        have x5 : v * q.1 / q.2 % 24 < 24 := Nat.mod_lt _ (by omega)
        have x6 : v * (q.1 * pz q) % 5587021440 < 5587021440 := Nat.mod_lt _ (by omega)
        rw [o3_mul, o3_dI (by omega) (by omega) (by omega), bd_some, pc_o, o6_of3 (by omega), o6_mul, show (5587021440 : Int64) = o6 5587021440 from rfl, show (24 : Int32) = o3 24 from rfl, o6_dL (by omega) (by omega) (by omega), o6_rL (by omega) (by omega) (by omega), bd_some, bd_some, show (232792560 : Int64) = o6 232792560 from rfl, o6_dL (by omega) (by omega) (by omega), bd_some, k1, k2, o6_to3 (by omega), o6_to3 (by omega), o3_dI (by omega) (by omega) (by omega), o3_rI (by omega) (by omega) (by omega), bd_some, bd_some]
        by_cases h4 : a3 = 0
        · rw [if_pos h4]
          exact ⟨_, rfl, rfl, hR0⟩
        · rw [if_neg h4]
          exact ⟨_, rfl, rfl, hR0⟩
      · rw [if_neg h3, if_pos rfl, if_pos rfl]
        exact ⟨_, rfl, rfl, hR0⟩
    · rw [if_neg h2, if_pos rfl, if_pos rfl]
      exact ⟨_, rfl, rfl, hR0⟩
  · rw [if_neg h1, if_pos rfl, if_pos rfl]
    exact ⟨_, rfl, rfl, hR0⟩
theorem t_25 (a1 a2 : Int32) (S : fS) (hR : Rel S) : ∃ r, f_X10_due a1 a2 S = some r ∧ f_X11_due a1 a2 S = some r ∧ Rel S := by
  have hR0 := hR
  obtain ⟨n, s, L, M, hT, ⟨⟨n1, n2, n3, n4, n5, n6⟩, ⟨b1, b2, b3, b4, b5⟩, ⟨m1, m2, m3, m4⟩, d⟩, hL, hM⟩ := hR
  have i1 : f_X10_isFrom a2 0 9999 S = some (if ((0 : Nat) : Int) ≤ a2.toInt ∧ a2.toInt ≤ ((9999 : Nat) : Int) then 1 else 0) := from_c (a := 0) (b := 9999) (by omega) (by omega)
  unfold f_X10_due f_X11_due
  rw [ci_floor b1.1 (by omega), mi_floor m1.1 (by omega), bd_some, bd_some, i1, hour_m, bd_some, bd_some]
  by_cases h1 : 0 ≤ a1.toInt ∧ a1.toInt < s.1.length
  · rw [if_pos h1, if_neg (show ¬ (1 : Int32) = 0 by decide), if_neg (show ¬ (1 : Int32) = 0 by decide)]
    by_cases h2 : ((0 : Nat) : Int) ≤ a2.toInt ∧ a2.toInt ≤ ((9999 : Nat) : Int)
    · rw [if_pos h2, if_neg (show ¬ (1 : Int32) = 0 by decide), if_neg (show ¬ (1 : Int32) = 0 by decide)]
      obtain ⟨f, e1, e2⟩ := o3_ex h1.1
      obtain ⟨v, e3, e4⟩ := o3_ex (x := a2) (by omega)
      have hf : f < s.1.length := by omega
      have hq := n3 _ (gd_mem (d := (0, 0)) hf)
      rw [e1, e3, cf_p b1 n1 hf, mf_a m1 n1 hf, mf_b m1 n1 hf, bd_some, bd_some, bd_some]
      generalize s.1.getD f (0, 0) = q at hq
      have hp := pcn_le hq
      obtain ⟨z1, z2, z3⟩ := pz_eq hq
      obtain ⟨q1, q2, q3, q4⟩ := hq
      have x2 : 24 * v * q.2 ≤ 24 * 9999 * 20 := Nat.mul_le_mul (by omega) q4
      have kk : (v * 5587021440 + q.1 * pz q - 1) / (q.1 * pz q) = (24 * v * q.2 + q.1 - 1) / q.1 := by
        refine cl_cross hp.1 (by omega) ?_
        have : ∀ A B C D : Nat, 24 * A * B * (C * D) = 24 * A * C * (D * B) := fun A B C D => by
          simp only [Nat.mul_assoc, Nat.mul_left_comm, Nat.mul_comm]
        rw [this, z1, show 5587021440 = 24 * 232792560 from rfl, Nat.mul_comm 24 v, Nat.mul_assoc v 24 q.1, Nat.mul_assoc v, Nat.mul_assoc v]
        congr 1
        rw [Nat.mul_right_comm]
      have x3 : (24 * v * q.2 + q.1 - 1) / q.1 ≤ 24 * v * q.2 + q.1 - 1 := Nat.div_le_self _ _
      unfold f_X10_upwards
      rw [pc_o, show (5587021440 : Int64) = o6 5587021440 from rfl, o6_of3 (by omega), o6_mul, if_pos (show (0 : Int64) < o6 (q.1 * pz q) from (o6_lt (a := 0) (by omega) (by omega)).mpr hp.1), show (1 : Int64) = o6 1 from rfl, o6_add, o6_sub (by omega), o6_dL (by omega) (by omega) (by omega), bd_some, bd_some, kk, o6_to3 (by omega), show (24 : Int32) = o3 24 from rfl, show (1 : Int32) = o3 1 from rfl, o3_mul, o3_mul, o3_add, o3_sub (by omega), o3_dI (by omega) (by omega) (by omega), bd_some]
      exact ⟨_, rfl, rfl, hR0⟩
    · rw [if_neg h2, if_pos rfl, if_pos rfl]
      exact ⟨_, rfl, rfl, hR0⟩
  · rw [if_neg h1, if_pos rfl, if_pos rfl]
    exact ⟨_, rfl, rfl, hR0⟩
end
section
/-! noonsIn, even -/
def nu (N D : Nat) : Nat := if 12 * D ≤ N then (N - 12 * D) / (24 * D) + 1 else 0
theorem nu_sc {N D z : Nat} (hz : 0 < z) : nu (N * z) (D * z) = nu N D := by
  unfold nu
  rw [← Nat.mul_assoc, ← Nat.mul_assoc]
  by_cases h : 12 * D ≤ N
  · rw [if_pos h, if_pos (Nat.mul_le_mul_right z h), ← Nat.sub_mul, Nat.mul_div_mul_right _ _ hz]
  · rw [if_neg h, if_neg (fun q => h (Nat.le_of_mul_le_mul_right q hz))]
theorem nu_sc1 {N D z : Nat} (hz : 0 < z) (hN : 0 < N) : nu (N * z - 1) (D * z) = nu (N - 1) D := by
  unfold nu
  rw [← Nat.mul_assoc, ← Nat.mul_assoc]
  have h3 : 1 * z ≤ N * z := Nat.mul_le_mul_right z hN
  by_cases h : 12 * D ≤ N - 1
  · have h1 : (12 * D + 1) * z ≤ N * z := Nat.mul_le_mul_right z (by omega)
    have h2 : (12 * D + 1) * z = 12 * D * z + z := Nat.succ_mul _ _
    rw [if_pos h, if_pos (by omega)]
    have e : N * z - 1 - 12 * D * z = (z - 1) + (N - 1 - 12 * D) * z := by
      have h4 : (N - 1 - 12 * D) * z = N * z - (12 * D + 1) * z := by rw [show N - 1 - 12 * D = N - (12 * D + 1) by omega, Nat.sub_mul]
      omega
    rw [e, Nat.mul_comm (24 * D) z, ← Nat.div_div_eq_div_mul, Nat.add_mul_div_right _ _ hz, show (z - 1) / z = 0 from Nat.div_eq_of_lt (by omega), Nat.zero_add]
  · have h1 : N * z ≤ 12 * D * z := Nat.mul_le_mul_right z (by omega)
    rw [if_neg h, if_neg (by omega)]
theorem c_nu {N : Nat} {S : fS} (hN : N < 900000000000000) : f_X10_noonsUpTo (o6 N) S = some (o6 (nu N 232792560)) := by
  unfold f_X10_noonsUpTo nu
  rw [show (2793510720 : Int64) = o6 2793510720 from rfl, show (5587021440 : Int64) = o6 5587021440 from rfl]
  by_cases h : 12 * 232792560 ≤ N
  · rw [if_pos ((o6_le (by omega) (by omega)).mpr h), if_pos h, o6_sub h, o6_dL (by omega) (by omega) (by omega), bd_some, show (1 : Int64) = o6 1 from rfl, o6_add]
  · rw [if_neg (fun q => h ((o6_le (by omega) (by omega)).mp q)), if_neg h]
    rfl
theorem m_nu {N D : Nat} {S : fS} (hN : N < 1000000) (hD : 0 < D ∧ D ≤ 20) : f_X11_noonsTill (o3 N) (o3 D) S = some (o3 (nu N D)) := by
  unfold f_X11_noonsTill nu
  rw [show (12 : Int32) = o3 12 from rfl, show (24 : Int32) = o3 24 from rfl, o3_mul, o3_mul]
  by_cases h : 12 * D ≤ N
  · rw [if_pos ((o3_le (by omega) (by omega)).mpr h), if_pos h, o3_sub h, o3_dI (by omega) (by omega) (by omega), bd_some, o3_s]
  · rw [if_neg (fun q => h ((o3_le (by omega) (by omega)).mp q)), if_neg h]
    rfl
theorem nu_le {N D : Nat} : nu N D ≤ N + 1 := by
  unfold nu
  split
  · have := Nat.div_le_self (N - 12 * D) (24 * D)
    omega
  · omega
theorem t_24 (a1 a2 a3 : Int32) (S : fS) (hR : Rel S) : ∃ r, f_X10_noonsIn a1 a2 a3 S = some r ∧ f_X11_noonsIn a1 a2 a3 S = some r ∧ Rel S := by
  have hR0 := hR
  obtain ⟨n, s, L, M, hT, ⟨⟨n1, n2, n3, n4, n5, n6⟩, ⟨b1, b2, b3, b4, b5⟩, ⟨m1, m2, m3, m4⟩, d⟩, hL, hM⟩ := hR
  unfold f_X10_noonsIn f_X11_noonsIn
  rw [ci_floor b1.1 (by omega), mi_floor m1.1 (by omega), bd_some, bd_some, hour_c, hour_m, bd_some, bd_some, show (9999 : Int64) = Int32.toInt64 9999 from rfl, op_in]
  by_cases h1 : 0 ≤ a1.toInt ∧ a1.toInt < s.1.length
  · rw [if_pos h1, if_neg (show ¬ (1 : Int32) = 0 by decide), if_neg (show ¬ (1 : Int32) = 0 by decide)]
    by_cases h2 : ((0 : Nat) : Int) ≤ a2.toInt ∧ a2.toInt ≤ ((9999 : Nat) : Int)
    · rw [if_pos h2, if_neg (show ¬ (1 : Int32) = 0 by decide), if_neg (show ¬ (1 : Int32) = 0 by decide)]
      rcases op_isFrom01 (v := a3) (a := a2) (b := 9999) (S := S) with ⟨h, g⟩ | ⟨h, g1, g2⟩
      · rw [h, bd_some, bd_some, if_pos rfl, if_pos rfl]
        exact ⟨_, rfl, rfl, hR0⟩
      · rw [h, bd_some, bd_some, if_neg (show ¬ (1 : Int32) = 0 by decide), if_neg (show ¬ (1 : Int32) = 0 by decide)]
        rw [show (9999 : Int32).toInt = 9999 from rfl] at g2
        obtain ⟨f, e1, e2⟩ := o3_ex h1.1
        obtain ⟨u, e3, e4⟩ := o3_ex (x := a2) (by omega)
        obtain ⟨v, e5, e6⟩ := o3_ex (x := a3) (by omega)
        have hf : f < s.1.length := by omega
        have hq := n3 _ (gd_mem (d := (0, 0)) hf)
        unfold f_X8_clockAt
        rw [e1, e3, e5, show gL S (4 + 1) 10 (o3 f) = some (pc (s.1.getD f (0, 0))) from cf_p b1 n1 hf, mf_a m1 n1 hf, mf_b m1 n1 hf, bd_some, bd_some, bd_some, bd_some, bd_some, bd_some]
        generalize s.1.getD f (0, 0) = q at hq
        have hp := pcn_le hq
        obtain ⟨z1, z2, z3⟩ := pz_eq hq
        obtain ⟨q1, q2, q3, q4⟩ := hq
        have x1 : u * (q.1 * pz q) ≤ 9999 * 4655851200 := Nat.mul_le_mul (by omega) hp.2
        have x2 : v * (q.1 * pz q) ≤ 9999 * 4655851200 := Nat.mul_le_mul (by omega) hp.2
        have x3 : u * q.1 ≤ 9999 * 20 := Nat.mul_le_mul (by omega) q2
        have x4 : v * q.1 ≤ 9999 * 20 := Nat.mul_le_mul (by omega) q2
        have hnu : nu (v * (q.1 * pz q)) 232792560 = nu (v * q.1) q.2 := by
          rw [← Nat.mul_assoc, ← z1, Nat.mul_comm (pz q) q.2, nu_sc z2]
        rw [pc_o, o6_of3 (by omega), o6_of3 (by omega), o6_mul, o6_mul, c_nu (by omega), bd_some, o3_mul, o3_mul, m_nu (by omega) (by omega), bd_some, hnu]
        by_cases hu : u = 0
        · rw [hu, Nat.zero_mul, Nat.zero_mul]
          have c0 : f_X10_noonsUpTo (o6 0 - 1) S = some 0 := by
            unfold f_X10_noonsUpTo
            rw [if_neg (show ¬ (2793510720 : Int64) ≤ o6 0 - 1 by decide)]
          have c1 : f_X11_noonsTill (o3 0 - 1) (o3 q.2) S = some 0 := by
            unfold f_X11_noonsTill
            rw [show (12 : Int32) = o3 12 from rfl, o3_mul, if_neg (fun z => by
              have z := ni_le.mp z
              rw [o3_int (by omega), show (o3 0 - 1 : Int32).toInt = -1 from rfl] at z
              omega)]
          rw [c0, c1, bd_some, bd_some, show (o6 (nu (v * q.1) q.2) - 0 : Int64) = o6 (nu (v * q.1) q.2) from Int64.sub_zero _, show (o3 (nu (v * q.1) q.2) - 0 : Int32) = o3 (nu (v * q.1) q.2) from Int32.sub_zero _, o6_to3 (by have := nu_le (N := v * q.1) (D := q.2); omega)]
          exact ⟨_, rfl, rfl, hR0⟩
        · have hu1 : 0 < u * q.1 := Nat.mul_pos (by omega) (by omega)
          have hu2 : 0 < u * (q.1 * pz q) := Nat.mul_pos (by omega) hp.1
          have hnu1 : nu (u * (q.1 * pz q) - 1) 232792560 = nu (u * q.1 - 1) q.2 := by
            rw [← Nat.mul_assoc, ← z1, Nat.mul_comm (pz q) q.2, nu_sc1 z2 hu1]
          rw [show (1 : Int64) = o6 1 from rfl, o6_sub (by omega), c_nu (by omega), bd_some, show (1 : Int32) = o3 1 from rfl, o3_sub (by omega), m_nu (by omega) (by omega), bd_some, hnu1, Int64.toInt32_sub, o6_to3 (by have := nu_le (N := v * q.1) (D := q.2); omega), o6_to3 (by have := nu_le (N := u * q.1 - 1) (D := q.2); omega)]
          exact ⟨_, rfl, rfl, hR0⟩
    · rw [if_neg h2, if_pos rfl, if_pos rfl]
      exact ⟨_, rfl, rfl, hR0⟩
  · rw [if_neg h1, if_pos rfl, if_pos rfl]
    exact ⟨_, rfl, rfl, hR0⟩
/-- a difference of two numbers: how it stands -/
theorem df_cs {a b : Nat} (ha : a < 4000000000000000000) (hb : b < 4000000000000000000) : (a = b ∧ o6 a - o6 b = 0) ∨ (b < a ∧ o6 a - o6 b = o6 (a - b)) ∨ (a < b ∧ o6 a - o6 b = -(o6 (b - a))) := by
  have hs : (o6 a - o6 b).toInt = (a : Int) - b := by rw [nl_sub (by rw [o6_int (by omega), o6_int (by omega)]; omega) (by rw [o6_int (by omega), o6_int (by omega)]; omega), o6_int (by omega), o6_int (by omega)]
  rcases Nat.lt_trichotomy a b with h | h | h
  · refine Or.inr (Or.inr ⟨h, nl_eq.mpr ?_⟩)
    rw [hs, Int64.toInt_neg, o6_int (by omega)]
    rw [nl_bm (by omega) (by omega)]
    omega
  · exact Or.inl ⟨h, nl_eq.mpr (by rw [hs, nl_0]; omega)⟩
  · exact Or.inr (Or.inl ⟨h, o6_sub (by omega)⟩)
theorem ng_int {m : Nat} (h : m < 9223372036854775808) : (-(o6 m)).toInt = -(m : Int) := by
  rw [Int64.toInt_neg, o6_int h, nl_bm (by omega) (by omega)]
theorem ng_ng {m : Nat} (h : m < 9223372036854775808) : -(-(o6 m)) = o6 m := nl_eq.mpr (by rw [Int64.toInt_neg, ng_int h, o6_int h, nl_bm (by omega) (by omega)]; omega)
theorem ng_div {a b : Nat} (ha : a < 9223372036854775808) (hb : b < 9223372036854775808) : -(o6 a) / o6 b = -(o6 (a / b)) := by
  have h1 : a / b ≤ a := Nat.div_le_self a b
  rw [nl_eq, Int64.toInt_div, ng_int ha, o6_int hb, ng_int (by omega), Int.neg_tdiv]
  have e : (a : Int).tdiv (b : Int) = ((a / b : Nat) : Int) := by
    rw [Int.tdiv_eq_ediv_of_nonneg (by omega)]
    exact (Int.natCast_ediv a b).symm
  rw [e]
  clear e
  generalize a / b = q at h1
  exact nl_bm (by omega) (by omega)
theorem ng_abs {m : Nat} {S : fS} (h : m < 9223372036854775808) (h0 : m ≠ 0) : f_J9_abs_067f4 (-(o6 m)) S = some (o6 m) := by
  unfold f_J9_abs_067f4
  rw [if_neg (fun q => by have q := nl_le.mp q; rw [ng_int h, nl_0] at q; omega), ng_ng h]
theorem ps_abs {m : Nat} {S : fS} (h : m < 9223372036854775808) : f_J9_abs_067f4 (o6 m) S = some (o6 m) := by
  unfold f_J9_abs_067f4
  rw [if_pos (o6_0le h)]
theorem ev_p {a b : Nat} {v : Int32} {S : fS} (ha : a < 9223372036854775808) (hb : b < 9223372036854775808) (h0 : 0 < b) : ((f_X11_divisor (o6 a) (o6 b) S).bind fun q79 => if v = (0 : Int32) then ((dL (o6 a) q79).bind fun a87 => if (0 : Int64) ≤ a87 then (some a87) else (some (-a87))) else ((dL (o6 b) q79).bind fun a83 => if (0 : Int64) ≤ a83 then (some a83) else (some (-a83)))) = some (lw a b v) := by
  obtain ⟨g1, g2⟩ := gcd_lt ha hb h0
  have k1 := Nat.div_le_self a (Nat.gcd a b)
  have k2 := Nat.div_le_self b (Nat.gcd a b)
  rw [m_cd ha hb, bd_some, o6_dL ha g1 g2, o6_dL hb g1 g2, bd_some, bd_some, if_pos (o6_0le (by omega)), if_pos (o6_0le (by omega))]
  unfold lw
  split <;> rfl
theorem ev_n {a b : Nat} {v : Int32} {S : fS} (ha : a < 9223372036854775808) (hb : b < 9223372036854775808) (ha0 : 0 < a) (h0 : 0 < b) : ((f_X11_divisor (-(o6 a)) (-(o6 b)) S).bind fun q79 => if v = (0 : Int32) then ((dL (-(o6 a)) q79).bind fun a87 => if (0 : Int64) ≤ a87 then (some a87) else (some (-a87))) else ((dL (-(o6 b)) q79).bind fun a83 => if (0 : Int64) ≤ a83 then (some a83) else (some (-a83)))) = some (lw a b v) := by
  obtain ⟨g1, g2⟩ := gcd_lt ha hb h0
  have k1 := Nat.div_le_self a (Nat.gcd a b)
  have k2 := Nat.div_le_self b (Nat.gcd a b)
  have hd : f_X11_divisor (-(o6 a)) (-(o6 b)) S = f_X11_divisor (o6 a) (o6 b) S := by
    unfold f_X11_divisor
    rw [if_neg (fun q => by have q := nl_le.mp q; rw [ng_int ha, nl_0] at q; omega), if_neg (fun q => by have q := nl_le.mp q; rw [ng_int hb, nl_0] at q; omega), ng_ng ha, ng_ng hb, if_pos (o6_0le ha), if_pos (o6_0le hb)]
  have dn : ∀ m, m < 9223372036854775808 → dL (-(o6 m)) (o6 (Nat.gcd a b)) = some (-(o6 (m / Nat.gcd a b))) := fun m hm => by
    unfold dL
    rw [if_neg (o6_ne0 g1 g2), ng_div hm g1]
  have ab : ∀ m, m < 9223372036854775808 → (if (0 : Int64) ≤ -(o6 m) then some (-(o6 m)) else some (-(-(o6 m)))) = some (o6 m) := fun m hm => by
    by_cases hm0 : m = 0
    · rw [hm0]; rfl
    · rw [if_neg (fun q => by have q := nl_le.mp q; rw [ng_int hm, nl_0] at q; omega), ng_ng hm]
  rw [hd, m_cd ha hb, bd_some, dn a ha, dn b hb, bd_some, bd_some, ab _ (by omega), ab _ (by omega)]
  unfold lw
  split <;> rfl
theorem ev_c {v : Int32} {a b : Nat} {S : fS} (ha : a < 9223372036854775808) (hb : b < 9223372036854775808) (h0 : 0 < b) (x y : Int64) (hx : f_J9_abs_067f4 x S = some (o6 a)) (hy : f_J9_abs_067f4 y S = some (o6 b)) : ((f_J9_abs_067f4 x S).bind fun q39 => (f_J9_abs_067f4 y S).bind fun q42 => (f_X10_lowest q39 q42 v S).bind fun q45 => some q45) = some (lw a b v) := by
  rw [hx, hy, bd_some, bd_some, c_low ha hb h0, bd_some]
theorem t_17 (a1 a2 a3 a4 a5 : Int32) (S : fS) (hR : Rel S) : ∃ r, f_X10_even a1 a2 a3 a4 a5 S = some r ∧ f_X11_even a1 a2 a3 a4 a5 S = some r ∧ Rel S := by
  have hR0 := hR
  obtain ⟨n, s, L, M, hT, ⟨⟨n1, n2, n3, n4, n5, n6⟩, ⟨b1, b2, b3, b4, b5⟩, ⟨m1, m2, m3, m4⟩, d⟩, hL, hM⟩ := hR
  have h8 := n5.1
  unfold f_X10_even f_X11_even
  rw [ci_thing b3.1 (by omega), mi_thing m2.1 (by omega), ci_thing b3.1 (by omega), mi_thing m2.1 (by omega), ci_floor b1.1 (by omega), mi_floor m1.1 (by omega), ci_floor b1.1 (by omega), mi_floor m1.1 (by omega), part_c, part_m]
  simp only [bd_some]
  by_cases h1 : 0 ≤ a1.toInt ∧ a1.toInt < s.2.2.1.1
  · rw [if_pos h1, if_neg (show ¬ (1 : Int32) = 0 by decide), if_neg (show ¬ (1 : Int32) = 0 by decide)]
    by_cases h2 : 0 ≤ a2.toInt ∧ a2.toInt < s.2.2.1.1
    · rw [if_pos h2, if_neg (show ¬ (1 : Int32) = 0 by decide), if_neg (show ¬ (1 : Int32) = 0 by decide)]
      by_cases h12 : a1 = a2
      · rw [if_pos h12, if_pos h12]
        exact ⟨_, rfl, rfl, hR0⟩
      rw [if_neg h12, if_neg h12]
      by_cases h3 : 0 ≤ a3.toInt ∧ a3.toInt < s.1.length
      · rw [if_pos h3, if_neg (show ¬ (1 : Int32) = 0 by decide), if_neg (show ¬ (1 : Int32) = 0 by decide)]
        by_cases h4 : 0 ≤ a4.toInt ∧ a4.toInt < s.1.length
        · rw [if_pos h4, if_neg (show ¬ (1 : Int32) = 0 by decide), if_neg (show ¬ (1 : Int32) = 0 by decide)]
          by_cases h5 : ((0 : Nat) : Int) ≤ a5.toInt ∧ a5.toInt ≤ ((1 : Nat) : Int)
          · rw [if_pos h5, if_neg (show ¬ (1 : Int32) = 0 by decide), if_neg (show ¬ (1 : Int32) = 0 by decide)]
            obtain ⟨f, e1, e2⟩ := o3_ex h1.1
            obtain ⟨g, e3, e4⟩ := o3_ex h2.1
            obtain ⟨p, e5, e6⟩ := o3_ex h3.1
            obtain ⟨q, e7, e8⟩ := o3_ex h4.1
            have hf : f < s.2.2.1.1 := by omega
            have hg : g < s.2.2.1.1 := by omega
            have hp : p < s.1.length := by omega
            have hq : q < s.1.length := by omega
            obtain ⟨a, u1, u2⟩ := age_o n5 hf
            obtain ⟨b, w1, w2⟩ := age_o n5 hg
            have gc : gL S 16 8 (o3 f) = some (o6 a) := (gL_o (by omega) (by omega)).trans (congrArg some (((b3.2.2 f hf).2.2.2.2).trans u1))
            have gm : gL S 158 8 (o3 f) = some (o6 a) := (gL_o (by omega) (by omega)).trans (congrArg some (((m2.2.2 f hf).2.2.2.2).trans u1))
            have gc' : gL S 16 8 (o3 g) = some (o6 b) := (gL_o (by omega) (by omega)).trans (congrArg some (((b3.2.2 g hg).2.2.2.2).trans w1))
            have gm' : gL S 158 8 (o3 g) = some (o6 b) := (gL_o (by omega) (by omega)).trans (congrArg some (((m2.2.2 g hg).2.2.2.2).trans w1))
            have hok := pcn_le (n3 _ (gd_mem (d := (0, 0)) hp))
            have hok' := pcn_le (n3 _ (gd_mem (d := (0, 0)) hq))
            rw [e1, e3, e5, e7, gc, gm, gc', gm', cf_p b1 n1 hp, cf_p b1 n1 hq, mp_floor m1 n3 n1 hp, mp_floor m1 n3 n1 hq, pc_o, pc_o]
            simp only [bd_some]
            generalize (s.1.getD p (0, 0)).1 * pz (s.1.getD p (0, 0)) = x at hok
            generalize (s.1.getD q (0, 0)).1 * pz (s.1.getD q (0, 0)) = y at hok'
            rcases df_cs (a := b) (b := a) (by omega) (by omega) with ⟨_, c1⟩ | ⟨c0, c1⟩ | ⟨c0, c1⟩
            · rw [c1, if_pos rfl, if_pos rfl, show (0 : Int64) = o6 0 from rfl, show (1 : Int64) = o6 1 from rfl, c_low (by omega) (by omega) (by omega), bd_some]
              refine ⟨_, rfl, ?_, hR0⟩
              congr 1
              unfold lw
              by_cases h7 : a5 = 0
              · rw [if_pos h7, h7]; rfl
              · have : a5 = 1 := by
                  have : a5.toInt ≠ 0 := fun z => h7 (ni_eq.mpr z)
                  exact ni_eq.mpr (by show a5.toInt = 1; omega)
                rw [if_neg h7, this]; rfl
            · rw [c1, if_neg (o6_ne0 (by omega) (by omega)), if_neg (o6_ne0 (by omega) (by omega)), if_pos (o6_0le (by omega)), if_neg (show ¬ o6 (b - a) ≤ 0 from fun q => by have q := (o6_le (b := 0) (by omega) (by omega)).mp q; omega)]
              rcases df_cs (a := x) (b := y) (by omega) (by omega) with ⟨_, c3⟩ | ⟨c2, c3⟩ | ⟨c2, c3⟩
              · rw [c3, if_pos rfl, if_pos rfl]
                exact ⟨_, rfl, rfl, hR0⟩
              · rw [c3, if_neg (o6_ne0 (by omega) (by omega)), if_neg (o6_ne0 (by omega) (by omega)), if_pos (o6_0le (by omega)), if_neg (show ¬ o6 (x - y) ≤ 0 from fun q => by have q := (o6_le (b := 0) (by omega) (by omega)).mp q; omega), if_pos trivial, if_pos trivial, ev_c (by omega) (by omega) (by omega) _ _ (ps_abs (by omega)) (ps_abs (by omega)), ev_p (by omega) (by omega) (by omega)]
                exact ⟨_, rfl, rfl, hR0⟩
              · have hn0 : ¬ -(o6 (y - x)) = 0 := fun q => by have q := nl_eq.mp q; rw [ng_int (by omega), nl_0] at q; omega
                rw [c3, if_neg hn0, if_neg hn0, if_neg (show ¬ (0 : Int64) ≤ -(o6 (y - x)) from fun q => by have q := nl_le.mp q; rw [ng_int (by omega), nl_0] at q; omega), if_pos (show -(o6 (y - x)) ≤ 0 from nl_le.mpr (by rw [ng_int (by omega), nl_0]; omega)), if_neg (by decide), if_neg (by decide)]
                exact ⟨_, rfl, rfl, hR0⟩
            · have hm0 : ¬ -(o6 (a - b)) = 0 := fun q => by have q := nl_eq.mp q; rw [ng_int (by omega), nl_0] at q; omega
              rw [c1, if_neg hm0, if_neg hm0, if_neg (show ¬ (0 : Int64) ≤ -(o6 (a - b)) from fun q => by have q := nl_le.mp q; rw [ng_int (by omega), nl_0] at q; omega), if_pos (show -(o6 (a - b)) ≤ 0 from nl_le.mpr (by rw [ng_int (by omega), nl_0]; omega))]
              rcases df_cs (a := x) (b := y) (by omega) (by omega) with ⟨_, c3⟩ | ⟨c2, c3⟩ | ⟨c2, c3⟩
              · rw [c3, if_pos rfl, if_pos rfl]
                exact ⟨_, rfl, rfl, hR0⟩
              · rw [c3, if_neg (o6_ne0 (by omega) (by omega)), if_neg (o6_ne0 (by omega) (by omega)), if_pos (o6_0le (by omega)), if_neg (show ¬ o6 (x - y) ≤ 0 from fun q => by have q := (o6_le (b := 0) (by omega) (by omega)).mp q; omega), if_neg (by decide), if_neg (by decide)]
                exact ⟨_, rfl, rfl, hR0⟩
              · have hn0 : ¬ -(o6 (y - x)) = 0 := fun q => by have q := nl_eq.mp q; rw [ng_int (by omega), nl_0] at q; omega
                rw [c3, if_neg hn0, if_neg hn0, if_neg (show ¬ (0 : Int64) ≤ -(o6 (y - x)) from fun q => by have q := nl_le.mp q; rw [ng_int (by omega), nl_0] at q; omega), if_pos (show -(o6 (y - x)) ≤ 0 from nl_le.mpr (by rw [ng_int (by omega), nl_0]; omega)), if_pos trivial, if_pos trivial, ev_c (by omega) (by omega) (by omega) _ _ (ng_abs (by omega) (by omega)) (ng_abs (by omega) (by omega)), ev_n (by omega) (by omega) (by omega) (by omega)]
                exact ⟨_, rfl, rfl, hR0⟩
          · rw [if_neg h5, if_pos rfl, if_pos rfl]
            exact ⟨_, rfl, rfl, hR0⟩
        · rw [if_neg h4, if_pos rfl, if_pos rfl]
          exact ⟨_, rfl, rfl, hR0⟩
      · rw [if_neg h3, if_pos rfl, if_pos rfl]
        exact ⟨_, rfl, rfl, hR0⟩
    · rw [if_neg h2, if_pos rfl, if_pos rfl]
      exact ⟨_, rfl, rfl, hR0⟩
  · rw [if_neg h1, if_pos rfl, if_pos rfl]
    exact ⟨_, rfl, rfl, hR0⟩
end
section
/-! letters -/
def cfn (f : Nat → Bool) : Nat → Nat
  | 0 => 0
  | k + 1 => cfn f k + (if f k = true then 1 else 0)
theorem cfn_le {f : Nat → Bool} : ∀ k, cfn f k ≤ k := by
  intro k
  induction k with
  | zero => exact Nat.le_refl _
  | succ k ih =>
    show cfn f k + _ ≤ k + 1
    split <;> omega
section PO
variable {S : fS} {F : List (Nat × Nat)} {E : List St5} {P : Po}
def cmg (E : List St5) (P : Po) (k : Nat) : Nat := P.2.2.2 k + dst E (P.2.1 k) (P.2.2.1 k)
def stg (F : List (Nat × Nat)) (P : Po) (k : Nat) : Nat := P.2.2.2 k * ((F.getD (P.2.1 k) (0, 0)).1 * pz (F.getD (P.2.1 k) (0, 0)))
def ctg (F : List (Nat × Nat)) (E : List St5) (P : Po) (k : Nat) : Nat := cmg E P k * ((F.getD (P.2.2.1 k) (0, 0)).1 * pz (F.getD (P.2.2.1 k) (0, 0)))
theorem po_b (hF : ∀ q ∈ F, okF q) (hP : okP F.length (dst E) P) {k : Nat} (hk : k < P.1) : cmg E P k ≤ 109998 ∧ stg F P k ≤ 46553856148800 ∧ ctg F E P k ≤ 512134320297600 := by
  obtain ⟨p1, p2, p3, p4⟩ := hP.2 k hk
  have h1 := pcn_le (hF _ (gd_mem (d := (0, 0)) p1))
  have h2 := pcn_le (hF _ (gd_mem (d := (0, 0)) p2))
  have h3 : cmg E P k ≤ 109998 := by unfold cmg; omega
  refine ⟨h3, ?_, ?_⟩
  · have : stg F P k ≤ 9999 * 4655851200 := Nat.mul_le_mul p3 h1.2
    omega
  · have : ctg F E P k ≤ 109998 * 4655851200 := Nat.mul_le_mul h3 h2.2
    omega
theorem pc_sent (b1 : twC S 4 F E) (b4 : poC S 17 (dst E) P) (hF : ∀ q ∈ F, okF q) (hm : F.length ≤ 10) (hP : okP F.length (dst E) P) {k : Nat} (hk : k < P.1) : f_X2_sentByClock 17 4 (o3 k) S = some (o6 (stg F P k)) ∧ gI S 21 12 (o3 k) = some (o3 (cmg E P k)) ∧ f_X2_isEarly 17 4 (o3 k) S = some (if stg F P k ≤ ctg F E P k then 0 else 1) := by
  obtain ⟨c1, c2, c3, c4⟩ := b4.2 k hk
  obtain ⟨p1, p2, p3, p4⟩ := hP.2 k hk
  obtain ⟨w1, w2, w3⟩ := po_b hF hP hk
  have h12 := hP.1
  have e1 : f_X2_sentByClock 17 4 (o3 k) S = some (o6 (stg F P k)) := by
    unfold f_X2_sentByClock f_X8_clockAt
    rw [gI_o (by omega) (by omega), bd_some, gI_o (by omega) (by omega), bd_some, c1, c3, show gL S (4 + 1) 10 (o3 (P.2.1 k)) = some (pc (F.getD (P.2.1 k) (0, 0))) from cf_p b1 hm p1, bd_some, bd_some, pc_o, o6_of3 (by omega), o6_mul]
    rfl
  have e2 : gI S 21 12 (o3 k) = some (o3 (cmg E P k)) := (gI_o (by omega) (by omega)).trans (congrArg some c4)
  refine ⟨e1, e2, ?_⟩
  unfold f_X2_isEarly f_X8_clockAt
  rw [gI_o (by omega) (by omega), bd_some, show gI S (17 + 4) 12 (o3 k) = some (o3 (cmg E P k)) from e2, bd_some, c2, show gL S (4 + 1) 10 (o3 (P.2.2.1 k)) = some (pc (F.getD (P.2.2.1 k) (0, 0))) from cf_p b1 hm p2, bd_some, bd_some, e1, bd_some, pc_o, o6_of3 (by omega), o6_mul]
  by_cases h : stg F P k ≤ ctg F E P k
  · rw [if_pos h, if_pos (show o6 (stg F P k) ≤ o6 (cmg E P k * ((F.getD (P.2.2.1 k) (0, 0)).1 * pz (F.getD (P.2.2.1 k) (0, 0)))) from (o6_le (by omega) (by have : cmg E P k * ((F.getD (P.2.2.1 k) (0, 0)).1 * pz (F.getD (P.2.2.1 k) (0, 0))) = ctg F E P k := rfl; omega)).mpr h)]
  · rw [if_neg h, if_neg (show ¬ o6 (stg F P k) ≤ o6 (cmg E P k * ((F.getD (P.2.2.1 k) (0, 0)).1 * pz (F.getD (P.2.2.1 k) (0, 0)))) from fun q => h ((o6_le (by omega) (by have : cmg E P k * ((F.getD (P.2.2.1 k) (0, 0)).1 * pz (F.getD (P.2.2.1 k) (0, 0))) = ctg F E P k := rfl; omega)).mp q))]
theorem pm_of (m3 : poM (S.1 157) P) (h12 : P.1 ≤ 12) {k : Nat} (hk : k < P.1) : f_X11_letterOf (o3 k) 0 S = some (o3 (P.2.1 k)) ∧ f_X11_letterOf (o3 k) 1 S = some (o3 (P.2.2.1 k)) ∧ f_X11_letterOf (o3 k) 2 S = some (o3 (P.2.2.2 k)) := by
  obtain ⟨c1, c2, c3⟩ := m3.2 k hk
  have key : ∀ a, a < 3 → f_X11_letterOf (o3 k) (o3 a) S = some (S.1 157 (122 + 3 * k + a)) := fun a ha => by
    unfold f_X11_letterOf
    rw [show (122 : Int32) = o3 122 from rfl, show (3 : Int32) = o3 3 from rfl, o3_mul, o3_add, o3_add, gI_o (by omega) (by omega), bd_some]
  exact ⟨(key 0 (by omega)).trans (congrArg some c1), (key 1 (by omega)).trans (congrArg some c2), (key 2 (by omega)).trans (congrArg some c3)⟩
theorem pm_all (m1 : twM (S.1 157) F E) (m3 : poM (S.1 157) P) (d : rHm S F.length (dst E)) (hF : ∀ q ∈ F, okF q) (hm : F.length ≤ 10) (hP : okP F.length (dst E) P) {k : Nat} (hk : k < P.1) : f_X11_sentAt (o3 k) S = some (o6 (stg F P k)) ∧ f_X11_comesAt (o3 k) S = some (o3 (cmg E P k)) ∧ f_X11_isEarly (o3 k) S = some (if stg F P k ≤ ctg F E P k then 0 else 1) := by
  obtain ⟨c1, c2, c3⟩ := pm_of m3 hP.1 hk
  obtain ⟨p1, p2, p3, p4⟩ := hP.2 k hk
  obtain ⟨w1, w2, w3⟩ := po_b hF hP hk
  have e1 : f_X11_comesAt (o3 k) S = some (o3 (cmg E P k)) := by
    unfold f_X11_comesAt
    rw [c3, bd_some, c1, bd_some, c2, bd_some, mh_btw d hm p1 p2, bd_some, o6_to3 (by omega), o3_add]
    rfl
  have e2 : f_X11_sentAt (o3 k) S = some (o6 (stg F P k)) := by
    unfold f_X11_sentAt
    rw [c3, bd_some, c1, bd_some, mp_floor m1 hF hm p1, bd_some, pc_o, o6_of3 (by omega), o6_mul]
    rfl
  refine ⟨e2, e1, ?_⟩
  unfold f_X11_isEarly
  rw [e1, bd_some, c2, bd_some, mp_floor m1 hF hm p2, bd_some, c3, bd_some, c1, bd_some, mp_floor m1 hF hm p1, bd_some, pc_o, pc_o, o6_of3 (by omega), o6_of3 (by omega), o6_mul, o6_mul]
  by_cases h : stg F P k ≤ ctg F E P k
  · rw [if_pos h, if_pos (show o6 (P.2.2.2 k * ((F.getD (P.2.1 k) (0, 0)).1 * pz (F.getD (P.2.1 k) (0, 0)))) ≤ o6 (cmg E P k * ((F.getD (P.2.2.1 k) (0, 0)).1 * pz (F.getD (P.2.2.1 k) (0, 0)))) from (o6_le (a := stg F P k) (b := ctg F E P k) (by omega) (by omega)).mpr h)]
  · rw [if_neg h, if_neg (show ¬ o6 (P.2.2.2 k * ((F.getD (P.2.1 k) (0, 0)).1 * pz (F.getD (P.2.1 k) (0, 0)))) ≤ o6 (cmg E P k * ((F.getD (P.2.2.1 k) (0, 0)).1 * pz (F.getD (P.2.2.1 k) (0, 0)))) from fun q => h ((o6_le (a := stg F P k) (b := ctg F E P k) (by omega) (by omega)).mp q))]
end PO
theorem t_29 (a1 a2 : Int32) (S : fS) (hR : Rel S) : ∃ r, f_X10_letters a1 a2 S = some r ∧ f_X11_letters a1 a2 S = some r ∧ Rel S := by
  have hR0 := hR
  obtain ⟨n, s, L, M, hT, ⟨⟨n1, n2, n3, n4, n5, n6⟩, ⟨b1, b2, b3, b4, b5⟩, ⟨m1, m2, m3, m4⟩, d⟩, hL, hM⟩ := hR
  have h12 := n6.1
  have hi1 : f_X10_isFrom a2 0 4 S = some (if ((0 : Nat) : Int) ≤ a2.toInt ∧ a2.toInt ≤ ((4 : Nat) : Int) then 1 else 0) := from_c (a := 0) (b := 4) (by omega) (by omega)
  have hi2 : f_X11_in (Int32.toInt64 a2) 0 4 S = some (if ((0 : Nat) : Int) ≤ a2.toInt ∧ a2.toInt ≤ ((4 : Nat) : Int) then 1 else 0) := in_c (a := 0) (b := 4) (by omega) (by omega)
  have hg4 : gI S 157 158 4 = some (o3 s.2.2.2.1) := (gI_o (k := 4) (by omega) (by omega)).trans (congrArg some m3.1)
  unfold f_X10_letters f_X11_letters
  rw [show S.1 17 4 = o3 s.2.2.2.1 from b4.1, from_o (by omega), hg4, bd_some, bd_some, show (0 : Int64) = Int32.toInt64 0 from rfl, op_in, from_o (by omega), bd_some, show Int32.toInt64 0 = (0 : Int64) from rfl, hi1, hi2, bd_some, bd_some]
  by_cases h1 : 0 ≤ a1.toInt ∧ a1.toInt < s.2.2.2.1
  · rw [if_pos h1, if_neg (show ¬ (1 : Int32) = 0 by decide), if_neg (show ¬ (1 : Int32) = 0 by decide)]
    by_cases h2 : ((0 : Nat) : Int) ≤ a2.toInt ∧ a2.toInt ≤ ((4 : Nat) : Int)
    · rw [if_pos h2, if_neg (show ¬ (1 : Int32) = 0 by decide), if_neg (show ¬ (1 : Int32) = 0 by decide)]
      obtain ⟨k, e1, e2⟩ := o3_ex h1.1
      obtain ⟨v, e3, e4⟩ := o3_ex (x := a2) (by omega)
      have hk : k < s.2.2.2.1 := by omega
      obtain ⟨c1, c2, c3, c4⟩ := b4.2 k hk
      obtain ⟨u1, u2, u3⟩ := pc_sent b1 b4 n3 n1 n6 hk
      obtain ⟨w1, w2, w3⟩ := pm_all m1 m3 d n3 n1 n6 hk
      obtain ⟨x1, x2, x3⟩ := pm_of m3 h12 hk
      rw [e1, e3]
      have : v = 0 ∨ v = 1 ∨ v = 2 ∨ v = 3 ∨ v = 4 := by omega
      rcases this with rfl | rfl | rfl | rfl | rfl
      · rw [if_pos (show o3 0 = (0 : Int32) from rfl), if_neg (show ¬ (3 : Int32) ≤ o3 0 by decide), gI_o (by omega) (by omega), bd_some, show f_X11_letterOf (o3 k) (o3 0) S = _ from x1, bd_some]
        exact ⟨_, congrArg some c1, rfl, hR0⟩
      · rw [if_neg (show ¬ o3 1 = (0 : Int32) by decide), if_pos (show o3 1 = (1 : Int32) from rfl), if_neg (show ¬ (3 : Int32) ≤ o3 1 by decide), gI_o (by omega) (by omega), bd_some, show f_X11_letterOf (o3 k) (o3 1) S = _ from x2, bd_some]
        exact ⟨_, congrArg some c2, rfl, hR0⟩
      · rw [if_neg (show ¬ o3 2 = (0 : Int32) by decide), if_neg (show ¬ o3 2 = (1 : Int32) by decide), if_pos (show o3 2 = (2 : Int32) from rfl), if_neg (show ¬ (3 : Int32) ≤ o3 2 by decide), gI_o (by omega) (by omega), bd_some, show f_X11_letterOf (o3 k) (o3 2) S = _ from x3, bd_some]
        exact ⟨_, congrArg some c3, rfl, hR0⟩
      · rw [if_neg (show ¬ o3 3 = (0 : Int32) by decide), if_neg (show ¬ o3 3 = (1 : Int32) by decide), if_neg (show ¬ o3 3 = (2 : Int32) by decide), if_pos (show o3 3 = (3 : Int32) from rfl), if_pos (show (3 : Int32) ≤ o3 3 by decide), if_pos (show o3 3 = (3 : Int32) from rfl), u2, bd_some, w2, bd_some]
        exact ⟨_, rfl, rfl, hR0⟩
      · rw [if_neg (show ¬ o3 4 = (0 : Int32) by decide), if_neg (show ¬ o3 4 = (1 : Int32) by decide), if_neg (show ¬ o3 4 = (2 : Int32) by decide), if_neg (show ¬ o3 4 = (3 : Int32) by decide), if_pos (show (3 : Int32) ≤ o3 4 by decide), if_neg (show ¬ o3 4 = (3 : Int32) by decide), u3, w3, bd_some]
        split <;> exact ⟨_, rfl, rfl, hR0⟩
    · rw [if_neg h2, if_pos rfl, if_pos rfl]
      exact ⟨_, rfl, rfl, hR0⟩
  · rw [if_neg h1, if_pos rfl, if_pos rfl]
    exact ⟨_, rfl, rfl, hR0⟩
/-! crossed() -/
def ovb (F : List (Nat × Nat)) (E : List St5) (P : Po) (p q : Nat) : Bool := decide (¬ stg F P q ≤ stg F P p ∧ ¬ cmg E P p ≤ cmg E P q)
def ovs (F : List (Nat × Nat)) (E : List St5) (P : Po) : Nat → Nat
  | 0 => 0
  | k + 1 => ovs F E P k + cfn (ovb F E P k) P.1
theorem ovs_le {F : List (Nat × Nat)} {E : List St5} {P : Po} : ∀ k, ovs F E P k ≤ k * P.1 := by
  intro k
  induction k with
  | zero => exact Nat.zero_le _
  | succ k ih =>
    have := cfn_le (f := ovb F E P k) P.1
    show ovs F E P k + _ ≤ (k + 1) * P.1
    rw [Nat.succ_mul]
    omega
theorem t_30 (S : fS) (hR : Rel S) : ∃ r, f_X10_crossed S = some r ∧ f_X11_crossed S = some r ∧ Rel S := by
  have hR0 := hR
  obtain ⟨n, s, L, M, hT, ⟨⟨n1, n2, n3, n4, n5, n6⟩, ⟨b1, b2, b3, b4, b5⟩, ⟨m1, m2, m3, m4⟩, d⟩, hL, hM⟩ := hR
  have h12 := n6.1
  have hg4 : gI S 157 158 4 = some (o3 s.2.2.2.1) := (gI_o (k := 4) (by omega) (by omega)).trans (congrArg some m3.1)
  have hc4 : S.1 17 4 = o3 s.2.2.2.1 := b4.1
  have ov1 : ∀ p q, p < s.2.2.2.1 → q < s.2.2.2.1 → f_X2_isOvertaken 17 4 (o3 p) (o3 q) S = some (if ovb s.1 s.2.1 s.2.2.2 p q = true then 1 else 0) := fun p q hp hq => by
    obtain ⟨u1, u2, u3⟩ := pc_sent b1 b4 n3 n1 n6 hp
    obtain ⟨w1, w2, w3⟩ := pc_sent b1 b4 n3 n1 n6 hq
    obtain ⟨x1, x2, x3⟩ := po_b n3 n6 hp
    obtain ⟨y1, y2, y3⟩ := po_b n3 n6 hq
    unfold f_X2_isOvertaken ovb
    rw [u1, bd_some, w1, bd_some]
    by_cases h : stg s.1 s.2.2.2 q ≤ stg s.1 s.2.2.2 p
    · rw [if_pos ((o6_le (by omega) (by omega)).mpr h), if_neg (by rw [decide_eq_true_eq]; exact fun z => z.1 h)]
    · rw [if_neg (fun z => h ((o6_le (by omega) (by omega)).mp z)), show gI S (17 + 4) 12 (o3 p) = _ from u2, bd_some, show gI S (17 + 4) 12 (o3 q) = _ from w2, bd_some]
      by_cases h' : cmg s.2.1 s.2.2.2 p ≤ cmg s.2.1 s.2.2.2 q
      · rw [if_pos ((o3_le (by omega) (by omega)).mpr h'), if_neg (by rw [decide_eq_true_eq]; exact fun z => z.2 h')]
      · rw [if_neg (fun z => h' ((o3_le (by omega) (by omega)).mp z)), if_pos (by rw [decide_eq_true_eq]; exact ⟨h, h'⟩)]
  have inC : ∀ p, p < s.2.2.2.1 → ∀ (K : Int32 → Option Int32) dd k nn base, k + dd = s.2.2.2.1 → dd < nn → lp_X10_crossed_20 (o3 p) S K nn (o3 (base + cfn (ovb s.1 s.2.1 s.2.2.2 p) k)) (o3 k) = K (o3 (base + cfn (ovb s.1 s.2.1 s.2.2.2 p) s.2.2.2.1)) := by
    intro p hp K dd
    induction dd with
    | zero =>
      intro k nn base hk hnn
      obtain ⟨nn, rfl⟩ : ∃ z, nn = z + 1 := ⟨nn - 1, by omega⟩
      rw [lp_X10_crossed_20.eq_2, hc4, if_pos ((o3_le (by omega) (by omega)).mpr (by omega)), show k = s.2.2.2.1 by omega]
    | succ dd ih =>
      intro k nn base hk hnn
      obtain ⟨nn, rfl⟩ : ∃ z, nn = z + 1 := ⟨nn - 1, by omega⟩
      have hs : cfn (ovb s.1 s.2.1 s.2.2.2 p) (k + 1) = cfn (ovb s.1 s.2.1 s.2.2.2 p) k + (if ovb s.1 s.2.1 s.2.2.2 p k = true then 1 else 0) := rfl
      rw [lp_X10_crossed_20.eq_2, hc4, if_neg (fun q => by have := (o3_le (by omega) (by omega)).mp q; omega), ov1 p k hp (by omega), bd_some]
      by_cases h : ovb s.1 s.2.1 s.2.2.2 p k = true
      · rw [if_pos h] at hs
        rw [if_pos h, if_neg (show ¬ (1 : Int32) = 0 by decide), o3_s, o3_s, Nat.add_assoc, ← hs]
        exact ih (k + 1) nn base (by omega) (by omega)
      · rw [if_neg h] at hs
        replace hs := hs.trans (Nat.add_zero _)
        rw [if_neg h, if_pos rfl, o3_s, ← hs]
        exact ih (k + 1) nn base (by omega) (by omega)
  have inM : ∀ p, p < s.2.2.2.1 → ∀ (K : Int32 → Option Int32) dd k nn base, k + dd = s.2.2.2.1 → dd < nn → lp_X11_crossed_16 (o3 p) S K nn (o3 (base + cfn (ovb s.1 s.2.1 s.2.2.2 p) k)) (o3 k) = K (o3 (base + cfn (ovb s.1 s.2.1 s.2.2.2 p) s.2.2.2.1)) := by
    intro p hp K dd
    induction dd with
    | zero =>
      intro k nn base hk hnn
      obtain ⟨nn, rfl⟩ : ∃ z, nn = z + 1 := ⟨nn - 1, by omega⟩
      rw [lp_X11_crossed_16.eq_2, hg4, bd_some, if_pos ((o3_le (by omega) (by omega)).mpr (by omega)), show k = s.2.2.2.1 by omega]
    | succ dd ih =>
      intro k nn base hk hnn
      obtain ⟨nn, rfl⟩ : ∃ z, nn = z + 1 := ⟨nn - 1, by omega⟩
      have hs : cfn (ovb s.1 s.2.1 s.2.2.2 p) (k + 1) = cfn (ovb s.1 s.2.1 s.2.2.2 p) k + (if ovb s.1 s.2.1 s.2.2.2 p k = true then 1 else 0) := rfl
      obtain ⟨u1, u2, u3⟩ := pm_all m1 m3 d n3 n1 n6 hp
      obtain ⟨w1, w2, w3⟩ := pm_all m1 m3 d n3 n1 n6 (show k < s.2.2.2.1 by omega)
      obtain ⟨x1, x2, x3⟩ := po_b n3 n6 hp
      obtain ⟨y1, y2, y3⟩ := po_b n3 n6 (show k < s.2.2.2.1 by omega)
      rw [lp_X11_crossed_16.eq_2, hg4, bd_some, if_neg (fun q => by have := (o3_le (by omega) (by omega)).mp q; omega), u1, bd_some, w1, bd_some]
      have hz : o3 (base + cfn (ovb s.1 s.2.1 s.2.2.2 p) k) + (0 : Int32) = o3 (base + cfn (ovb s.1 s.2.1 s.2.2.2 p) k) := Int32.add_zero _
      rw [hz, o3_s, o3_s]
      by_cases h : stg s.1 s.2.2.2 k ≤ stg s.1 s.2.2.2 p
      · rw [if_pos ((o6_le (by omega) (by omega)).mpr h)]
        rw [if_neg (by unfold ovb; rw [decide_eq_true_eq]; exact fun z => z.1 h)] at hs
        replace hs := hs.trans (Nat.add_zero _)
        rw [← hs]
        exact ih (k + 1) nn base (by omega) (by omega)
      · rw [if_neg (fun z => h ((o6_le (by omega) (by omega)).mp z)), u2, bd_some, w2, bd_some]
        by_cases h' : cmg s.2.1 s.2.2.2 p ≤ cmg s.2.1 s.2.2.2 k
        · rw [if_pos ((o3_le (by omega) (by omega)).mpr h')]
          rw [if_neg (by unfold ovb; rw [decide_eq_true_eq]; exact fun z => z.2 h')] at hs
          replace hs := hs.trans (Nat.add_zero _)
          rw [← hs]
          exact ih (k + 1) nn base (by omega) (by omega)
        · rw [if_neg (fun z => h' ((o3_le (by omega) (by omega)).mp z))]
          rw [if_pos (by unfold ovb; rw [decide_eq_true_eq]; exact ⟨h, h'⟩)] at hs
          rw [Nat.add_assoc, ← hs]
          exact ih (k + 1) nn base (by omega) (by omega)
  have ouC : ∀ dd k nn, k + dd = s.2.2.2.1 → dd < nn → lp_X10_crossed_4 S (fun u9 => some u9) nn (o3 (ovs s.1 s.2.1 s.2.2.2 k)) (o3 k) = some (o3 (ovs s.1 s.2.1 s.2.2.2 s.2.2.2.1)) := by
    intro dd
    induction dd with
    | zero =>
      intro k nn hk hnn
      obtain ⟨nn, rfl⟩ : ∃ z, nn = z + 1 := ⟨nn - 1, by omega⟩
      rw [lp_X10_crossed_4.eq_2, hc4, if_pos ((o3_le (by omega) (by omega)).mpr (by omega)), show k = s.2.2.2.1 by omega]
    | succ dd ih =>
      intro k nn hk hnn
      obtain ⟨nn, rfl⟩ : ∃ z, nn = z + 1 := ⟨nn - 1, by omega⟩
      rw [lp_X10_crossed_4.eq_2, hc4, if_neg (fun q => by have := (o3_le (by omega) (by omega)).mp q; omega)]
      have := inC k (by omega) (fun u7 => lp_X10_crossed_4 S (fun u9 => some u9) nn u7 (o3 k + (1 : Int32))) s.2.2.2.1 0 FU (ovs s.1 s.2.1 s.2.2.2 k) (by omega) (FU_lt (by omega))
      have e0 : ovs s.1 s.2.1 s.2.2.2 k + cfn (ovb s.1 s.2.1 s.2.2.2 k) 0 = ovs s.1 s.2.1 s.2.2.2 k := Nat.add_zero _
      rw [e0] at this
      refine this.trans ?_
      rw [o3_s]
      exact ih (k + 1) nn (by omega) (by omega)
  have ouM : ∀ dd k nn, k + dd = s.2.2.2.1 → dd < nn → lp_X11_crossed_4 S (fun u9 => some u9) nn (o3 (ovs s.1 s.2.1 s.2.2.2 k)) (o3 k) = some (o3 (ovs s.1 s.2.1 s.2.2.2 s.2.2.2.1)) := by
    intro dd
    induction dd with
    | zero =>
      intro k nn hk hnn
      obtain ⟨nn, rfl⟩ : ∃ z, nn = z + 1 := ⟨nn - 1, by omega⟩
      rw [lp_X11_crossed_4.eq_2, hg4, bd_some, if_pos ((o3_le (by omega) (by omega)).mpr (by omega)), show k = s.2.2.2.1 by omega]
    | succ dd ih =>
      intro k nn hk hnn
      obtain ⟨nn, rfl⟩ : ∃ z, nn = z + 1 := ⟨nn - 1, by omega⟩
      rw [lp_X11_crossed_4.eq_2, hg4, bd_some, if_neg (fun q => by have := (o3_le (by omega) (by omega)).mp q; omega)]
      have := inM k (by omega) (fun u7 => lp_X11_crossed_4 S (fun u9 => some u9) nn u7 (o3 k + (1 : Int32))) s.2.2.2.1 0 FU (ovs s.1 s.2.1 s.2.2.2 k) (by omega) (FU_lt (by omega))
      have e0 : ovs s.1 s.2.1 s.2.2.2 k + cfn (ovb s.1 s.2.1 s.2.2.2 k) 0 = ovs s.1 s.2.1 s.2.2.2 k := Nat.add_zero _
      rw [e0] at this
      refine this.trans ?_
      rw [o3_s]
      exact ih (k + 1) nn (by omega) (by omega)
  exact ⟨_, ouC s.2.2.2.1 0 FU (by omega) (FU_lt (by omega)), ouM s.2.2.2.1 0 FU (by omega) (FU_lt (by omega)), hR0⟩
/-! order() -/
def cbb (E : List St5) (P : Po) (p q : Nat) : Bool := decide (cmg E P q < cmg E P p ∨ (cmg E P q = cmg E P p ∧ q < p))
def odf (E : List St5) (P : Po) (v : Int32) : Nat → Nat → Int32
  | 0, _ => -1
  | d + 1, k => if o3 (cfn (cbb E P k) P.1) = v then o3 k else odf E P v d (k + 1)
theorem t_31 (a1 : Int32) (S : fS) (hR : Rel S) : ∃ r, f_X10_order a1 S = some r ∧ f_X11_order a1 S = some r ∧ Rel S := by
  have hR0 := hR
  obtain ⟨n, s, L, M, hT, ⟨⟨n1, n2, n3, n4, n5, n6⟩, ⟨b1, b2, b3, b4, b5⟩, ⟨m1, m2, m3, m4⟩, d⟩, hL, hM⟩ := hR
  have h12 := n6.1
  have hg4 : gI S 157 158 4 = some (o3 s.2.2.2.1) := (gI_o (k := 4) (by omega) (by omega)).trans (congrArg some m3.1)
  have hc4 : S.1 17 4 = o3 s.2.2.2.1 := b4.1
  have inC : ∀ p, p < s.2.2.2.1 → ∀ dd k nn, k + dd = s.2.2.2.1 → dd < nn → lp_X2_comingBefore_4 17 (o3 p) S (fun u21 => some u21) nn (o3 (cfn (cbb s.2.1 s.2.2.2 p) k)) (o3 k) = some (o3 (cfn (cbb s.2.1 s.2.2.2 p) s.2.2.2.1)) := by
    intro p hp dd
    induction dd with
    | zero =>
      intro k nn hk hnn
      obtain ⟨nn, rfl⟩ : ∃ z, nn = z + 1 := ⟨nn - 1, by omega⟩
      rw [lp_X2_comingBefore_4.eq_2, hc4, if_pos ((o3_le (by omega) (by omega)).mpr (by omega)), show k = s.2.2.2.1 by omega]
    | succ dd ih =>
      intro k nn hk hnn
      obtain ⟨nn, rfl⟩ : ∃ z, nn = z + 1 := ⟨nn - 1, by omega⟩
      have hs : cfn (cbb s.2.1 s.2.2.2 p) (k + 1) = cfn (cbb s.2.1 s.2.2.2 p) k + (if cbb s.2.1 s.2.2.2 p k = true then 1 else 0) := rfl
      obtain ⟨u1, u2, u3⟩ := pc_sent b1 b4 n3 n1 n6 hp
      obtain ⟨w1, w2, w3⟩ := pc_sent b1 b4 n3 n1 n6 (show k < s.2.2.2.1 by omega)
      obtain ⟨x1, x2, x3⟩ := po_b n3 n6 hp
      obtain ⟨y1, y2, y3⟩ := po_b n3 n6 (show k < s.2.2.2.1 by omega)
      have hz : o3 (cfn (cbb s.2.1 s.2.2.2 p) k) + (0 : Int32) = o3 (cfn (cbb s.2.1 s.2.2.2 p) k) := Int32.add_zero _
      rw [lp_X2_comingBefore_4.eq_2, hc4, if_neg (fun q => by have := (o3_le (by omega) (by omega)).mp q; omega), show gI S (17 + 4) 12 (o3 k) = _ from w2, bd_some, show gI S (17 + 4) 12 (o3 p) = _ from u2, bd_some, bd_some, bd_some, hz, o3_s, o3_s]
      by_cases h : cmg s.2.1 s.2.2.2 k < cmg s.2.1 s.2.2.2 p
      · rw [if_pos ((o3_lt (by omega) (by omega)).mpr h), if_neg (show ¬ (1 : Int32) = 0 by decide)]
        rw [if_pos (by unfold cbb; rw [decide_eq_true_eq]; exact Or.inl h)] at hs
        rw [← hs]
        exact ih (k + 1) nn (by omega) (by omega)
      · rw [if_neg (fun z => h ((o3_lt (by omega) (by omega)).mp z))]
        by_cases h' : cmg s.2.1 s.2.2.2 k = cmg s.2.1 s.2.2.2 p
        · rw [if_pos ((o3_inj (by omega) (by omega)).mpr h')]
          by_cases h3 : p ≤ k
          · rw [if_pos ((o3_le (by omega) (by omega)).mpr h3), if_pos rfl]
            rw [if_neg (by unfold cbb; rw [decide_eq_true_eq]; omega)] at hs
            replace hs := hs.trans (Nat.add_zero _)
            rw [← hs]
            exact ih (k + 1) nn (by omega) (by omega)
          · rw [if_neg (fun z => h3 ((o3_le (by omega) (by omega)).mp z)), if_neg (show ¬ (1 : Int32) = 0 by decide)]
            rw [if_pos (by unfold cbb; rw [decide_eq_true_eq]; omega)] at hs
            rw [← hs]
            exact ih (k + 1) nn (by omega) (by omega)
        · rw [if_neg (fun z => h' ((o3_inj (by omega) (by omega)).mp z)), if_pos rfl]
          rw [if_neg (by unfold cbb; rw [decide_eq_true_eq]; omega)] at hs
          replace hs := hs.trans (Nat.add_zero _)
          rw [← hs]
          exact ih (k + 1) nn (by omega) (by omega)
  have inM : ∀ p, p < s.2.2.2.1 → ∀ (K : Int32 → Option Int32) dd k nn, k + dd = s.2.2.2.1 → dd < nn → lp_X11_order_37 a1 (o3 p) S K nn (o3 (cfn (cbb s.2.1 s.2.2.2 p) k)) (o3 k) = K (o3 (cfn (cbb s.2.1 s.2.2.2 p) s.2.2.2.1)) := by
    intro p hp K dd
    induction dd with
    | zero =>
      intro k nn hk hnn
      obtain ⟨nn, rfl⟩ : ∃ z, nn = z + 1 := ⟨nn - 1, by omega⟩
      rw [lp_X11_order_37.eq_2, hg4, bd_some, if_pos ((o3_le (by omega) (by omega)).mpr (by omega)), show k = s.2.2.2.1 by omega]
    | succ dd ih =>
      intro k nn hk hnn
      obtain ⟨nn, rfl⟩ : ∃ z, nn = z + 1 := ⟨nn - 1, by omega⟩
      have hs : cfn (cbb s.2.1 s.2.2.2 p) (k + 1) = cfn (cbb s.2.1 s.2.2.2 p) k + (if cbb s.2.1 s.2.2.2 p k = true then 1 else 0) := rfl
      obtain ⟨u1, u2, u3⟩ := pm_all m1 m3 d n3 n1 n6 hp
      obtain ⟨w1, w2, w3⟩ := pm_all m1 m3 d n3 n1 n6 (show k < s.2.2.2.1 by omega)
      obtain ⟨x1, x2, x3⟩ := po_b n3 n6 hp
      obtain ⟨y1, y2, y3⟩ := po_b n3 n6 (show k < s.2.2.2.1 by omega)
      have hz : o3 (cfn (cbb s.2.1 s.2.2.2 p) k) + (0 : Int32) = o3 (cfn (cbb s.2.1 s.2.2.2 p) k) := Int32.add_zero _
      rw [lp_X11_order_37.eq_2, hg4, bd_some, if_neg (fun q => by have := (o3_le (by omega) (by omega)).mp q; omega), w2, bd_some, u2, bd_some, bd_some, bd_some, hz, o3_s, o3_s]
      by_cases h : cmg s.2.1 s.2.2.2 k < cmg s.2.1 s.2.2.2 p
      · rw [if_pos ((o3_lt (by omega) (by omega)).mpr h)]
        rw [if_pos (by unfold cbb; rw [decide_eq_true_eq]; exact Or.inl h)] at hs
        rw [← hs]
        exact ih (k + 1) nn (by omega) (by omega)
      · rw [if_neg (fun z => h ((o3_lt (by omega) (by omega)).mp z))]
        by_cases h' : cmg s.2.1 s.2.2.2 k = cmg s.2.1 s.2.2.2 p
        · rw [if_pos ((o3_inj (by omega) (by omega)).mpr h')]
          by_cases h3 : p ≤ k
          · rw [if_pos ((o3_le (by omega) (by omega)).mpr h3)]
            rw [if_neg (by unfold cbb; rw [decide_eq_true_eq]; omega)] at hs
            replace hs := hs.trans (Nat.add_zero _)
            rw [← hs]
            exact ih (k + 1) nn (by omega) (by omega)
          · rw [if_neg (fun z => h3 ((o3_le (by omega) (by omega)).mp z))]
            rw [if_pos (by unfold cbb; rw [decide_eq_true_eq]; omega)] at hs
            rw [← hs]
            exact ih (k + 1) nn (by omega) (by omega)
        · rw [if_neg (fun z => h' ((o3_inj (by omega) (by omega)).mp z))]
          rw [if_neg (by unfold cbb; rw [decide_eq_true_eq]; omega)] at hs
          replace hs := hs.trans (Nat.add_zero _)
          rw [← hs]
          exact ih (k + 1) nn (by omega) (by omega)
  have ouC : ∀ dd k nn, k + dd = s.2.2.2.1 → dd < nn → lp_X10_order_24 a1 S (fun _ => some (-1)) nn (o3 k) = some (odf s.2.1 s.2.2.2 a1 dd k) := by
    intro dd
    induction dd with
    | zero =>
      intro k nn hk hnn
      obtain ⟨nn, rfl⟩ : ∃ z, nn = z + 1 := ⟨nn - 1, by omega⟩
      rw [lp_X10_order_24.eq_2, hc4, if_pos ((o3_le (by omega) (by omega)).mpr (by omega))]
      rfl
    | succ dd ih =>
      intro k nn hk hnn
      obtain ⟨nn, rfl⟩ : ∃ z, nn = z + 1 := ⟨nn - 1, by omega⟩
      have hcb : f_X2_comingBefore 17 (o3 k) S = some (o3 (cfn (cbb s.2.1 s.2.2.2 k) s.2.2.2.1)) := inC k (by omega) s.2.2.2.1 0 FU (by omega) (FU_lt (by omega))
      have ho : odf s.2.1 s.2.2.2 a1 (dd + 1) k = if o3 (cfn (cbb s.2.1 s.2.2.2 k) s.2.2.2.1) = a1 then o3 k else odf s.2.1 s.2.2.2 a1 dd (k + 1) := rfl
      rw [lp_X10_order_24.eq_2, hc4, if_neg (fun q => by have := (o3_le (by omega) (by omega)).mp q; omega), hcb, bd_some, ho, o3_s]
      by_cases h : o3 (cfn (cbb s.2.1 s.2.2.2 k) s.2.2.2.1) = a1
      · rw [if_pos h, if_pos h]
      · rw [if_neg h, if_neg h]
        exact ih (k + 1) nn (by omega) (by omega)
  have ouM : ∀ dd k nn, k + dd = s.2.2.2.1 → dd < nn → lp_X11_order_22 a1 S (fun _ => some (-1)) nn (o3 k) = some (odf s.2.1 s.2.2.2 a1 dd k) := by
    intro dd
    induction dd with
    | zero =>
      intro k nn hk hnn
      obtain ⟨nn, rfl⟩ : ∃ z, nn = z + 1 := ⟨nn - 1, by omega⟩
      rw [lp_X11_order_22.eq_2, hg4, bd_some, if_pos ((o3_le (by omega) (by omega)).mpr (by omega))]
      rfl
    | succ dd ih =>
      intro k nn hk hnn
      obtain ⟨nn, rfl⟩ : ∃ z, nn = z + 1 := ⟨nn - 1, by omega⟩
      have ho : odf s.2.1 s.2.2.2 a1 (dd + 1) k = if o3 (cfn (cbb s.2.1 s.2.2.2 k) s.2.2.2.1) = a1 then o3 k else odf s.2.1 s.2.2.2 a1 dd (k + 1) := rfl
      rw [lp_X11_order_22.eq_2, hg4, bd_some, if_neg (fun q => by have := (o3_le (by omega) (by omega)).mp q; omega)]
      refine (inM k (by omega) (fun u31 => if u31 = a1 then some (o3 k) else lp_X11_order_22 a1 S (fun _ => some (-1)) nn (o3 k + 1)) s.2.2.2.1 0 FU (by omega) (FU_lt (by omega))).trans ?_
      rw [ho, o3_s]
      by_cases h : o3 (cfn (cbb s.2.1 s.2.2.2 k) s.2.2.2.1) = a1
      · rw [if_pos h, if_pos h]
      · rw [if_neg h, if_neg h]
        exact ih (k + 1) nn (by omega) (by omega)
  unfold f_X10_order f_X11_order
  rw [hc4, from_o (by omega), hg4, bd_some, bd_some, show (0 : Int64) = Int32.toInt64 0 from rfl, op_in, from_o (by omega), bd_some]
  by_cases h1 : 0 ≤ a1.toInt ∧ a1.toInt < s.2.2.2.1
  · rw [if_pos h1, if_neg (show ¬ (1 : Int32) = 0 by decide), if_neg (show ¬ (1 : Int32) = 0 by decide)]
    exact ⟨_, ouC s.2.2.2.1 0 FU (by omega) (FU_lt (by omega)), ouM s.2.2.2.1 0 FU (by omega) (FU_lt (by omega)), hR0⟩
  · rw [if_neg h1, if_pos rfl, if_pos rfl]
    exact ⟨_, rfl, rfl, hR0⟩
/-! letter() -/
theorem rSc_po {s : Sn} {S T : fS} {P : Po} (h : rSc s S) (hok : okP s.1.length (dst s.2.1) P) (hc : poC T 17 (dst s.2.1) P) (hm : poM (T.1 157) P) (h1 : ∀ a k, 3 < a → a ≤ 16 → T.1 a k = S.1 a k) (h2 : ∀ a k, T.2 a k = S.2 a k) (h3 : 0 ≤ (T.1 3 3).toInt) (h4 : ∀ k, ¬ (k = 4 ∨ 122 ≤ k) → T.1 157 k = S.1 157 k) : rSc (s.1, s.2.1, s.2.2.1, P) T := by
  obtain ⟨⟨n1, n2, n3, n4, n5, n6⟩, ⟨b1, b2, b3, b4, b5⟩, ⟨m1, m2, m3, m4⟩, d⟩ := h
  have h8 := n5.1
  refine ⟨⟨n1, n2, n3, n4, n5, hok⟩, ⟨?_, ?_, ?_, hc, h3⟩, ⟨?_, ?_, hm, ?_⟩, rHm_eq d (fun k => h2 _ k)⟩
  · exact twC_eq b1 (fun a k _ _ => h1 a k (by omega) (by omega)) (fun a k _ _ => h2 a k)
  · exact rWm_eq b2 (fun k => h1 _ k (by omega) (by omega))
  · exact cwC_eq b3 (fun a k _ _ => h1 a k (by omega) (by omega)) (fun k => h2 _ k)
  · exact twM_eq n1 n2 m1 (fun k hk => h4 k (by omega))
  · obtain ⟨p1, p2, p3⟩ := m2
    refine ⟨(h4 2 (by omega)).trans p1, (h4 3 (by omega)).trans p2, fun k hk => ?_⟩
    obtain ⟨q1, q2, q3, q4, q5⟩ := p3 k hk
    have hk' : k < s.2.2.1.1 := hk
    exact ⟨(h4 _ (by omega)).trans q1, (h4 _ (by omega)).trans q2, (h4 _ (by omega)).trans q3, (h4 _ (by omega)).trans q4, (h2 _ _).trans q5⟩
  · show 0 ≤ (T.1 157 5).toInt
    rw [h4 5 (by omega)]; exact m4
theorem t_28 (a1 a2 a3 : Int32) (S : fS) (hR : Rel S) : ∃ r S1 S2, f_X10_letter a1 a2 a3 S = some (r, S1) ∧ f_X11_letter a1 a2 a3 S1 = some (r, S2) ∧ Rel S2 := by
  have hR0 := hR
  obtain ⟨n, s, L, M, hT, hS, hL, hM⟩ := hR
  have hS0 := hS
  obtain ⟨⟨n1, n2, n3, n4, n5, n6⟩, ⟨b1, b2, b3, b4, b5⟩, ⟨m1, m2, m3, m4⟩, d⟩ := hS
  have h12 := n6.1
  have hc4 : S.1 17 4 = o3 s.2.2.2.1 := b4.1
  have fin : ∀ (T : fS) (P : Po), (∀ a k, ¬ (17 ≤ a ∧ a ≤ 21) → ¬ (a = 157 ∧ (k = 4 ∨ 122 ≤ k)) → T.1 a k = S.1 a k) → (∀ a k, T.2 a k = S.2 a k) → okP s.1.length (dst s.2.1) P → poC T 17 (dst s.2.1) P → poM (T.1 157) P → Rel T := fun T P f1 f2 p1 p2 p3 => by
    refine ⟨n, (s.1, s.2.1, s.2.2.1, P), L, M, ?_, rSc_po hS0 p1 p2 p3 (fun a k _ _ => f1 a k (by omega) (by omega)) f2 (by rw [f1 3 3 (by omega) (by omega)]; exact b5) (fun k hk => f1 157 k (by omega) (by omega)), ?_, ?_⟩
    · exact rTp_eq hT (f1 _ _ (by omega) (by omega)) (f1 _ _ (by omega) (by omega)) (fun k => f1 _ _ (by omega) (by omega)) (fun k => f1 _ _ (by omega) (by omega))
    · exact rRu_eq hL (f1 _ _ (by omega) (by omega)) (f1 _ _ (by omega) (by omega)) (fun a k _ _ _ => f1 a k (by omega) (by omega)) (fun a k _ => f1 a k (by omega) (by omega))
    · exact rIm_eq hM (fun a k _ _ => f1 a k (by omega) (by omega)) (fun a k _ _ => f2 a k) (fun k => f1 _ _ (by omega) (by omega)) (fun k => f2 _ k) (fun k => f1 _ _ (by omega) (by omega))
  unfold f_X10_letter
  by_cases h0 : a1 = -1
  · rw [if_pos h0, bd_some]
    refine ⟨0, pI S 17 4 0, pI (pI S 17 4 0) 157 4 0, rfl, ?_, fin _ (0, fun _ => 0, fun _ => 0, fun _ => 0) (fun a k x y => by rw [pI_ne (by omega), pI_ne (by omega)]) (fun _ _ => rfl) ⟨Nat.zero_le _, fun k hk => absurd hk (Nat.not_lt_zero _)⟩ ⟨by rw [pI_ne (by omega), pI_eq]; rfl, fun k hk => absurd hk (Nat.not_lt_zero _)⟩ ⟨by rw [pI_eq]; rfl, fun k hk => absurd hk (Nat.not_lt_zero _)⟩⟩
    unfold f_X11_letter
    rw [if_pos h0, show (4 : Int32) = o3 4 from rfl, sI_o (by omega) (by omega), bd_some]
  · rw [if_neg h0, ci_floor b1.1 (by omega), ci_floor b1.1 (by omega), hour_c, hc4]
    simp only [bd_some]
    /- the reference, in one form -/
    have hm : ∀ T : fS, T.1 157 4 = o3 s.2.2.2.1 → T.1 157 0 = o3 s.1.length → f_X11_letter a1 a2 a3 T = if s.2.2.2.1 = 12 then some (-2, T) else if 0 ≤ a1.toInt ∧ a1.toInt < s.1.length then (if 0 ≤ a2.toInt ∧ a2.toInt < s.1.length then (if ((0 : Nat) : Int) ≤ a3.toInt ∧ a3.toInt ≤ ((9999 : Nat) : Int) then ((f_X11_between a1 a2 T).bind fun q18 => if q18 < (99999 : Int64) then ((gI T 157 158 (4 : Int32)).bind fun a22 => (sI T 157 158 ((122 : Int32) + ((3 : Int32) * a22)) a1).bind fun S25 => (sI S25 157 158 (((122 : Int32) + ((3 : Int32) * a22)) + (1 : Int32)) a2).bind fun S28 => (sI S28 157 158 (((122 : Int32) + ((3 : Int32) * a22)) + (2 : Int32)) a3).bind fun S31 => (gI S31 157 158 (4 : Int32)).bind fun a34 => (sI S31 157 158 (4 : Int32) (a34 + (1 : Int32))).bind fun S37 => (gI S37 157 158 (4 : Int32)).bind fun a40 => some (a40, S37)) else (some ((-2 : Int32), T))) else some (-2, T)) else some (-2, T)) else some (-2, T) := fun T h4 h5 => by
      have hg4 : gI T 157 158 4 = some (o3 s.2.2.2.1) := (gI_o (k := 4) (by omega) (by omega)).trans (congrArg some h4)
      unfold f_X11_letter
      rw [if_neg h0, mi_floor h5 (by omega), mi_floor h5 (by omega), hour_m, hg4]
      simp only [bd_some]
      by_cases z0 : s.2.2.2.1 = 12
      · rw [if_pos z0, if_pos (show o3 s.2.2.2.1 = (12 : Int32) by rw [z0]; rfl)]
      rw [if_neg z0, if_neg (show ¬ o3 s.2.2.2.1 = (12 : Int32) from fun q => z0 ((o3_inj (b := 12) (by omega) (by omega)).mp q))]
      by_cases z1 : 0 ≤ a1.toInt ∧ a1.toInt < s.1.length
      · rw [if_pos z1, if_pos z1, if_neg (show ¬ (1 : Int32) = 0 by decide)]
        by_cases z2 : 0 ≤ a2.toInt ∧ a2.toInt < s.1.length
        · rw [if_pos z2, if_pos z2, if_neg (show ¬ (1 : Int32) = 0 by decide)]
          by_cases z3 : ((0 : Nat) : Int) ≤ a3.toInt ∧ a3.toInt ≤ ((9999 : Nat) : Int)
          · rw [if_pos z3, if_pos z3, if_neg (show ¬ (1 : Int32) = 0 by decide)]
          · rw [if_neg z3, if_neg z3, if_pos rfl]
        · rw [if_neg z2, if_neg z2, if_pos rfl]
      · rw [if_neg z1, if_neg z1, if_pos rfl]
    have no : ∀ (X : Option (Int32 × fS)), X = some (-2, S) → f_X11_letter a1 a2 a3 S = some (-2, S) → ∃ r S1 S2, X = some (r, S1) ∧ f_X11_letter a1 a2 a3 S1 = some (r, S2) ∧ Rel S2 := fun X hX hY => ⟨-2, S, S, hX, hY, hR0⟩
    by_cases h1 : 0 ≤ a1.toInt ∧ a1.toInt < s.1.length
    · rw [if_pos h1, if_neg (show ¬ (1 : Int32) = 0 by decide)]
      by_cases h2 : 0 ≤ a2.toInt ∧ a2.toInt < s.1.length
      · rw [if_pos h2, if_neg (show ¬ (1 : Int32) = 0 by decide)]
        by_cases h3 : ((0 : Nat) : Int) ≤ a3.toInt ∧ a3.toInt ≤ ((9999 : Nat) : Int)
        · rw [if_pos h3, if_neg (show ¬ (1 : Int32) = 0 by decide)]
          by_cases h4 : s.2.2.2.1 = 12
          · rw [if_neg (show ¬ o3 s.2.2.2.1 < (12 : Int32) from fun q => by have := (o3_lt (b := 12) (by omega) (by omega)).mp q; omega)]
            exact no _ rfl (by rw [hm S m3.1 m1.1, if_pos h4])
          · rw [if_pos (show o3 s.2.2.2.1 < (12 : Int32) from (o3_lt (b := 12) (by omega) (by omega)).mpr (by omega))]
            obtain ⟨f, e1, e2⟩ := o3_ex h1.1
            obtain ⟨g, e3, e4⟩ := o3_ex h2.1
            obtain ⟨v, e5, e6⟩ := o3_ex (x := a3) (by omega)
            have hf : f < s.1.length := by omega
            have hg : g < s.1.length := by omega
            rw [e1, e3, ch_btw b2 n1 hf hg, bd_some]
            rcases cwv_cs (E := s.2.1) (a := f) (b := g) with ⟨hu, eu⟩ | ⟨hu, eu⟩
            · rw [eu, if_neg (show ¬ (0 : Int32) ≤ -1 by decide), ← e1, ← e3]
              exact no _ rfl (by rw [hm S m3.1 m1.1, if_neg h4, if_pos h1, if_pos h2, if_pos h3, e1, e3, mh_btw d n1 hf hg, bd_some, hu, if_neg (show ¬ o6 99999 < (99999 : Int64) by decide)])
            · rw [eu, if_pos (o3_0le (by omega))]
              have hsend : f_X2_send 17 (o3 f) (o3 g) a3 (a3 + o3 (dst s.2.1 f g)) S = some (pI (pI (pI (pI (pI S 18 s.2.2.2.1 (o3 f)) 19 s.2.2.2.1 (o3 g)) 20 s.2.2.2.1 (o3 v)) 21 s.2.2.2.1 (o3 (v + dst s.2.1 f g))) 17 4 (o3 (s.2.2.2.1 + 1))) := by
                unfold f_X2_send
                rw [hc4, if_neg (show ¬ (12 : Int32) ≤ o3 s.2.2.2.1 from fun q => by have := (o3_le (a := 12) (by omega) (by omega)).mp q; omega), e5, o3_add, sI_o (by omega) (by omega), bd_some, pI_ne (by omega), hc4, sI_o (by omega) (by omega), bd_some, pI_ne (by omega), pI_ne (by omega), hc4, sI_o (by omega) (by omega), bd_some, pI_ne (by omega), pI_ne (by omega), pI_ne (by omega), hc4, sI_o (by omega) (by omega), bd_some, pI_ne (by omega), pI_ne (by omega), pI_ne (by omega), pI_ne (by omega), hc4, bd_some, o3_s]
              rw [hsend, bd_some]
              generalize hS1 : pI (pI (pI (pI (pI S 18 s.2.2.2.1 (o3 f)) 19 s.2.2.2.1 (o3 g)) 20 s.2.2.2.1 (o3 v)) 21 s.2.2.2.1 (o3 (v + dst s.2.1 f g))) 17 4 (o3 (s.2.2.2.1 + 1)) = S1
              have f1 : ∀ a k, ¬ (17 ≤ a ∧ a ≤ 21) → S1.1 a k = S.1 a k := fun a k x => by rw [← hS1, pI_ne (by omega), pI_ne (by omega), pI_ne (by omega), pI_ne (by omega), pI_ne (by omega)]
              have f2 : ∀ a k, S1.2 a k = S.2 a k := fun a k => by rw [← hS1]; rfl
              have g4 : S1.1 157 4 = o3 s.2.2.2.1 := (f1 _ _ (by omega)).trans m3.1
              have gg4 : gI S1 157 158 4 = some (o3 s.2.2.2.1) := (gI_o (k := 4) (by omega) (by omega)).trans (congrArg some g4)
              have e122 : (122 : Int32) + ((3 : Int32) * o3 s.2.2.2.1) = o3 (122 + 3 * s.2.2.2.1) := by rw [show (122 : Int32) = o3 122 from rfl, show (3 : Int32) = o3 3 from rfl, o3_mul, o3_add]
              have e123 : o3 (122 + 3 * s.2.2.2.1) + (1 : Int32) = o3 (122 + 3 * s.2.2.2.1 + 1) := o3_s
              have e124 : o3 (122 + 3 * s.2.2.2.1) + (2 : Int32) = o3 (122 + 3 * s.2.2.2.1 + 2) := by rw [show (2 : Int32) = o3 2 from rfl, o3_add]
              refine ⟨_, S1, pI (pI (pI (pI S1 157 (122 + 3 * s.2.2.2.1) (o3 f)) 157 (122 + 3 * s.2.2.2.1 + 1) (o3 g)) 157 (122 + 3 * s.2.2.2.1 + 2) (o3 v)) 157 4 (o3 (s.2.2.2.1 + 1)), rfl, ?_, fin _ (s.2.2.2.1 + 1, udN s.2.2.2.2.1 s.2.2.2.1 f, udN s.2.2.2.2.2.1 s.2.2.2.1 g, udN s.2.2.2.2.2.2 s.2.2.2.1 v) (fun a k x y => by rw [pI_ne (by omega), pI_ne (by omega), pI_ne (by omega), pI_ne (by omega), f1 a k x]) (fun a k => f2 a k) ⟨?_, fun k hk => ?_⟩ ⟨?_, fun k hk => ?_⟩ ⟨?_, fun k hk => ?_⟩⟩
              · rw [← e1, ← e3, hm S1 g4 ((f1 _ _ (by omega)).trans m1.1), if_neg h4, if_pos h1, if_pos h2, if_pos h3, e1, e3, mh_btw (S := S1) (rHm_eq d (fun k => f2 _ k)) n1 hf hg, bd_some, if_pos (show o6 (dst s.2.1 f g) < (99999 : Int64) from (o6_lt (b := 99999) (by omega) (by omega)).mpr hu), gg4, bd_some, e122, e123, e124, e5, sI_o (by omega) (by omega), bd_some, sI_o (by omega) (by omega), bd_some, sI_o (by omega) (by omega), bd_some, show (4 : Int32) = o3 4 from rfl, gI_o (by omega) (by omega), bd_some, pI_ne (by omega), pI_ne (by omega), pI_ne (by omega), g4, o3_s, sI_o (by omega) (by omega), bd_some, gI_o (by omega) (by omega), bd_some, pI_eq, ← hS1, pI_eq]
              · show s.2.2.2.1 + 1 ≤ 12; omega
              · have hk : k < s.2.2.2.1 + 1 := hk
                show udN _ _ _ k < _ ∧ udN _ _ _ k < _ ∧ udN _ _ _ k ≤ _ ∧ dst s.2.1 (udN _ _ _ k) (udN _ _ _ k) < _
                by_cases e : k = s.2.2.2.1
                · subst e; rw [udN_eq, udN_eq, udN_eq]; exact ⟨hf, hg, by omega, hu⟩
                · rw [udN_ne e, udN_ne e, udN_ne e]; exact n6.2 k (by omega)
              · rw [pI_ne (by omega), pI_ne (by omega), pI_ne (by omega), pI_ne (by omega), ← hS1, pI_eq]
              · have hk : k < s.2.2.2.1 + 1 := hk
                show _ = o3 (udN _ _ _ k) ∧ _ = o3 (udN _ _ _ k) ∧ _ = o3 (udN _ _ _ k) ∧ _ = o3 (udN _ _ _ k + dst s.2.1 (udN _ _ _ k) (udN _ _ _ k))
                rw [pI_ne (by omega), pI_ne (by omega), pI_ne (by omega), pI_ne (by omega), pI_ne (by omega), pI_ne (by omega), pI_ne (by omega), pI_ne (by omega), pI_ne (by omega), pI_ne (by omega), pI_ne (by omega), pI_ne (by omega), pI_ne (by omega), pI_ne (by omega), pI_ne (by omega), pI_ne (by omega), ← hS1]
                by_cases e : k = s.2.2.2.1
                · subst e
                  rw [udN_eq, udN_eq, udN_eq]
                  refine ⟨?_, ?_, ?_, ?_⟩
                  · rw [pI_ne (by omega), pI_ne (by omega), pI_ne (by omega), pI_ne (by omega), pI_eq]
                  · rw [pI_ne (by omega), pI_ne (by omega), pI_ne (by omega), pI_eq]
                  · rw [pI_ne (by omega), pI_ne (by omega), pI_eq]
                  · rw [pI_ne (by omega), pI_eq]
                · rw [udN_ne e, udN_ne e, udN_ne e]
                  obtain ⟨c1, c2, c3, c4⟩ := b4.2 k (by omega)
                  refine ⟨?_, ?_, ?_, ?_⟩
                  · rw [pI_ne (by omega), pI_ne (by omega), pI_ne (by omega), pI_ne (by omega), pI_ne (by omega)]; exact c1
                  · rw [pI_ne (by omega), pI_ne (by omega), pI_ne (by omega), pI_ne (by omega), pI_ne (by omega)]; exact c2
                  · rw [pI_ne (by omega), pI_ne (by omega), pI_ne (by omega), pI_ne (by omega), pI_ne (by omega)]; exact c3
                  · rw [pI_ne (by omega), pI_ne (by omega), pI_ne (by omega), pI_ne (by omega), pI_ne (by omega)]; exact c4
              · rw [pI_eq]
              · have hk : k < s.2.2.2.1 + 1 := hk
                show _ = o3 (udN _ _ _ k) ∧ _ = o3 (udN _ _ _ k) ∧ _ = o3 (udN _ _ _ k)
                by_cases e : k = s.2.2.2.1
                · subst e
                  rw [udN_eq, udN_eq, udN_eq]
                  refine ⟨?_, ?_, ?_⟩
                  · rw [pI_ne (by omega), pI_ne (by omega), pI_ne (by omega), pI_eq]
                  · rw [pI_ne (by omega), pI_ne (by omega), pI_eq]
                  · rw [pI_ne (by omega), pI_eq]
                · rw [udN_ne e, udN_ne e, udN_ne e]
                  obtain ⟨c1, c2, c3⟩ := m3.2 k (by omega)
                  refine ⟨?_, ?_, ?_⟩
                  · rw [pI_ne (by omega), pI_ne (by omega), pI_ne (by omega), pI_ne (by omega), f1 _ _ (by omega)]; exact c1
                  · rw [pI_ne (by omega), pI_ne (by omega), pI_ne (by omega), pI_ne (by omega), f1 _ _ (by omega)]; exact c2
                  · rw [pI_ne (by omega), pI_ne (by omega), pI_ne (by omega), pI_ne (by omega), f1 _ _ (by omega)]; exact c3
        · rw [if_neg h3, if_pos rfl]
          refine no _ rfl ?_
          rw [hm S m3.1 m1.1]
          split <;> rfl
      · rw [if_neg h2, if_pos rfl]
        refine no _ rfl ?_
        rw [hm S m3.1 m1.1]
        split <;> rfl
    · rw [if_neg h1, if_pos rfl]
      refine no _ rfl ?_
      rw [hm S m3.1 m1.1]
      split <;> rfl
end
