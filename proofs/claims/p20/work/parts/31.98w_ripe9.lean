section
section ZL
variable {F : List (Nat × Nat)} {E : List St5} {f0 n : Nat}
def okj (ky : Nat → Nat × Nat × Nat) (n g lo hi j : Nat) : Prop := (ky j).1 = n ∧ (ky j).2.1 = g ∧ lo ≤ (ky j).2.2 ∧ (ky j).2.2 ≤ hi
def bsm (ky : Nat → Nat × Nat × Nat) (cr : Nat → Nat) (n g lo hi k : Nat) (r : Int32) : Prop := (r = -2 ∧ ∀ j, j < k → ¬ okj ky n g lo hi j) ∨ ∃ j, j < k ∧ okj ky n g lo hi j ∧ r = o3 (cr j) ∧ ∀ j', j' < k → okj ky n g lo hi j' → cr j ≤ cr j'
theorem bsm_n {ky : Nat → Nat × Nat × Nat} {cr : Nat → Nat} {g lo hi k : Nat} {r : Int32} (h : bsm ky cr n g lo hi k r) (hn : ¬ okj ky n g lo hi k) : bsm ky cr n g lo hi (k + 1) r := by
  rcases h with ⟨h1, h2⟩ | ⟨j, h1, h2, h3, h4⟩
  · refine Or.inl ⟨h1, fun j b => ?_⟩
    by_cases z : j = k
    · rw [z]; exact hn
    · exact h2 j (by omega)
  · refine Or.inr ⟨j, by omega, h2, h3, fun j' b c => ?_⟩
    by_cases z : j' = k
    · rw [z] at c; exact absurd c hn
    · exact h4 j' (by omega) c
theorem bsm_t {ky : Nat → Nat × Nat × Nat} {cr : Nat → Nat} {g lo hi k : Nat} (hk : okj ky n g lo hi k) (h6 : ∀ j', j' < k → okj ky n g lo hi j' → cr k ≤ cr j') : bsm ky cr n g lo hi (k + 1) (o3 (cr k)) := by
  refine Or.inr ⟨k, by omega, hk, rfl, fun j' b c => ?_⟩
  by_cases z : j' = k
  · rw [z]; exact Nat.le_refl _
  · exact h6 j' (by omega) c
theorem z_163 {g v lo hi c : Nat} {a5 : Int32} (hF : ∀ q ∈ F, okF q) (hE : ∀ q ∈ E, okS F.length q) (hm : F.length ≤ 10) (h0 : f0 < F.length) (hn : n ≤ 16) (hg : g < F.length) {T : fS} {ky : Nat → Nat × Nat × Nat} {cr : Nat → Nat} (hT : RI F E f0 n T ky cr c) (h1 : Int32.toInt64 (o3 v) * (232792560 : Int64) = o6 lo) (h2 : Int32.toInt64 a5 * (232792560 : Int64) = o6 hi) (hlo : lo < 9223372036854775808) (hhi : hi < 9223372036854775808) : ∀ d k nn (p6 : Int32), k + d = c → d < nn → bsm ky cr n g lo hi k p6 → ∃ r, lp_X11_ripe_163 (o3 g) (o3 n) (o3 v) a5 (fun u120 S121 => some (u120, S121)) nn p6 (o3 k) T = some (r, T) ∧ bsm ky cr n g lo hi c r := by
  have hc := hT.1.1
  have h36 := hT.1.2.1
  intro d
  induction d with
  | zero =>
    intro k nn p6 hk hnn hb
    obtain ⟨nn, rfl⟩ : ∃ z, nn = z + 1 := ⟨nn - 1, by omega⟩
    rw [lp_X11_ripe_163.eq_2, h36, if_pos ((o3_le (by omega) (by omega)).mpr (by omega))]
    have hke : k = c := by omega
    rw [hke] at hb
    exact ⟨_, rfl, hb⟩
  | succ d ih =>
    intro k nn p6 hk hnn hb
    obtain ⟨nn, rfl⟩ : ∃ z, nn = z + 1 := ⟨nn - 1, by omega⟩
    have hkc : k < c := by omega
    have go : ∀ p6, bsm ky cr n g lo hi (k + 1) p6 → ∃ r, lp_X11_ripe_163 (o3 g) (o3 n) (o3 v) a5 (fun u120 S121 => some (u120, S121)) nn p6 (o3 (k + 1)) T = some (r, T) ∧ bsm ky cr n g lo hi c r := fun p6 hb => ih (k + 1) nn p6 (by omega) (by omega) hb
    obtain ⟨w1, w2, w3, w4⟩ := hT.1.2.2 k hkc
    obtain ⟨s1, s2⟩ := hT.2.2 k hkc
    obtain ⟨b1, b2, b3⟩ := Rch_b hF hE h0 s2
    have g1 : gI T 164 4001 (o3 k) = some (o3 (ky k).1) := (gI_o (by omega) (by omega)).trans (congrArg some w1)
    have g2 : gI T 165 4001 (o3 k) = some (o3 (ky k).2.1) := (gI_o (by omega) (by omega)).trans (congrArg some w2)
    have g3 : gL T 166 4001 (o3 k) = some (o6 (ky k).2.2) := (gL_o (by omega) (by omega)).trans (congrArg some w3)
    have g4 : gI T 167 4001 (o3 k) = some (o3 (cr k)) := (gI_o (by omega) (by omega)).trans (congrArg some w4)
    have n10 : ¬ (1 : Int32) = 0 := by decide
    rw [lp_X11_ripe_163.eq_2, h36, if_neg (fun q => by have := (o3_le (by omega) (by omega)).mp q; omega), g1, bd_some, o3_s, g2, bd_some, g3, bd_some, h1, h2]
    by_cases z1 : (ky k).1 = n
    · rw [if_pos (show o3 (ky k).1 = o3 n by rw [z1])]
      by_cases z2 : (ky k).2.1 = g
      · rw [if_pos (show o3 (ky k).2.1 = o3 g by rw [z2])]
        by_cases z3 : (ky k).2.2 < lo
        · rw [if_pos ((o6_lt (by omega) (by omega)).mpr z3), if_pos rfl]
          exact go _ (bsm_n hb (fun q => by have := q.2.2.1; omega))
        · rw [if_neg (fun q => z3 ((o6_lt (by omega) (by omega)).mp q)), bd_some]
          by_cases z4 : hi < (ky k).2.2
          · rw [if_pos ((o6_lt (by omega) (by omega)).mpr z4), if_pos rfl]
            exact go _ (bsm_n hb (fun q => by have := q.2.2.2; omega))
          · have hok : okj ky n g lo hi k := ⟨z1, z2, by omega, by omega⟩
            rw [if_neg (fun q => z4 ((o6_lt (by omega) (by omega)).mp q)), if_neg n10, g4, bd_some, bd_some]
            rcases hb with ⟨v1, v2⟩ | ⟨j, v1, v2, v3, v4⟩
            · rw [v1, if_pos (show (-2 : Int32) < 0 by decide)]
              exact go _ (bsm_t hok (fun j' x y => absurd y (v2 j' x)))
            · obtain ⟨s3, s4⟩ := hT.2.2 j (by omega)
              obtain ⟨_, _, d3⟩ := Rch_b hF hE h0 s4
              rw [v3, if_neg (o3_nn (by omega))]
              by_cases z5 : cr j ≤ cr k
              · rw [if_pos ((o3_le (by omega) (by omega)).mpr z5)]
                refine go _ (Or.inr ⟨j, by omega, v2, rfl, fun j' x y => ?_⟩)
                by_cases q : j' = k
                · rw [q]; exact z5
                · exact v4 j' (by omega) y
              · rw [if_neg (fun q => z5 ((o3_le (by omega) (by omega)).mp q))]
                exact go _ (bsm_t hok (fun j' x y => by have := v4 j' x y; omega))
      · rw [if_neg (show ¬ o3 (ky k).2.1 = o3 g from fun q => z2 ((o3_inj (by omega) (by omega)).mp q)), if_pos rfl]
        exact go _ (bsm_n hb (fun q => z2 q.2.1))
    · rw [if_neg (show ¬ o3 (ky k).1 = o3 n from fun q => z1 ((o3_inj (by omega) (by omega)).mp q)), if_pos rfl]
      exact go _ (bsm_n hb (fun q => z1 q.1))
theorem bsm_B {g lo hi c : Nat} {r : Int32} {T : fS} {ky : Nat → Nat × Nat × Nat} {cr : Nat → Nat} (hT : RI F E f0 n T ky cr c) (hC : ∀ t f a b, Rch F E f0 t f a b → t ≤ n → ∃ k, k < c ∧ ky k = (t, f, a) ∧ cr k ≤ b) (h : bsm ky cr n g lo hi c r) : Best F E f0 n g lo hi r := by
  rcases h with ⟨v1, v2⟩ | ⟨j, v1, v2, v3, v4⟩
  · refine Or.inl ⟨v1, fun a b hR hab => ?_⟩
    obtain ⟨k, k1, k2, _⟩ := hC n g a b hR (Nat.le_refl _)
    refine v2 k k1 ?_
    unfold okj
    rw [k2]
    exact ⟨rfl, rfl, hab.1, hab.2⟩
  · obtain ⟨e1, e2, e3, e4⟩ := v2
    have hR := (hT.2.2 j v1).2
    rw [e1, e2] at hR
    refine Or.inr ⟨(ky j).2.2, cr j, v3, hR, e3, e4, fun a b hR' x1 x2 => ?_⟩
    obtain ⟨k, k1, k2, k3⟩ := hC n g a b hR' (Nat.le_refl _)
    have := v4 k k1 (by
      unfold okj
      rw [k2]
      exact ⟨rfl, rfl, x1, x2⟩)
    omega
theorem RI_many {T : fS} {ky : Nat → Nat × Nat × Nat} {cr : Nat → Nat} (hT : RI F E f0 n T ky cr 4001) : Many F E f0 n := ⟨ky, fun j hj => ⟨cr j, (hT.2.2 j (by omega)).2, (hT.2.2 j (by omega)).1⟩, fun i j h1 h2 => hT.2.1 i j h1 (by omega)⟩
theorem RI_few {ky : Nat → Nat × Nat × Nat} {cr : Nat → Nat} {c : Nat} (h4 : c ≤ 4000) (hC : ∀ t f a b, Rch F E f0 t f a b → t ≤ n → ∃ k, k < c ∧ ky k = (t, f, a) ∧ cr k ≤ b) : Few F E f0 n := ⟨ky, fun t f a b hR ht => by
  obtain ⟨k, k1, k2, _⟩ := hC t f a b hR ht
  exact ⟨k, by omega, k2⟩⟩
end ZL
/-- ripe: both answer alike -/
theorem t_18e (a1 a2 a3 a4 a5 : Int32) (S : fS) (hR : Rel S) : ∃ r S1 S2, f_X10_ripe a1 a2 a3 a4 a5 S = some (r, S1) ∧ f_X11_ripe a1 a2 a3 a4 a5 S1 = some (r, S2) ∧ Rel S2 := by
  have hR0 := hR
  obtain ⟨n', s, L, M, hT, hS, hL, hM⟩ := hR
  have hS0 := hS
  obtain ⟨⟨n1, n2, n3, n4, n5, n6⟩, ⟨b1, b2, b3, b4, b5⟩, ⟨m1, m2, m3, m4⟩, d⟩ := hS
  have i3 : f_X10_isFrom a3 0 16 S = some (if ((0 : Nat) : Int) ≤ a3.toInt ∧ a3.toInt ≤ ((16 : Nat) : Int) then 1 else 0) := from_c (a := 0) (b := 16) (by omega) (by omega)
  have i4 : f_X10_isFrom a4 0 999 S = some (if ((0 : Nat) : Int) ≤ a4.toInt ∧ a4.toInt ≤ ((999 : Nat) : Int) then 1 else 0) := from_c (a := 0) (b := 999) (by omega) (by omega)
  have j3 : ∀ T : fS, f_X11_in (Int32.toInt64 a3) 0 16 T = some (if ((0 : Nat) : Int) ≤ a3.toInt ∧ a3.toInt ≤ ((16 : Nat) : Int) then 1 else 0) := fun T => in_c (a := 0) (b := 16) (by omega) (by omega)
  have j4 : ∀ T : fS, f_X11_in (Int32.toInt64 a4) 0 999 T = some (if ((0 : Nat) : Int) ≤ a4.toInt ∧ a4.toInt ≤ ((999 : Nat) : Int) then 1 else 0) := fun T => in_c (a := 0) (b := 999) (by omega) (by omega)
  have no : f_X10_ripe a1 a2 a3 a4 a5 S = some (-1, S) → f_X11_ripe a1 a2 a3 a4 a5 S = some (-1, S) → ∃ r S1 S2, f_X10_ripe a1 a2 a3 a4 a5 S = some (r, S1) ∧ f_X11_ripe a1 a2 a3 a4 a5 S1 = some (r, S2) ∧ Rel S2 := fun h g => ⟨-1, S, S, h, g, hR0⟩
  have n1z : ¬ (1 : Int32) = 0 := by decide
  by_cases h1 : ¬ (0 ≤ a1.toInt ∧ a1.toInt < s.1.length)
  · refine no ?_ ?_
    · unfold f_X10_ripe; rw [ci_floor b1.1 (by omega), bd_some, if_neg h1, if_pos rfl]
    · unfold f_X11_ripe; rw [mi_floor m1.1 (by omega), bd_some, if_neg h1, if_pos rfl]
  have h1 := Decidable.not_not.mp h1
  by_cases h2 : ¬ (0 ≤ a2.toInt ∧ a2.toInt < s.1.length)
  · refine no ?_ ?_
    · unfold f_X10_ripe; rw [ci_floor b1.1 (by omega), bd_some, if_pos h1, if_neg n1z, ci_floor b1.1 (by omega), bd_some, if_neg h2, if_pos rfl]
    · unfold f_X11_ripe; rw [mi_floor m1.1 (by omega), bd_some, if_pos h1, if_neg n1z, mi_floor m1.1 (by omega), bd_some, if_neg h2, if_pos rfl]
  have h2 := Decidable.not_not.mp h2
  by_cases h3 : ¬ (((0 : Nat) : Int) ≤ a3.toInt ∧ a3.toInt ≤ ((16 : Nat) : Int))
  · refine no ?_ ?_
    · unfold f_X10_ripe; rw [ci_floor b1.1 (by omega), bd_some, if_pos h1, if_neg n1z, ci_floor b1.1 (by omega), bd_some, if_pos h2, if_neg n1z, i3, bd_some, if_neg h3, if_pos rfl]
    · unfold f_X11_ripe; rw [mi_floor m1.1 (by omega), bd_some, if_pos h1, if_neg n1z, mi_floor m1.1 (by omega), bd_some, if_pos h2, if_neg n1z, j3, bd_some, if_neg h3, if_pos rfl]
  have h3 := Decidable.not_not.mp h3
  by_cases h4 : ¬ (((0 : Nat) : Int) ≤ a4.toInt ∧ a4.toInt ≤ ((999 : Nat) : Int))
  · refine no ?_ ?_
    · unfold f_X10_ripe; rw [ci_floor b1.1 (by omega), bd_some, if_pos h1, if_neg n1z, ci_floor b1.1 (by omega), bd_some, if_pos h2, if_neg n1z, i3, bd_some, if_pos h3, if_neg n1z, i4, bd_some, if_neg h4, if_pos rfl]
    · unfold f_X11_ripe; rw [mi_floor m1.1 (by omega), bd_some, if_pos h1, if_neg n1z, mi_floor m1.1 (by omega), bd_some, if_pos h2, if_neg n1z, j3, bd_some, if_pos h3, if_neg n1z, j4, bd_some, if_neg h4, if_pos rfl]
  have h4 := Decidable.not_not.mp h4
  obtain ⟨f, e1, e2⟩ := o3_ex h1.1
  obtain ⟨g, e3, e4⟩ := o3_ex h2.1
  obtain ⟨n, e5, e6⟩ := o3_ex (x := a3) (by omega)
  obtain ⟨v, e7, e8⟩ := o3_ex (x := a4) (by omega)
  have hf : f < s.1.length := by omega
  have hg : g < s.1.length := by omega
  have hn : n ≤ 16 := by omega
  have i5 : f_X10_isFrom a5 (o3 v) 999 S = some (if ((v : Nat) : Int) ≤ a5.toInt ∧ a5.toInt ≤ ((999 : Nat) : Int) then 1 else 0) := from_c (a := v) (b := 999) (by omega) (by omega)
  have j5 : ∀ T : fS, f_X11_in (Int32.toInt64 a5) (Int32.toInt64 (o3 v)) 999 T = some (if ((v : Nat) : Int) ≤ a5.toInt ∧ a5.toInt ≤ ((999 : Nat) : Int) then 1 else 0) := fun T => by
    rw [o6_of3 (by omega)]
    exact in_c (a := v) (b := 999) (by omega) (by omega)
  have cP : f_X10_ripe a1 a2 a3 a4 a5 S = if ((v : Nat) : Int) ≤ a5.toInt ∧ a5.toInt ≤ ((999 : Nat) : Int) then ((f_X3_spread 4 (o3 f) (o3 n) S).bind fun q21 => if q21.1 = (0 : Int32) then (some ((-3 : Int32), q21.2)) else ((f_X3_leastCarried 4 (o3 g) (o3 n) ((Int32.toInt64 (o3 v)) * (232792560 : Int64)) ((Int32.toInt64 a5) * (232792560 : Int64)) q21.2).bind fun q25 => some (q25, q21.2))) else some (-1, S) := by
    unfold f_X10_ripe; rw [ci_floor b1.1 (by omega), bd_some, if_pos h1, if_neg n1z, ci_floor b1.1 (by omega), bd_some, if_pos h2, if_neg n1z, i3, bd_some, if_pos h3, if_neg n1z, i4, bd_some, if_pos h4, if_neg n1z, e7, i5, bd_some, if1z, e1, e3, e5]
  have mP : ∀ T : fS, T.1 157 0 = S.1 157 0 → f_X11_ripe a1 a2 a3 a4 a5 T = if ((v : Nat) : Int) ≤ a5.toInt ∧ a5.toInt ≤ ((999 : Nat) : Int) then ((f_X11_comes (0 : Int32) (o3 f) (0 : Int64) (0 : Int32) (pI T 145 36 (0 : Int32))).bind fun q24 => lp_X11_ripe_74 (o3 g) (o3 n) (o3 v) a5 (fun S40 => if (S40.1 145 36) ≤ (4000 : Int32) then (lp_X11_ripe_163 (o3 g) (o3 n) (o3 v) a5 (fun u120 S121 => some (u120, S121)) FU (-2 : Int32) (0 : Int32) S40) else (some ((-3 : Int32), S40))) FU (0 : Int32) q24) else some (-1, T) := fun T hTT => by
    unfold f_X11_ripe; rw [mi_floor (hTT.trans m1.1) (by omega), bd_some, if_pos h1, if_neg n1z, mi_floor (hTT.trans m1.1) (by omega), bd_some, if_pos h2, if_neg n1z, j3, bd_some, if_pos h3, if_neg n1z, j4, bd_some, if_pos h4, if_neg n1z, e7, j5, bd_some, if1z, e1, e3, e5, bd_some]
  by_cases h5 : ¬ (((v : Nat) : Int) ≤ a5.toInt ∧ a5.toInt ≤ ((999 : Nat) : Int))
  · exact no (by rw [cP, if_neg h5]) (by rw [mP S rfl, if_neg h5])
  have h5 := Decidable.not_not.mp h5
  rw [if_pos h5] at cP
  obtain ⟨b, e9, e10⟩ := o3_ex (x := a5) (by omega)
  have hlo : Int32.toInt64 (o3 v) * (232792560 : Int64) = o6 (v * 232792560) := by
    rw [o6_of3 (by omega), show (232792560 : Int64) = o6 232792560 from rfl, o6_mul]
  have hhi : Int32.toInt64 a5 * (232792560 : Int64) = o6 (b * 232792560) := by
    rw [e9, o6_of3 (by omega), show (232792560 : Int64) = o6 232792560 from rfl, o6_mul]
  obtain ⟨r, S1, u1, u2, u3⟩ := q_spread n3 n4 n1 n2 hf hn b1
  have hc : ∃ q, f_X10_ripe a1 a2 a3 a4 a5 S = some (q, S1) ∧ ((q = -3 ∧ Many s.1 s.2.1 f n) ∨ (Best s.1 s.2.1 f n g (v * 232792560) (b * 232792560) q ∧ Few s.1 s.2.1 f n)) := by
    rw [cP, u1, bd_some, hlo, hhi]
    dsimp only
    rcases u3 with ⟨u3, u4⟩ | ⟨u3, A, lab, bg, c, u4⟩
    · rw [if_pos u3]; exact ⟨_, rfl, Or.inl ⟨rfl, u4⟩⟩
    · rw [if_neg (by rw [u3]; decide)]
      obtain ⟨q, q1, q2⟩ := q_lc (lo := v * 232792560) (hi := b * 232792560) (by omega) (by omega) n1 hg hn (twC_R b1 u2) u4
      rw [q1, bd_some]
      exact ⟨q, rfl, Or.inr ⟨q2, SI_few n3 n4 hf u4⟩⟩
  have k157 : S1.1 157 = S.1 157 := funext fun k => u2.1 157 k (by omega)
  have hm1 : twM (S1.1 157) s.1 s.2.1 := by rw [k157]; exact m1
  have e0 : eRm S1 (pI S1 145 36 0) := ⟨fun a k _ y => pI_ne y, fun _ _ _ => rfl⟩
  have o0 : RI s.1 s.2.1 f n (pI S1 145 36 0) (fun _ => (0, 0, 0)) (fun _ => 0) 0 := ⟨⟨by omega, pI_eq, fun k hk => absurd hk (Nat.not_lt_zero _)⟩, fun i j _ hj => absurd hj (Nat.not_lt_zero _), fun k hk => absurd hk (Nat.not_lt_zero _)⟩
  obtain ⟨T1, ky1, cr1, c1, t1, t2, t3, _, _, t4⟩ := z_comes n3 n4 n1 hf hn (Nat.zero_le n) (Rch_0 (F := s.1) (E := s.2.1) (f0 := f)) o0
  have e01 := e0.tr t3
  have d0 : c1 = 4001 ∨ DN s.1 s.2.1 f n 0 0 ky1 cr1 c1 := by
    rcases t4 with t4 | ⟨k, k1, k2, k3⟩
    · exact Or.inl t4
    · exact Or.inr ⟨fun i _ z => by omega, k, k1, k2, by omega⟩
  obtain ⟨S2, ky2, cr2, c2, w1, w2, w3, w4⟩ := z_74 (p2 := o3 g) (p4 := o3 v) (p5 := a5) n3 n4 n1 n2 hf hn (K := fun S40 => if (S40.1 145 36) ≤ (4000 : Int32) then (lp_X11_ripe_163 (o3 g) (o3 n) (o3 v) a5 (fun u120 S121 => some (u120, S121)) FU (-2 : Int32) (0 : Int32) S40) else (some ((-3 : Int32), S40))) (n + 1) 0 FU T1 ky1 cr1 c1 (by omega) (FU_lt (by omega)) (twM_R hm1 e01) t2 d0
  have e2m := e01.tr w3
  have hmm : ∃ q, f_X11_ripe a1 a2 a3 a4 a5 S1 = some (q, S2) ∧ ((q = -3 ∧ Many s.1 s.2.1 f n) ∨ (Best s.1 s.2.1 f n g (v * 232792560) (b * 232792560) q ∧ Few s.1 s.2.1 f n)) := by
    rw [mP S1 (congrFun k157 0), if_pos h5]
    rw [show f_X11_comes (0 : Int32) (o3 f) (0 : Int64) (0 : Int32) (pI S1 145 36 (0 : Int32)) = some T1 from t1, bd_some, show (0 : Int32) = o3 0 from rfl]
    have w1 : lp_X11_ripe_74 (o3 g) (o3 n) (o3 v) a5 _ FU (o3 0) T1 = _ := w1
    rw [show (fun S40 : fS => if (S40.1 145 36) ≤ (4000 : Int32) then (lp_X11_ripe_163 (o3 g) (o3 n) (o3 v) a5 (fun u120 S121 => some (u120, S121)) FU (-2 : Int32) (o3 0) S40) else (some ((-3 : Int32), S40))) = (fun S40 : fS => if (S40.1 145 36) ≤ (4000 : Int32) then (lp_X11_ripe_163 (o3 g) (o3 n) (o3 v) a5 (fun u120 S121 => some (u120, S121)) FU (-2 : Int32) (0 : Int32) S40) else (some ((-3 : Int32), S40))) from by rw [show (0 : Int32) = o3 0 from rfl], w1]
    have hc2 := w2.1.1
    rw [w2.1.2.1]
    by_cases h6 : c2 ≤ 4000
    · rw [if_pos (show o3 c2 ≤ (4000 : Int32) from (o3_le (b := 4000) (by omega) (by omega)).mpr h6)]
      have w4 : DN s.1 s.2.1 f n (n + 1) 0 ky2 cr2 c2 := by
        rcases w4 with w4 | w4
        · omega
        · exact w4
      have hC := DN_c n4 w2 w4
      obtain ⟨q, q1, q2⟩ := z_163 (v := v) (a5 := a5) n3 n4 n1 hf hn hg w2 hlo hhi (by omega) (by omega) c2 0 FU (-2) (by omega) (FU_lt (by omega)) (Or.inl ⟨rfl, fun j hj => absurd hj (Nat.not_lt_zero _)⟩)
      rw [show (0 : Int32) = o3 0 from rfl]
      exact ⟨q, q1, Or.inr ⟨bsm_B w2 hC q2, RI_few h6 hC⟩⟩
    · rw [if_neg (show ¬ o3 c2 ≤ (4000 : Int32) from fun q => h6 ((o3_le (b := 4000) (by omega) (by omega)).mp q))]
      have e4 : c2 = 4001 := by omega
      rw [e4] at w2
      exact ⟨_, rfl, Or.inl ⟨rfl, RI_many w2⟩⟩
  obtain ⟨q, hq, hq2⟩ := hc
  obtain ⟨q', hq', hq3⟩ := hmm
  have eqq : q' = q := by
    rcases hq2 with ⟨x1, x2⟩ | ⟨x1, x2⟩
    · rcases hq3 with ⟨y1, y2⟩ | ⟨y1, y2⟩
      · rw [x1, y1]
      · exact (many_few x2 y2).elim
    · rcases hq3 with ⟨y1, y2⟩ | ⟨y1, y2⟩
      · exact (many_few y2 x2).elim
      · exact best_u y1 x1
  rw [eqq] at hq'
  have f1 : ∀ a k, ¬ (45 ≤ a ∧ a ≤ 50) → ¬ (164 ≤ a ∧ a ≤ 167) → ¬ (a = 145 ∧ k = 36) → S2.1 a k = S.1 a k := fun a k x y z => (e2m.1 a k y z).trans (u2.1 a k x)
  have f2 : ∀ a k, ¬ (45 ≤ a ∧ a ≤ 50) → a ≠ 166 → S2.2 a k = S.2 a k := fun a k x y => (e2m.2 a k y).trans (u2.2 a k x)
  refine ⟨q, S1, S2, hq, hq', n', s, L, M, ?_, ?_, ?_, ?_⟩
  · exact rTp_eq hT (f1 _ _ (by omega) (by omega) (by omega)) (f1 _ _ (by omega) (by omega) (by omega)) (fun k => f1 _ _ (by omega) (by omega) (by omega)) (fun k => f1 _ _ (by omega) (by omega) (by omega))
  · exact rSc_eq hS0 (fun a k _ _ => f1 _ _ (by omega) (by omega) (by omega)) (fun a k _ _ => f2 _ _ (by omega) (by omega)) (by rw [f1 3 3 (by omega) (by omega) (by omega)]; exact b5) (fun k => f1 _ _ (by omega) (by omega) (by omega)) (fun a k _ => f2 _ _ (by omega) (by omega))
  · exact rRu_eq hL (f1 _ _ (by omega) (by omega) (by omega)) (f1 _ _ (by omega) (by omega) (by omega)) (fun a k _ _ _ => f1 _ _ (by omega) (by omega) (by omega)) (fun a k _ => f1 _ _ (by omega) (by omega) (by omega))
  · exact rIm_eq hM (fun a k _ _ => f1 _ _ (by omega) (by omega) (by omega)) (fun a k _ _ => f2 _ _ (by omega) (by omega)) (fun k => f1 _ _ (by omega) (by omega) (by omega)) (fun k => f2 _ _ (by omega) (by omega)) (fun k => f1 _ _ (by omega) (by omega) (by omega))
end
