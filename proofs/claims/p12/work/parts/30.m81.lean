section
/-! meetings(): the class goes on -/
theorem and31 (y : Int64) : ∃ x, x < 2147483648 ∧ Int64.toInt32 (y &&& 2147483647) = o3 x := by
  have h1 : (y &&& 2147483647).toBitVec.toNat < 2147483648 := by
    rw [Int64.toBitVec_and, BitVec.toNat_and]
    have : (2147483647 : Int64).toBitVec.toNat = 2147483647 := by decide
    rw [this]
    exact Nat.lt_of_le_of_lt Nat.and_le_right (by omega)
  have h2 : (y &&& 2147483647).toInt = ((y &&& 2147483647).toBitVec.toNat : Int) := BitVec.toInt_eq_toNat_of_lt (by omega)
  generalize y &&& 2147483647 = w at h1 h2
  refine ⟨w.toBitVec.toNat, h1, ?_⟩
  rw [← o6_to3 h1]
  exact congrArg Int64.toInt32 (nl_eq.mpr (by rw [h2, o6_int (by omega)]))
theorem c_draw {S : fS} : ∃ a x, a < 2147483648 ∧ x < 2147483648 ∧ f_X6_draw 3 S = some (o3 a, pI S 3 3 (o3 x)) := by
  obtain ⟨x, x1, x2⟩ := and31 ((((Int32.toInt64 (S.1 3 3)) * (1103515245 : Int64)) + (12345 : Int64)))
  unfold f_X6_draw
  rw [x2, bd_some, pI_eq, show (65536 : Int32) = o3 65536 from rfl, o3_dI x1 (by omega) (by omega), bd_some]
  exact ⟨x / 65536, x, by omega, x1, rfl⟩
def eMt (S T : fS) : Prop := (∀ a k, ¬ (31 ≤ a ∧ a ≤ 36) → ¬ (a = 3 ∧ k = 3) → T.1 a k = S.1 a k) ∧ (∀ a k, ¬ (31 ≤ a ∧ a ≤ 36) → T.2 a k = S.2 a k)
theorem eMt.rf {S : fS} : eMt S S := ⟨fun _ _ _ _ => rfl, fun _ _ _ => rfl⟩
theorem eMt.tr {S T U : fS} (h : eMt S T) (g : eMt T U) : eMt S U := ⟨fun a k x y => (g.1 a k x y).trans (h.1 a k x y), fun a k x => (g.2 a k x).trans (h.2 a k x)⟩
theorem eMt_G {S T : fS} (h : ∀ p, eG 31 p S T) : eMt S T := ⟨fun a k x _ => (h (a + 1)).1 a k (by omega) (by omega) (by omega), fun a k x => (h a).2 a k (by omega) (by omega)⟩
theorem eMt_p {S : fS} {x : Int32} : eMt S (pI S 3 3 x) := ⟨fun a k _ y => pI_ne y, fun _ _ _ => rfl⟩
def mI (F : List (Nat × Nat)) (E : List St5) (n h : Nat) (T : fS) : Prop := twC T 4 F E ∧ 0 ≤ (T.1 3 3).toInt ∧ ∃ C : Cw, C.1 = n ∧ C.2.1 = h ∧ okD F.length E C ∧ cwC T 31 C
theorem oe_ok {m : Nat} {E : List St5} {C : Cw} {th s f : Nat} (hC : okD m E C) (hE : ∀ q ∈ E, okS m q) (hs : s < E.length) (h : oeI (E.getD s d5) f ≠ -1) : okD m E (cOff C th s (oeI (E.getD s d5) f)) := by
  have hq := hE _ (gd_mem (d := d5) hs)
  refine cOff_ok (D := fun x _ => if x = f then (E.getD s d5).2.2.1 else 0) (b := 0) hC hE hs ?_
  by_cases e : (E.getD s d5).1 = f
  · refine Or.inl ⟨e, ?_, ?_⟩
    · show (if (E.getD s d5).2.1 = f then (E.getD s d5).2.2.1 else 0) < 99999
      have := hq.2.2.2.2.1
      split <;> omega
    · show (E.getD s d5).2.2.1 + (if (E.getD s d5).2.1 = f then (E.getD s d5).2.2.1 else 0) = if f = f then (E.getD s d5).2.2.1 else 0
      rw [if_pos rfl, if_neg (fun z => hq.2.2.1 (e.trans z.symm))]; rfl
  · by_cases e2 : (E.getD s d5).2.1 = f
    · refine Or.inr ⟨e, e2, ?_, ?_⟩
      · show (if (E.getD s d5).1 = f then (E.getD s d5).2.2.1 else 0) < 99999
        rw [if_neg e]; omega
      · show (E.getD s d5).2.2.1 + (if (E.getD s d5).1 = f then (E.getD s d5).2.2.1 else 0) = if f = f then (E.getD s d5).2.2.1 else 0
        rw [if_pos rfl, if_neg e]; rfl
    · exfalso
      apply h
      unfold oeI
      rw [if_neg e, if_neg e2]
section CMT
variable {F : List (Nat × Nat)} {E : List St5}
theorem mI_p {n h : Nat} {T : fS} {x : Nat} (hx : x < 2147483648) (hI : mI F E n h T) : mI F E n h (pI T 3 3 (o3 x)) := by
  obtain ⟨a, b, C, c1, c2, c3, c4⟩ := hI
  refine ⟨twC_eq a (fun a k _ _ => pI_ne (by omega)) (fun _ _ _ _ => rfl), by rw [pI_eq, o3_int hx]; omega, C, c1, c2, c3, cwC_eq c4 (fun a k _ _ => pI_ne (by omega)) (fun _ => rfl)⟩
theorem cm_at {S : fS} (hT : twC S 4 F E) (hE : ∀ q ∈ E, okS F.length q) (hm : F.length ≤ 10) (hl : E.length ≤ 12) {f : Nat} (hf : f < F.length) : ∃ c, c ≤ 12 ∧ f_X8_stairsAt 4 (o3 f) S = some (o3 c) := by
  have key : ∀ d k nn c, k + d = E.length → d < nn → ∃ c', c' ≤ c + d ∧ lp_X8_stairsAt_4 4 (o3 f) S (fun u6 => some u6) nn (o3 c) (o3 k) = some (o3 c') := by
    intro d
    induction d with
    | zero =>
      intro k nn c hk hnn
      obtain ⟨nn, rfl⟩ : ∃ z, nn = z + 1 := ⟨nn - 1, by omega⟩
      rw [lp_X8_stairsAt_4.eq_2, hT.2.1, if_pos ((o3_le (by omega) (by omega)).mpr (by omega))]
      exact ⟨c, by omega, rfl⟩
    | succ d ih =>
      intro k nn c hk hnn
      obtain ⟨nn, rfl⟩ : ∃ z, nn = z + 1 := ⟨nn - 1, by omega⟩
      rw [lp_X8_stairsAt_4.eq_2, hT.2.1, if_neg (fun q => by have := (o3_le (by omega) (by omega)).mp q; omega), ch_other hT hE hm hl (by omega) (by omega), bd_some, o3_s, o3_s, show (0 : Int32) = o3 0 from rfl, o3_add]
      split
      · obtain ⟨c', c1, c2⟩ := ih (k + 1) nn (c + 1) (by omega) (by omega)
        exact ⟨c', by omega, c2⟩
      · obtain ⟨c', c1, c2⟩ := ih (k + 1) nn (c + 0) (by omega) (by omega)
        exact ⟨c', by omega, c2⟩
  obtain ⟨c, c1, c2⟩ := key E.length 0 FU 0 (by omega) (FU_lt (by omega))
  exact ⟨c, by omega, c2⟩
theorem cm_pl {S : fS} (hT : twC S 4 F E) (hE : ∀ q ∈ E, okS F.length q) (hm : F.length ≤ 10) (hl : E.length ≤ 12) {f : Nat} (hf : f < F.length) {v : Int32} : f_X8_stairInPlace 4 (o3 f) v S = some (-1) ∨ ∃ k, k < E.length ∧ f_X8_stairInPlace 4 (o3 f) v S = some (o3 k) := by
  have key : ∀ d k nn (c : Int32), k + d = E.length → d < nn → lp_X8_stairInPlace_5 4 (o3 f) v S (fun (_ : Unit) => some (-1 : Int32)) nn c (o3 k) = some (-1) ∨ ∃ i, i < E.length ∧ lp_X8_stairInPlace_5 4 (o3 f) v S (fun (_ : Unit) => some (-1 : Int32)) nn c (o3 k) = some (o3 i) := by
    intro d
    induction d with
    | zero =>
      intro k nn c hk hnn
      obtain ⟨nn, rfl⟩ : ∃ z, nn = z + 1 := ⟨nn - 1, by omega⟩
      rw [lp_X8_stairInPlace_5.eq_2, hT.2.1, if_pos ((o3_le (by omega) (by omega)).mpr (by omega))]
      exact Or.inl rfl
    | succ d ih =>
      intro k nn c hk hnn
      obtain ⟨nn, rfl⟩ : ∃ z, nn = z + 1 := ⟨nn - 1, by omega⟩
      rw [lp_X8_stairInPlace_5.eq_2, hT.2.1, if_neg (fun q => by have := (o3_le (by omega) (by omega)).mp q; omega), ch_other hT hE hm hl (by omega) (by omega), bd_some, o3_s]
      split
      · split
        · exact Or.inr ⟨k, by omega, rfl⟩
        · exact ih (k + 1) nn _ (by omega) (by omega)
      · exact ih (k + 1) nn _ (by omega) (by omega)
  exact key E.length 0 FU 0 (by omega) (FU_lt (by omega))
theorem cm_off {n h : Nat} {T : fS} (hE : ∀ q ∈ E, okS F.length q) (hm : F.length ≤ 10) (hl : E.length ≤ 12) {th f : Nat} {v : Int32} (hth : th < n) (hf : f < F.length) (hv : v = -1 ∨ ∃ k, k < E.length ∧ v = o3 k) (hI : mI F E n h T) (hp : T.1 32 th = o3 f) : ∃ r U, f_X0_setOff 31 4 (o3 th) v T = some (r, U) ∧ mI F E n h U ∧ eMt T U := by
  have hI0 := hI
  obtain ⟨a, b, C, c1, c2, c3, c4⟩ := hI
  rcases hv with hv | ⟨k, k1, k2⟩
  · refine ⟨0, T, ?_, hI0, eMt.rf⟩
    unfold f_X0_setOff
    rw [hv, if_neg (show ¬ (0 : Int32) ≤ -1 by decide), if_neg (show ¬ (0 : Int32) ≤ -1 by decide)]
  · obtain ⟨U, u1, u2, u3⟩ := ch_off c4 c3.1 a hE hm hl (th := th) (k := k) (a := f) (by omega) k1 hf ((c4.2.2 th (by omega)).1.symm.trans hp)
    rw [k2, u1]
    by_cases z : oeI (E.getD k d5) f = -1
    · rw [if_pos z]; exact ⟨0, T, rfl, hI0, eMt.rf⟩
    · rw [if_neg z]
      have eq := eMt_G u3
      refine ⟨1, U, rfl, ⟨twC_eq a (fun a k _ _ => eq.1 a k (by omega) (by omega)) (fun a k _ _ => eq.2 a k (by omega)), ?_, cOff C th k (oeI (E.getD k d5) f), c1, c2, oe_ok c3 hE k1 z, u2⟩, eq⟩
      have := (u3 1000).1 3 3 (by omega) (by omega) (by omega)
      rw [this]; exact b
theorem cm_wan {n h : Nat} (hE : ∀ q ∈ E, okS F.length q) (hm : F.length ≤ 10) (hl : E.length ≤ 12) {K : fS → Option fS} : ∀ d k nn T, k + d = n → d < nn → mI F E n h T → ∃ U, lp_X10_wander_2 K nn (o3 k) T = K U ∧ mI F E n h U ∧ eMt T U := by
  intro d
  induction d with
  | zero =>
    intro k nn T hk hnn hI
    obtain ⟨nn, rfl⟩ : ∃ z, nn = z + 1 := ⟨nn - 1, by omega⟩
    refine ⟨T, ?_, hI, eMt.rf⟩
    obtain ⟨a, b, C, c1, c2, c3, c4⟩ := hI
    have h8 := c3.1
    rw [lp_X10_wander_2.eq_2, c4.1, if_pos ((o3_le (by omega) (by omega)).mpr (by omega))]
  | succ d ih =>
    intro k nn T hk hnn hI
    obtain ⟨nn, rfl⟩ : ∃ z, nn = z + 1 := ⟨nn - 1, by omega⟩
    have hI0 := hI
    obtain ⟨a, b, C, c1, c2, c3, c4⟩ := hI
    have h8 := c3.1
    have st : f_X0_isStanding 31 (o3 k) T = some (if C.2.2.1 k < 0 then 0 else 1) := by
      unfold f_X0_isStanding
      rw [gI_o (by omega) (by omega), bd_some, show T.1 (31 + 1) k = _ from (c4.2.2 k (by omega)).1]
      by_cases z : C.2.2.1 k < 0
      · rw [if_pos z, if_pos z]
      · rw [if_neg z, if_neg z]
    rw [lp_X10_wander_2.eq_2, c4.1, if_neg (fun q => by have := (o3_le (by omega) (by omega)).mp q; omega), st, bd_some, o3_s]
    by_cases z : C.2.2.1 k < 0
    · rw [if_pos z, if_pos rfl]
      exact ih (k + 1) nn T (by omega) (by omega) hI0
    · rw [if_neg z, if_neg (show ¬ (1 : Int32) = 0 by decide)]
      obtain ⟨f, f1, f2⟩ := okT_nn (c3.2.2 k (by omega)).1 hm z
      have hp : T.1 32 k = o3 f := ((c4.2.2 k (by omega)).1).trans f2
      obtain ⟨q, x, q1, x1, dr⟩ := c_draw (S := T)
      have hI1 := mI_p (x := x) x1 hI0
      obtain ⟨c, cc1, cc2⟩ := cm_at hI1.1 hE hm hl f1
      rw [gI_o (by omega) (by omega), bd_some, hp, dr, bd_some, show (4 : Int32) = o3 4 from rfl, o3_rI q1 (by omega) (by omega), bd_some]
      dsimp only
      rw [cc2, bd_some, bd_some]
      obtain ⟨U0, u1, u2, u3⟩ := ih (k + 1) nn (pI T 3 3 (o3 x)) (by omega) (by omega) hI1
      by_cases z4 : o3 (q % 4) = (0 : Int32)
      · rw [if_pos z4, if_neg (show ¬ (1 : Int32) = 0 by decide)]
        by_cases zc : o3 c ≤ (0 : Int32)
        · rw [if_pos zc]; exact ⟨U0, u1, u2, eMt_p.tr u3⟩
        · rw [if_neg zc]
          have hc0 : c ≠ 0 := fun e => zc (by rw [e]; decide)
          obtain ⟨q', x', q1', x1', dr'⟩ := c_draw (S := pI T 3 3 (o3 x))
          rw [dr', bd_some]
          dsimp only
          rw [o3_rI q1' (by omega) hc0, bd_some]
          have hI2 := mI_p (x := x') x1' hI1
          have hv := cm_pl hI2.1 hE hm hl f1 (v := o3 (q' % c))
          have hv' : ∃ v, f_X8_stairInPlace 4 (o3 f) (o3 (q' % c)) (pI (pI T 3 3 (o3 x)) 3 3 (o3 x')) = some v ∧ (v = -1 ∨ ∃ k, k < E.length ∧ v = o3 k) := by
            rcases hv with hv | ⟨i, i1, i2⟩
            · exact ⟨_, hv, Or.inl rfl⟩
            · exact ⟨_, i2, Or.inr ⟨i, i1, rfl⟩⟩
          obtain ⟨v, v1, v2⟩ := hv'
          obtain ⟨r, W, w1, w2, w3⟩ := cm_off (th := k) (f := f) (v := v) hE hm hl (by omega) f1 v2 hI2 (by rw [pI_ne (by omega), pI_ne (by omega)]; exact hp)
          obtain ⟨U, y1, y2, y3⟩ := ih (k + 1) nn W (by omega) (by omega) w2
          refine ⟨U, ?_, y2, ((eMt_p.tr eMt_p).tr w3).tr y3⟩
          rw [v1, bd_some, show (4 : Nat) = 4 from rfl, w1, bd_some]
          exact y1
      · rw [if_neg z4, if_pos rfl]; exact ⟨U0, u1, u2, eMt_p.tr u3⟩
theorem cm_hrs {n : Nat} {p1 p2 : Int32} (hF : ∀ q ∈ F, okF q) (hE : ∀ q ∈ E, okS F.length q) (hm : F.length ≤ 10) (hl : E.length ≤ 12) {i j m : Nat} (hi : i < n) (hj : j < n) (hm2 : m < 2147483648) {K : Int32 → fS → Option (Int32 × fS)} : ∀ d k nn (c : Int32) h T, k + d = m → d < nn → h + d ≤ 10199 → mI F E n h T → ∃ r U, lp_X10_hoursMet_20 (o3 i) (o3 j) (o3 m) K nn c (o3 k) T = K r U ∧ (∃ h', mI F E n h' U) ∧ eMt T U := by
  intro d
  induction d with
  | zero =>
    intro k nn c h T hk hnn hh hI
    obtain ⟨nn, rfl⟩ : ∃ z, nn = z + 1 := ⟨nn - 1, by omega⟩
    refine ⟨c, T, ?_, ⟨h, hI⟩, eMt.rf⟩
    rw [lp_X10_hoursMet_20.eq_2, if_pos ((o3_le (by omega) (by omega)).mpr (by omega))]
  | succ d ih =>
    intro k nn c h T hk hnn hh hI
    obtain ⟨nn, rfl⟩ : ∃ z, nn = z + 1 := ⟨nn - 1, by omega⟩
    have h8 : n ≤ 8 := by
      obtain ⟨_, _, C, c1, _, c3, _⟩ := hI
      rw [← c1]; exact c3.1
    obtain ⟨U, u1, u2, u3⟩ := cm_wan (K := fun S50 => some S50) hE hm hl n 0 FU T (by omega) (FU_lt (by omega)) hI
    obtain ⟨a, b, C, c1, c2, c3, c4⟩ := u2
    obtain ⟨V, v1, v2, v3⟩ := c_pass (t := 4) (c := 31) (by omega) hF hE hm hl c3 c4 a
    have eq := eMt_G v3
    have hIV : mI F E n (h + 1) V := ⟨twC_eq a (fun a k _ _ => eq.1 a k (by omega) (by omega)) (fun a k _ _ => eq.2 a k (by omega)), by rw [(v3 1000).1 3 3 (by omega) (by omega) (by omega)]; exact b, cPs F E C, c1, by show C.2.1 + 1 = h + 1; omega, cPs_ok c3 hF hE hm hl (by omega), v2⟩
    have tog : ∃ r, f_X0_isTogether 31 (o3 i) (o3 j) V = some r := by
      unfold f_X0_isTogether f_X0_isStanding
      rw [gI_o (by omega) (by omega), gI_o (by omega) (by omega), bd_some, bd_some, bd_some]
      by_cases z : V.1 (31 + 1) i < 0
      · rw [if_pos z, bd_some, if_pos rfl]; exact ⟨_, rfl⟩
      · rw [if_neg z, bd_some, if_neg (by decide)]
        split
        · exact ⟨_, rfl⟩
        · exact ⟨_, rfl⟩
    obtain ⟨r, r1⟩ := tog
    have w1 : f_X10_wander T = some U := u1
    rw [lp_X10_hoursMet_20.eq_2, if_neg (fun q => by have := (o3_le (by omega) (by omega)).mp q; omega), w1, bd_some, v1, bd_some, r1, bd_some, o3_s]
    split
    · obtain ⟨r', W, y1, y2, y3⟩ := ih (k + 1) nn c (h + 1) V (by omega) (by omega) (by omega) hIV
      exact ⟨r', W, y1, y2, (u3.tr eq).tr y3⟩
    · obtain ⟨r', W, y1, y2, y3⟩ := ih (k + 1) nn (c + 1) (h + 1) V (by omega) (by omega) (by omega) hIV
      exact ⟨r', W, y1, y2, (u3.tr eq).tr y3⟩
theorem cm_met {n h : Nat} (hF : ∀ q ∈ F, okF q) (hE : ∀ q ∈ E, okS F.length q) (hm : F.length ≤ 10) (hl : E.length ≤ 12) {i j m : Nat} (hi : i < n) (hj : j < n) (hm2 : m ≤ 200) {C : Cw} {T : fS} (c1 : C.1 = n) (c2 : C.2.1 = h) (h9 : h ≤ 9999) (c3 : okD F.length E C) (c4 : cwC T 11 C) (hT : twC T 4 F E) (hx : 0 ≤ (T.1 3 3).toInt) : ∃ r U, f_X10_hoursMet (o3 i) (o3 j) (o3 m) T = some (r, U) ∧ cwC U 11 C ∧ twC U 4 F E ∧ 0 ≤ (U.1 3 3).toInt ∧ eMt T U := by
  obtain ⟨Y, y1, y2, y3, y4, y5⟩ := c_copyC (S := T) (b := 31) (c := 11) (by omega)
  have h8 := c3.1
  have eq : eMt T Y := ⟨fun a k x _ => (y5 a k (by omega)).1, fun a k x => (y5 a k (by omega)).2⟩
  have hI : mI F E n h Y := ⟨twC_eq hT (fun a k _ _ => eq.1 a k (by omega) (by omega)) (fun a k _ _ => eq.2 a k (by omega)), by rw [(y5 3 3 (by omega)).1]; exact hx, C, c1, c2, c3, y2.trans c4.1, y3.trans c4.2.1, fun k hk => by
    obtain ⟨z1, z2, z3, z4, z5⟩ := c4.2.2 k hk
    obtain ⟨w1, w2, w3, w4, w5⟩ := y4 k (by omega)
    exact ⟨w1.trans z1, w2.trans z2, w3.trans z3, w4.trans z4, w5.trans z5⟩⟩
  obtain ⟨r, U, u1, ⟨h', u2⟩, u3⟩ := cm_hrs (n := n) (p1 := 0) (p2 := 0) hF hE hm hl hi hj (m := m) (by omega) (K := fun u15 S16 => some (u15, S16)) m 0 FU 0 h Y (by omega) (FU_lt (by omega)) (by omega) hI
  have e2 := eq.tr u3
  refine ⟨r, U, ?_, cwC_eq c4 (fun a k _ _ => e2.1 a k (by omega) (by omega)) (fun k => e2.2 _ k (by omega)), u2.1, u2.2.1, e2⟩
  unfold f_X10_hoursMet
  rw [y1, bd_some]
  exact u1
end CMT
end
