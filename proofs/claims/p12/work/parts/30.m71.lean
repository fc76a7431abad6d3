section
/-! letters -/
def cfn (f : Nat → Bool) : Nat → Nat
  | 0 => 0
  | k + 1 => cfn f k + (if f k = true then 1 else 0)
theorem cfn_le {f : Nat → Bool} : ∀ k, cfn f k ≤ k := by
  intro k
  induction k with
  | zero => exact Nat.le_refl _
  | succ k ih =>
    show cfn f k + _ ≤ k + 1
    split <;> omega
section PO
variable {S : fS} {F : List (Nat × Nat)} {E : List St5} {P : Po}
def cmg (E : List St5) (P : Po) (k : Nat) : Nat := P.2.2.2 k + dst E (P.2.1 k) (P.2.2.1 k)
def stg (F : List (Nat × Nat)) (P : Po) (k : Nat) : Nat := P.2.2.2 k * ((F.getD (P.2.1 k) (0, 0)).1 * pz (F.getD (P.2.1 k) (0, 0)))
def ctg (F : List (Nat × Nat)) (E : List St5) (P : Po) (k : Nat) : Nat := cmg E P k * ((F.getD (P.2.2.1 k) (0, 0)).1 * pz (F.getD (P.2.2.1 k) (0, 0)))
theorem po_b (hF : ∀ q ∈ F, okF q) (hP : okP F.length (dst E) P) {k : Nat} (hk : k < P.1) : cmg E P k ≤ 109998 ∧ stg F P k ≤ 46553856148800 ∧ ctg F E P k ≤ 512134320297600 := by
  obtain ⟨p1, p2, p3, p4⟩ := hP.2 k hk
  have h1 := pcn_le (hF _ (gd_mem (d := (0, 0)) p1))
  have h2 := pcn_le (hF _ (gd_mem (d := (0, 0)) p2))
  have h3 : cmg E P k ≤ 109998 := by unfold cmg; omega
  refine ⟨h3, ?_, ?_⟩
  · have : stg F P k ≤ 9999 * 4655851200 := Nat.mul_le_mul p3 h1.2
    omega
  · have : ctg F E P k ≤ 109998 * 4655851200 := Nat.mul_le_mul h3 h2.2
    omega
theorem pc_sent (b1 : twC S 4 F E) (b4 : poC S 17 (dst E) P) (hF : ∀ q ∈ F, okF q) (hm : F.length ≤ 10) (hP : okP F.length (dst E) P) {k : Nat} (hk : k < P.1) : f_X2_sentByClock 17 4 (o3 k) S = some (o6 (stg F P k)) ∧ gI S 21 12 (o3 k) = some (o3 (cmg E P k)) ∧ f_X2_isEarly 17 4 (o3 k) S = some (if stg F P k ≤ ctg F E P k then 0 else 1) := by
  obtain ⟨c1, c2, c3, c4⟩ := b4.2 k hk
  obtain ⟨p1, p2, p3, p4⟩ := hP.2 k hk
  obtain ⟨w1, w2, w3⟩ := po_b hF hP hk
  have h12 := hP.1
  have e1 : f_X2_sentByClock 17 4 (o3 k) S = some (o6 (stg F P k)) := by
    unfold f_X2_sentByClock f_X8_clockAt
    rw [gI_o (by omega) (by omega), bd_some, gI_o (by omega) (by omega), bd_some, c1, c3, show gL S (4 + 1) 10 (o3 (P.2.1 k)) = some (pc (F.getD (P.2.1 k) (0, 0))) from cf_p b1 hm p1, bd_some, bd_some, pc_o, o6_of3 (by omega), o6_mul]
    rfl
  have e2 : gI S 21 12 (o3 k) = some (o3 (cmg E P k)) := (gI_o (by omega) (by omega)).trans (congrArg some c4)
  refine ⟨e1, e2, ?_⟩
  unfold f_X2_isEarly f_X8_clockAt
  rw [gI_o (by omega) (by omega), bd_some, show gI S (17 + 4) 12 (o3 k) = some (o3 (cmg E P k)) from e2, bd_some, c2, show gL S (4 + 1) 10 (o3 (P.2.2.1 k)) = some (pc (F.getD (P.2.2.1 k) (0, 0))) from cf_p b1 hm p2, bd_some, bd_some, e1, bd_some, pc_o, o6_of3 (by omega), o6_mul]
  by_cases h : stg F P k ≤ ctg F E P k
  · rw [if_pos h, if_pos (show o6 (stg F P k) ≤ o6 (cmg E P k * ((F.getD (P.2.2.1 k) (0, 0)).1 * pz (F.getD (P.2.2.1 k) (0, 0)))) from (o6_le (by omega) (by have : cmg E P k * ((F.getD (P.2.2.1 k) (0, 0)).1 * pz (F.getD (P.2.2.1 k) (0, 0))) = ctg F E P k := rfl; omega)).mpr h)]
  · rw [if_neg h, if_neg (show ¬ o6 (stg F P k) ≤ o6 (cmg E P k * ((F.getD (P.2.2.1 k) (0, 0)).1 * pz (F.getD (P.2.2.1 k) (0, 0)))) from fun q => h ((o6_le (by omega) (by have : cmg E P k * ((F.getD (P.2.2.1 k) (0, 0)).1 * pz (F.getD (P.2.2.1 k) (0, 0))) = ctg F E P k := rfl; omega)).mp q))]
theorem pm_of (m3 : poM (S.1 157) P) (h12 : P.1 ≤ 12) {k : Nat} (hk : k < P.1) : f_X11_letterOf (o3 k) 0 S = some (o3 (P.2.1 k)) ∧ f_X11_letterOf (o3 k) 1 S = some (o3 (P.2.2.1 k)) ∧ f_X11_letterOf (o3 k) 2 S = some (o3 (P.2.2.2 k)) := by
  obtain ⟨c1, c2, c3⟩ := m3.2 k hk
  have key : ∀ a, a < 3 → f_X11_letterOf (o3 k) (o3 a) S = some (S.1 157 (122 + 3 * k + a)) := fun a ha => by
    unfold f_X11_letterOf
    rw [show (122 : Int32) = o3 122 from rfl, show (3 : Int32) = o3 3 from rfl, o3_mul, o3_add, o3_add, gI_o (by omega) (by omega), bd_some]
  exact ⟨(key 0 (by omega)).trans (congrArg some c1), (key 1 (by omega)).trans (congrArg some c2), (key 2 (by omega)).trans (congrArg some c3)⟩
theorem pm_all (m1 : twM (S.1 157) F E) (m3 : poM (S.1 157) P) (d : rHm S F.length (dst E)) (hF : ∀ q ∈ F, okF q) (hm : F.length ≤ 10) (hP : okP F.length (dst E) P) {k : Nat} (hk : k < P.1) : f_X11_sentAt (o3 k) S = some (o6 (stg F P k)) ∧ f_X11_comesAt (o3 k) S = some (o3 (cmg E P k)) ∧ f_X11_isEarly (o3 k) S = some (if stg F P k ≤ ctg F E P k then 0 else 1) := by
  obtain ⟨c1, c2, c3⟩ := pm_of m3 hP.1 hk
  obtain ⟨p1, p2, p3, p4⟩ := hP.2 k hk
  obtain ⟨w1, w2, w3⟩ := po_b hF hP hk
  have e1 : f_X11_comesAt (o3 k) S = some (o3 (cmg E P k)) := by
    unfold f_X11_comesAt
    rw [c3, bd_some, c1, bd_some, c2, bd_some, mh_btw d hm p1 p2, bd_some, o6_to3 (by omega), o3_add]
    rfl
  have e2 : f_X11_sentAt (o3 k) S = some (o6 (stg F P k)) := by
    unfold f_X11_sentAt
    rw [c3, bd_some, c1, bd_some, mp_floor m1 hF hm p1, bd_some, pc_o, o6_of3 (by omega), o6_mul]
    rfl
  refine ⟨e2, e1, ?_⟩
  unfold f_X11_isEarly
  rw [e1, bd_some, c2, bd_some, mp_floor m1 hF hm p2, bd_some, c3, bd_some, c1, bd_some, mp_floor m1 hF hm p1, bd_some, pc_o, pc_o, o6_of3 (by omega), o6_of3 (by omega), o6_mul, o6_mul]
  by_cases h : stg F P k ≤ ctg F E P k
  · rw [if_pos h, if_pos (show o6 (P.2.2.2 k * ((F.getD (P.2.1 k) (0, 0)).1 * pz (F.getD (P.2.1 k) (0, 0)))) ≤ o6 (cmg E P k * ((F.getD (P.2.2.1 k) (0, 0)).1 * pz (F.getD (P.2.2.1 k) (0, 0)))) from (o6_le (a := stg F P k) (b := ctg F E P k) (by omega) (by omega)).mpr h)]
  · rw [if_neg h, if_neg (show ¬ o6 (P.2.2.2 k * ((F.getD (P.2.1 k) (0, 0)).1 * pz (F.getD (P.2.1 k) (0, 0)))) ≤ o6 (cmg E P k * ((F.getD (P.2.2.1 k) (0, 0)).1 * pz (F.getD (P.2.2.1 k) (0, 0)))) from fun q => h ((o6_le (a := stg F P k) (b := ctg F E P k) (by omega) (by omega)).mp q))]
end PO
theorem t_29 (a1 a2 : Int32) (S : fS) (hR : Rel S) : ∃ r, f_X10_letters a1 a2 S = some r ∧ f_X11_letters a1 a2 S = some r ∧ Rel S := by
  have hR0 := hR
  obtain ⟨n, s, L, M, hT, ⟨⟨n1, n2, n3, n4, n5, n6⟩, ⟨b1, b2, b3, b4, b5⟩, ⟨m1, m2, m3, m4⟩, d⟩, hL, hM⟩ := hR
  have h12 := n6.1
  have hi1 : f_X10_isFrom a2 0 4 S = some (if ((0 : Nat) : Int) ≤ a2.toInt ∧ a2.toInt ≤ ((4 : Nat) : Int) then 1 else 0) := from_c (a := 0) (b := 4) (by omega) (by omega)
  have hi2 : f_X11_in (Int32.toInt64 a2) 0 4 S = some (if ((0 : Nat) : Int) ≤ a2.toInt ∧ a2.toInt ≤ ((4 : Nat) : Int) then 1 else 0) := in_c (a := 0) (b := 4) (by omega) (by omega)
  have hg4 : gI S 157 158 4 = some (o3 s.2.2.2.1) := (gI_o (k := 4) (by omega) (by omega)).trans (congrArg some m3.1)
  unfold f_X10_letters f_X11_letters
  rw [show S.1 17 4 = o3 s.2.2.2.1 from b4.1, from_o (by omega), hg4, bd_some, bd_some, show (0 : Int64) = Int32.toInt64 0 from rfl, op_in, from_o (by omega), bd_some, show Int32.toInt64 0 = (0 : Int64) from rfl, hi1, hi2, bd_some, bd_some]
  by_cases h1 : 0 ≤ a1.toInt ∧ a1.toInt < s.2.2.2.1
  · rw [if_pos h1, if_neg (show ¬ (1 : Int32) = 0 by decide), if_neg (show ¬ (1 : Int32) = 0 by decide)]
    by_cases h2 : ((0 : Nat) : Int) ≤ a2.toInt ∧ a2.toInt ≤ ((4 : Nat) : Int)
    · rw [if_pos h2, if_neg (show ¬ (1 : Int32) = 0 by decide), if_neg (show ¬ (1 : Int32) = 0 by decide)]
      obtain ⟨k, e1, e2⟩ := o3_ex h1.1
      obtain ⟨v, e3, e4⟩ := o3_ex (x := a2) (by omega)
      have hk : k < s.2.2.2.1 := by omega
      obtain ⟨c1, c2, c3, c4⟩ := b4.2 k hk
      obtain ⟨u1, u2, u3⟩ := pc_sent b1 b4 n3 n1 n6 hk
      obtain ⟨w1, w2, w3⟩ := pm_all m1 m3 d n3 n1 n6 hk
      obtain ⟨x1, x2, x3⟩ := pm_of m3 h12 hk
      rw [e1, e3]
      have : v = 0 ∨ v = 1 ∨ v = 2 ∨ v = 3 ∨ v = 4 := by omega
      rcases this with rfl | rfl | rfl | rfl | rfl
      · rw [if_pos (show o3 0 = (0 : Int32) from rfl), if_neg (show ¬ (3 : Int32) ≤ o3 0 by decide), gI_o (by omega) (by omega), bd_some, show f_X11_letterOf (o3 k) (o3 0) S = _ from x1, bd_some]
        exact ⟨_, congrArg some c1, rfl, hR0⟩
      · rw [if_neg (show ¬ o3 1 = (0 : Int32) by decide), if_pos (show o3 1 = (1 : Int32) from rfl), if_neg (show ¬ (3 : Int32) ≤ o3 1 by decide), gI_o (by omega) (by omega), bd_some, show f_X11_letterOf (o3 k) (o3 1) S = _ from x2, bd_some]
        exact ⟨_, congrArg some c2, rfl, hR0⟩
      · rw [if_neg (show ¬ o3 2 = (0 : Int32) by decide), if_neg (show ¬ o3 2 = (1 : Int32) by decide), if_pos (show o3 2 = (2 : Int32) from rfl), if_neg (show ¬ (3 : Int32) ≤ o3 2 by decide), gI_o (by omega) (by omega), bd_some, show f_X11_letterOf (o3 k) (o3 2) S = _ from x3, bd_some]
        exact ⟨_, congrArg some c3, rfl, hR0⟩
      · rw [if_neg (show ¬ o3 3 = (0 : Int32) by decide), if_neg (show ¬ o3 3 = (1 : Int32) by decide), if_neg (show ¬ o3 3 = (2 : Int32) by decide), if_pos (show o3 3 = (3 : Int32) from rfl), if_pos (show (3 : Int32) ≤ o3 3 by decide), if_pos (show o3 3 = (3 : Int32) from rfl), u2, bd_some, w2, bd_some]
        exact ⟨_, rfl, rfl, hR0⟩
      · rw [if_neg (show ¬ o3 4 = (0 : Int32) by decide), if_neg (show ¬ o3 4 = (1 : Int32) by decide), if_neg (show ¬ o3 4 = (2 : Int32) by decide), if_neg (show ¬ o3 4 = (3 : Int32) by decide), if_pos (show (3 : Int32) ≤ o3 4 by decide), if_neg (show ¬ o3 4 = (3 : Int32) by decide), u3, w3, bd_some]
        split <;> exact ⟨_, rfl, rfl, hR0⟩
    · rw [if_neg h2, if_pos rfl, if_pos rfl]
      exact ⟨_, rfl, rfl, hR0⟩
  · rw [if_neg h1, if_pos rfl, if_pos rfl]
    exact ⟨_, rfl, rfl, hR0⟩
/-! crossed() -/
def ovb (F : List (Nat × Nat)) (E : List St5) (P : Po) (p q : Nat) : Bool := decide (¬ stg F P q ≤ stg F P p ∧ ¬ cmg E P p ≤ cmg E P q)
def ovs (F : List (Nat × Nat)) (E : List St5) (P : Po) : Nat → Nat
  | 0 => 0
  | k + 1 => ovs F E P k + cfn (ovb F E P k) P.1
theorem ovs_le {F : List (Nat × Nat)} {E : List St5} {P : Po} : ∀ k, ovs F E P k ≤ k * P.1 := by
  intro k
  induction k with
  | zero => exact Nat.zero_le _
  | succ k ih =>
    have := cfn_le (f := ovb F E P k) P.1
    show ovs F E P k + _ ≤ (k + 1) * P.1
    rw [Nat.succ_mul]
    omega
theorem t_30 (S : fS) (hR : Rel S) : ∃ r, f_X10_crossed S = some r ∧ f_X11_crossed S = some r ∧ Rel S := by
  have hR0 := hR
  obtain ⟨n, s, L, M, hT, ⟨⟨n1, n2, n3, n4, n5, n6⟩, ⟨b1, b2, b3, b4, b5⟩, ⟨m1, m2, m3, m4⟩, d⟩, hL, hM⟩ := hR
  have h12 := n6.1
  have hg4 : gI S 157 158 4 = some (o3 s.2.2.2.1) := (gI_o (k := 4) (by omega) (by omega)).trans (congrArg some m3.1)
  have hc4 : S.1 17 4 = o3 s.2.2.2.1 := b4.1
  have ov1 : ∀ p q, p < s.2.2.2.1 → q < s.2.2.2.1 → f_X2_isOvertaken 17 4 (o3 p) (o3 q) S = some (if ovb s.1 s.2.1 s.2.2.2 p q = true then 1 else 0) := fun p q hp hq => by
    obtain ⟨u1, u2, u3⟩ := pc_sent b1 b4 n3 n1 n6 hp
    obtain ⟨w1, w2, w3⟩ := pc_sent b1 b4 n3 n1 n6 hq
    obtain ⟨x1, x2, x3⟩ := po_b n3 n6 hp
    obtain ⟨y1, y2, y3⟩ := po_b n3 n6 hq
    unfold f_X2_isOvertaken ovb
    rw [u1, bd_some, w1, bd_some]
    by_cases h : stg s.1 s.2.2.2 q ≤ stg s.1 s.2.2.2 p
    · rw [if_pos ((o6_le (by omega) (by omega)).mpr h), if_neg (by rw [decide_eq_true_eq]; exact fun z => z.1 h)]
    · rw [if_neg (fun z => h ((o6_le (by omega) (by omega)).mp z)), show gI S (17 + 4) 12 (o3 p) = _ from u2, bd_some, show gI S (17 + 4) 12 (o3 q) = _ from w2, bd_some]
      by_cases h' : cmg s.2.1 s.2.2.2 p ≤ cmg s.2.1 s.2.2.2 q
      · rw [if_pos ((o3_le (by omega) (by omega)).mpr h'), if_neg (by rw [decide_eq_true_eq]; exact fun z => z.2 h')]
      · rw [if_neg (fun z => h' ((o3_le (by omega) (by omega)).mp z)), if_pos (by rw [decide_eq_true_eq]; exact ⟨h, h'⟩)]
  have inC : ∀ p, p < s.2.2.2.1 → ∀ (K : Int32 → Option Int32) dd k nn base, k + dd = s.2.2.2.1 → dd < nn → lp_X10_crossed_20 (o3 p) S K nn (o3 (base + cfn (ovb s.1 s.2.1 s.2.2.2 p) k)) (o3 k) = K (o3 (base + cfn (ovb s.1 s.2.1 s.2.2.2 p) s.2.2.2.1)) := by
    intro p hp K dd
    induction dd with
    | zero =>
      intro k nn base hk hnn
      obtain ⟨nn, rfl⟩ : ∃ z, nn = z + 1 := ⟨nn - 1, by omega⟩
      rw [lp_X10_crossed_20.eq_2, hc4, if_pos ((o3_le (by omega) (by omega)).mpr (by omega)), show k = s.2.2.2.1 by omega]
    | succ dd ih =>
      intro k nn base hk hnn
      obtain ⟨nn, rfl⟩ : ∃ z, nn = z + 1 := ⟨nn - 1, by omega⟩
      have hs : cfn (ovb s.1 s.2.1 s.2.2.2 p) (k + 1) = cfn (ovb s.1 s.2.1 s.2.2.2 p) k + (if ovb s.1 s.2.1 s.2.2.2 p k = true then 1 else 0) := rfl
      rw [lp_X10_crossed_20.eq_2, hc4, if_neg (fun q => by have := (o3_le (by omega) (by omega)).mp q; omega), ov1 p k hp (by omega), bd_some]
      by_cases h : ovb s.1 s.2.1 s.2.2.2 p k = true
      · rw [if_pos h] at hs
        rw [if_pos h, if_neg (show ¬ (1 : Int32) = 0 by decide), o3_s, o3_s, Nat.add_assoc, ← hs]
        exact ih (k + 1) nn base (by omega) (by omega)
      · rw [if_neg h] at hs
        replace hs := hs.trans (Nat.add_zero _)
        rw [if_neg h, if_pos rfl, o3_s, ← hs]
        exact ih (k + 1) nn base (by omega) (by omega)
  have inM : ∀ p, p < s.2.2.2.1 → ∀ (K : Int32 → Option Int32) dd k nn base, k + dd = s.2.2.2.1 → dd < nn → lp_X11_crossed_16 (o3 p) S K nn (o3 (base + cfn (ovb s.1 s.2.1 s.2.2.2 p) k)) (o3 k) = K (o3 (base + cfn (ovb s.1 s.2.1 s.2.2.2 p) s.2.2.2.1)) := by
    intro p hp K dd
    induction dd with
    | zero =>
      intro k nn base hk hnn
      obtain ⟨nn, rfl⟩ : ∃ z, nn = z + 1 := ⟨nn - 1, by omega⟩
      rw [lp_X11_crossed_16.eq_2, hg4, bd_some, if_pos ((o3_le (by omega) (by omega)).mpr (by omega)), show k = s.2.2.2.1 by omega]
    | succ dd ih =>
      intro k nn base hk hnn
      obtain ⟨nn, rfl⟩ : ∃ z, nn = z + 1 := ⟨nn - 1, by omega⟩
      have hs : cfn (ovb s.1 s.2.1 s.2.2.2 p) (k + 1) = cfn (ovb s.1 s.2.1 s.2.2.2 p) k + (if ovb s.1 s.2.1 s.2.2.2 p k = true then 1 else 0) := rfl
      obtain ⟨u1, u2, u3⟩ := pm_all m1 m3 d n3 n1 n6 hp
      obtain ⟨w1, w2, w3⟩ := pm_all m1 m3 d n3 n1 n6 (show k < s.2.2.2.1 by omega)
      obtain ⟨x1, x2, x3⟩ := po_b n3 n6 hp
      obtain ⟨y1, y2, y3⟩ := po_b n3 n6 (show k < s.2.2.2.1 by omega)
      rw [lp_X11_crossed_16.eq_2, hg4, bd_some, if_neg (fun q => by have := (o3_le (by omega) (by omega)).mp q; omega), u1, bd_some, w1, bd_some]
      have hz : o3 (base + cfn (ovb s.1 s.2.1 s.2.2.2 p) k) + (0 : Int32) = o3 (base + cfn (ovb s.1 s.2.1 s.2.2.2 p) k) := Int32.add_zero _
      rw [hz, o3_s, o3_s]
      by_cases h : stg s.1 s.2.2.2 k ≤ stg s.1 s.2.2.2 p
      · rw [if_pos ((o6_le (by omega) (by omega)).mpr h)]
        rw [if_neg (by unfold ovb; rw [decide_eq_true_eq]; exact fun z => z.1 h)] at hs
        replace hs := hs.trans (Nat.add_zero _)
        rw [← hs]
        exact ih (k + 1) nn base (by omega) (by omega)
      · rw [if_neg (fun z => h ((o6_le (by omega) (by omega)).mp z)), u2, bd_some, w2, bd_some]
        by_cases h' : cmg s.2.1 s.2.2.2 p ≤ cmg s.2.1 s.2.2.2 k
        · rw [if_pos ((o3_le (by omega) (by omega)).mpr h')]
          rw [if_neg (by unfold ovb; rw [decide_eq_true_eq]; exact fun z => z.2 h')] at hs
          replace hs := hs.trans (Nat.add_zero _)
          rw [← hs]
          exact ih (k + 1) nn base (by omega) (by omega)
        · rw [if_neg (fun z => h' ((o3_le (by omega) (by omega)).mp z))]
          rw [if_pos (by unfold ovb; rw [decide_eq_true_eq]; exact ⟨h, h'⟩)] at hs
          rw [Nat.add_assoc, ← hs]
          exact ih (k + 1) nn base (by omega) (by omega)
  have ouC : ∀ dd k nn, k + dd = s.2.2.2.1 → dd < nn → lp_X10_crossed_4 S (fun u9 => some u9) nn (o3 (ovs s.1 s.2.1 s.2.2.2 k)) (o3 k) = some (o3 (ovs s.1 s.2.1 s.2.2.2 s.2.2.2.1)) := by
    intro dd
    induction dd with
    | zero =>
      intro k nn hk hnn
      obtain ⟨nn, rfl⟩ : ∃ z, nn = z + 1 := ⟨nn - 1, by omega⟩
      rw [lp_X10_crossed_4.eq_2, hc4, if_pos ((o3_le (by omega) (by omega)).mpr (by omega)), show k = s.2.2.2.1 by omega]
    | succ dd ih =>
      intro k nn hk hnn
      obtain ⟨nn, rfl⟩ : ∃ z, nn = z + 1 := ⟨nn - 1, by omega⟩
      rw [lp_X10_crossed_4.eq_2, hc4, if_neg (fun q => by have := (o3_le (by omega) (by omega)).mp q; omega)]
      have := inC k (by omega) (fun u7 => lp_X10_crossed_4 S (fun u9 => some u9) nn u7 (o3 k + (1 : Int32))) s.2.2.2.1 0 FU (ovs s.1 s.2.1 s.2.2.2 k) (by omega) (FU_lt (by omega))
      have e0 : ovs s.1 s.2.1 s.2.2.2 k + cfn (ovb s.1 s.2.1 s.2.2.2 k) 0 = ovs s.1 s.2.1 s.2.2.2 k := Nat.add_zero _
      rw [e0] at this
      refine this.trans ?_
      rw [o3_s]
      exact ih (k + 1) nn (by omega) (by omega)
  have ouM : ∀ dd k nn, k + dd = s.2.2.2.1 → dd < nn → lp_X11_crossed_4 S (fun u9 => some u9) nn (o3 (ovs s.1 s.2.1 s.2.2.2 k)) (o3 k) = some (o3 (ovs s.1 s.2.1 s.2.2.2 s.2.2.2.1)) := by
    intro dd
    induction dd with
    | zero =>
      intro k nn hk hnn
      obtain ⟨nn, rfl⟩ : ∃ z, nn = z + 1 := ⟨nn - 1, by omega⟩
      rw [lp_X11_crossed_4.eq_2, hg4, bd_some, if_pos ((o3_le (by omega) (by omega)).mpr (by omega)), show k = s.2.2.2.1 by omega]
    | succ dd ih =>
      intro k nn hk hnn
      obtain ⟨nn, rfl⟩ : ∃ z, nn = z + 1 := ⟨nn - 1, by omega⟩
      rw [lp_X11_crossed_4.eq_2, hg4, bd_some, if_neg (fun q => by have := (o3_le (by omega) (by omega)).mp q; omega)]
      have := inM k (by omega) (fun u7 => lp_X11_crossed_4 S (fun u9 => some u9) nn u7 (o3 k + (1 : Int32))) s.2.2.2.1 0 FU (ovs s.1 s.2.1 s.2.2.2 k) (by omega) (FU_lt (by omega))
      have e0 : ovs s.1 s.2.1 s.2.2.2 k + cfn (ovb s.1 s.2.1 s.2.2.2 k) 0 = ovs s.1 s.2.1 s.2.2.2 k := Nat.add_zero _
      rw [e0] at this
      refine this.trans ?_
      rw [o3_s]
      exact ih (k + 1) nn (by omega) (by omega)
  exact ⟨_, ouC s.2.2.2.1 0 FU (by omega) (FU_lt (by omega)), ouM s.2.2.2.1 0 FU (by omega) (FU_lt (by omega)), hR0⟩
/-! order() -/
def cbb (E : List St5) (P : Po) (p q : Nat) : Bool := decide (cmg E P q < cmg E P p ∨ (cmg E P q = cmg E P p ∧ q < p))
def odf (E : List St5) (P : Po) (v : Int32) : Nat → Nat → Int32
  | 0, _ => -1
  | d + 1, k => if o3 (cfn (cbb E P k) P.1) = v then o3 k else odf E P v d (k + 1)
theorem t_31 (a1 : Int32) (S : fS) (hR : Rel S) : ∃ r, f_X10_order a1 S = some r ∧ f_X11_order a1 S = some r ∧ Rel S := by
  have hR0 := hR
  obtain ⟨n, s, L, M, hT, ⟨⟨n1, n2, n3, n4, n5, n6⟩, ⟨b1, b2, b3, b4, b5⟩, ⟨m1, m2, m3, m4⟩, d⟩, hL, hM⟩ := hR
  have h12 := n6.1
  have hg4 : gI S 157 158 4 = some (o3 s.2.2.2.1) := (gI_o (k := 4) (by omega) (by omega)).trans (congrArg some m3.1)
  have hc4 : S.1 17 4 = o3 s.2.2.2.1 := b4.1
  have inC : ∀ p, p < s.2.2.2.1 → ∀ dd k nn, k + dd = s.2.2.2.1 → dd < nn → lp_X2_comingBefore_4 17 (o3 p) S (fun u21 => some u21) nn (o3 (cfn (cbb s.2.1 s.2.2.2 p) k)) (o3 k) = some (o3 (cfn (cbb s.2.1 s.2.2.2 p) s.2.2.2.1)) := by
    intro p hp dd
    induction dd with
    | zero =>
      intro k nn hk hnn
      obtain ⟨nn, rfl⟩ : ∃ z, nn = z + 1 := ⟨nn - 1, by omega⟩
      rw [lp_X2_comingBefore_4.eq_2, hc4, if_pos ((o3_le (by omega) (by omega)).mpr (by omega)), show k = s.2.2.2.1 by omega]
    | succ dd ih =>
      intro k nn hk hnn
      obtain ⟨nn, rfl⟩ : ∃ z, nn = z + 1 := ⟨nn - 1, by omega⟩
      have hs : cfn (cbb s.2.1 s.2.2.2 p) (k + 1) = cfn (cbb s.2.1 s.2.2.2 p) k + (if cbb s.2.1 s.2.2.2 p k = true then 1 else 0) := rfl
      obtain ⟨u1, u2, u3⟩ := pc_sent b1 b4 n3 n1 n6 hp
      obtain ⟨w1, w2, w3⟩ := pc_sent b1 b4 n3 n1 n6 (show k < s.2.2.2.1 by omega)
      obtain ⟨x1, x2, x3⟩ := po_b n3 n6 hp
      obtain ⟨y1, y2, y3⟩ := po_b n3 n6 (show k < s.2.2.2.1 by omega)
      have hz : o3 (cfn (cbb s.2.1 s.2.2.2 p) k) + (0 : Int32) = o3 (cfn (cbb s.2.1 s.2.2.2 p) k) := Int32.add_zero _
      rw [lp_X2_comingBefore_4.eq_2, hc4, if_neg (fun q => by have := (o3_le (by omega) (by omega)).mp q; omega), show gI S (17 + 4) 12 (o3 k) = _ from w2, bd_some, show gI S (17 + 4) 12 (o3 p) = _ from u2, bd_some, bd_some, bd_some, hz, o3_s, o3_s]
      by_cases h : cmg s.2.1 s.2.2.2 k < cmg s.2.1 s.2.2.2 p
      · rw [if_pos ((o3_lt (by omega) (by omega)).mpr h), if_neg (show ¬ (1 : Int32) = 0 by decide)]
        rw [if_pos (by unfold cbb; rw [decide_eq_true_eq]; exact Or.inl h)] at hs
        rw [← hs]
        exact ih (k + 1) nn (by omega) (by omega)
      · rw [if_neg (fun z => h ((o3_lt (by omega) (by omega)).mp z))]
        by_cases h' : cmg s.2.1 s.2.2.2 k = cmg s.2.1 s.2.2.2 p
        · rw [if_pos ((o3_inj (by omega) (by omega)).mpr h')]
          by_cases h3 : p ≤ k
          · rw [if_pos ((o3_le (by omega) (by omega)).mpr h3), if_pos rfl]
            rw [if_neg (by unfold cbb; rw [decide_eq_true_eq]; omega)] at hs
            replace hs := hs.trans (Nat.add_zero _)
            rw [← hs]
            exact ih (k + 1) nn (by omega) (by omega)
          · rw [if_neg (fun z => h3 ((o3_le (by omega) (by omega)).mp z)), if_neg (show ¬ (1 : Int32) = 0 by decide)]
            rw [if_pos (by unfold cbb; rw [decide_eq_true_eq]; omega)] at hs
            rw [← hs]
            exact ih (k + 1) nn (by omega) (by omega)
        · rw [if_neg (fun z => h' ((o3_inj (by omega) (by omega)).mp z)), if_pos rfl]
          rw [if_neg (by unfold cbb; rw [decide_eq_true_eq]; omega)] at hs
          replace hs := hs.trans (Nat.add_zero _)
          rw [← hs]
          exact ih (k + 1) nn (by omega) (by omega)
  have inM : ∀ p, p < s.2.2.2.1 → ∀ (K : Int32 → Option Int32) dd k nn, k + dd = s.2.2.2.1 → dd < nn → lp_X11_order_37 a1 (o3 p) S K nn (o3 (cfn (cbb s.2.1 s.2.2.2 p) k)) (o3 k) = K (o3 (cfn (cbb s.2.1 s.2.2.2 p) s.2.2.2.1)) := by
    intro p hp K dd
    induction dd with
    | zero =>
      intro k nn hk hnn
      obtain ⟨nn, rfl⟩ : ∃ z, nn = z + 1 := ⟨nn - 1, by omega⟩
      rw [lp_X11_order_37.eq_2, hg4, bd_some, if_pos ((o3_le (by omega) (by omega)).mpr (by omega)), show k = s.2.2.2.1 by omega]
    | succ dd ih =>
      intro k nn hk hnn
      obtain ⟨nn, rfl⟩ : ∃ z, nn = z + 1 := ⟨nn - 1, by omega⟩
      have hs : cfn (cbb s.2.1 s.2.2.2 p) (k + 1) = cfn (cbb s.2.1 s.2.2.2 p) k + (if cbb s.2.1 s.2.2.2 p k = true then 1 else 0) := rfl
      obtain ⟨u1, u2, u3⟩ := pm_all m1 m3 d n3 n1 n6 hp
      obtain ⟨w1, w2, w3⟩ := pm_all m1 m3 d n3 n1 n6 (show k < s.2.2.2.1 by omega)
      obtain ⟨x1, x2, x3⟩ := po_b n3 n6 hp
      obtain ⟨y1, y2, y3⟩ := po_b n3 n6 (show k < s.2.2.2.1 by omega)
      have hz : o3 (cfn (cbb s.2.1 s.2.2.2 p) k) + (0 : Int32) = o3 (cfn (cbb s.2.1 s.2.2.2 p) k) := Int32.add_zero _
      rw [lp_X11_order_37.eq_2, hg4, bd_some, if_neg (fun q => by have := (o3_le (by omega) (by omega)).mp q; omega), w2, bd_some, u2, bd_some, bd_some, bd_some, hz, o3_s, o3_s]
      by_cases h : cmg s.2.1 s.2.2.2 k < cmg s.2.1 s.2.2.2 p
      · rw [if_pos ((o3_lt (by omega) (by omega)).mpr h)]
        rw [if_pos (by unfold cbb; rw [decide_eq_true_eq]; exact Or.inl h)] at hs
        rw [← hs]
        exact ih (k + 1) nn (by omega) (by omega)
      · rw [if_neg (fun z => h ((o3_lt (by omega) (by omega)).mp z))]
        by_cases h' : cmg s.2.1 s.2.2.2 k = cmg s.2.1 s.2.2.2 p
        · rw [if_pos ((o3_inj (by omega) (by omega)).mpr h')]
          by_cases h3 : p ≤ k
          · rw [if_pos ((o3_le (by omega) (by omega)).mpr h3)]
            rw [if_neg (by unfold cbb; rw [decide_eq_true_eq]; omega)] at hs
            replace hs := hs.trans (Nat.add_zero _)
            rw [← hs]
            exact ih (k + 1) nn (by omega) (by omega)
          · rw [if_neg (fun z => h3 ((o3_le (by omega) (by omega)).mp z))]
            rw [if_pos (by unfold cbb; rw [decide_eq_true_eq]; omega)] at hs
            rw [← hs]
            exact ih (k + 1) nn (by omega) (by omega)
        · rw [if_neg (fun z => h' ((o3_inj (by omega) (by omega)).mp z))]
          rw [if_neg (by unfold cbb; rw [decide_eq_true_eq]; omega)] at hs
          replace hs := hs.trans (Nat.add_zero _)
          rw [← hs]
          exact ih (k + 1) nn (by omega) (by omega)
  have ouC : ∀ dd k nn, k + dd = s.2.2.2.1 → dd < nn → lp_X10_order_24 a1 S (fun _ => some (-1)) nn (o3 k) = some (odf s.2.1 s.2.2.2 a1 dd k) := by
    intro dd
    induction dd with
    | zero =>
      intro k nn hk hnn
      obtain ⟨nn, rfl⟩ : ∃ z, nn = z + 1 := ⟨nn - 1, by omega⟩
      rw [lp_X10_order_24.eq_2, hc4, if_pos ((o3_le (by omega) (by omega)).mpr (by omega))]
      rfl
    | succ dd ih =>
      intro k nn hk hnn
      obtain ⟨nn, rfl⟩ : ∃ z, nn = z + 1 := ⟨nn - 1, by omega⟩
      have hcb : f_X2_comingBefore 17 (o3 k) S = some (o3 (cfn (cbb s.2.1 s.2.2.2 k) s.2.2.2.1)) := inC k (by omega) s.2.2.2.1 0 FU (by omega) (FU_lt (by omega))
      have ho : odf s.2.1 s.2.2.2 a1 (dd + 1) k = if o3 (cfn (cbb s.2.1 s.2.2.2 k) s.2.2.2.1) = a1 then o3 k else odf s.2.1 s.2.2.2 a1 dd (k + 1) := rfl
      rw [lp_X10_order_24.eq_2, hc4, if_neg (fun q => by have := (o3_le (by omega) (by omega)).mp q; omega), hcb, bd_some, ho, o3_s]
      by_cases h : o3 (cfn (cbb s.2.1 s.2.2.2 k) s.2.2.2.1) = a1
      · rw [if_pos h, if_pos h]
      · rw [if_neg h, if_neg h]
        exact ih (k + 1) nn (by omega) (by omega)
  have ouM : ∀ dd k nn, k + dd = s.2.2.2.1 → dd < nn → lp_X11_order_22 a1 S (fun _ => some (-1)) nn (o3 k) = some (odf s.2.1 s.2.2.2 a1 dd k) := by
    intro dd
    induction dd with
    | zero =>
      intro k nn hk hnn
      obtain ⟨nn, rfl⟩ : ∃ z, nn = z + 1 := ⟨nn - 1, by omega⟩
      rw [lp_X11_order_22.eq_2, hg4, bd_some, if_pos ((o3_le (by omega) (by omega)).mpr (by omega))]
      rfl
    | succ dd ih =>
      intro k nn hk hnn
      obtain ⟨nn, rfl⟩ : ∃ z, nn = z + 1 := ⟨nn - 1, by omega⟩
      have ho : odf s.2.1 s.2.2.2 a1 (dd + 1) k = if o3 (cfn (cbb s.2.1 s.2.2.2 k) s.2.2.2.1) = a1 then o3 k else odf s.2.1 s.2.2.2 a1 dd (k + 1) := rfl
      rw [lp_X11_order_22.eq_2, hg4, bd_some, if_neg (fun q => by have := (o3_le (by omega) (by omega)).mp q; omega)]
      refine (inM k (by omega) (fun u31 => if u31 = a1 then some (o3 k) else lp_X11_order_22 a1 S (fun _ => some (-1)) nn (o3 k + 1)) s.2.2.2.1 0 FU (by omega) (FU_lt (by omega))).trans ?_
      rw [ho, o3_s]
      by_cases h : o3 (cfn (cbb s.2.1 s.2.2.2 k) s.2.2.2.1) = a1
      · rw [if_pos h, if_pos h]
      · rw [if_neg h, if_neg h]
        exact ih (k + 1) nn (by omega) (by omega)
  unfold f_X10_order f_X11_order
  rw [hc4, from_o (by omega), hg4, bd_some, bd_some, show (0 : Int64) = Int32.toInt64 0 from rfl, op_in, from_o (by omega), bd_some]
  by_cases h1 : 0 ≤ a1.toInt ∧ a1.toInt < s.2.2.2.1
  · rw [if_pos h1, if_neg (show ¬ (1 : Int32) = 0 by decide), if_neg (show ¬ (1 : Int32) = 0 by decide)]
    exact ⟨_, ouC s.2.2.2.1 0 FU (by omega) (FU_lt (by omega)), ouM s.2.2.2.1 0 FU (by omega) (FU_lt (by omega)), hR0⟩
  · rw [if_neg h1, if_pos rfl, if_pos rfl]
    exact ⟨_, rfl, rfl, hR0⟩
/-! letter() -/
theorem rSc_po {s : Sn} {S T : fS} {P : Po} (h : rSc s S) (hok : okP s.1.length (dst s.2.1) P) (hc : poC T 17 (dst s.2.1) P) (hm : poM (T.1 157) P) (h1 : ∀ a k, 3 < a → a ≤ 16 → T.1 a k = S.1 a k) (h2 : ∀ a k, T.2 a k = S.2 a k) (h3 : 0 ≤ (T.1 3 3).toInt) (h4 : ∀ k, ¬ (k = 4 ∨ 122 ≤ k) → T.1 157 k = S.1 157 k) : rSc (s.1, s.2.1, s.2.2.1, P) T := by
  obtain ⟨⟨n1, n2, n3, n4, n5, n6⟩, ⟨b1, b2, b3, b4, b5⟩, ⟨m1, m2, m3, m4⟩, d⟩ := h
  have h8 := n5.1
  refine ⟨⟨n1, n2, n3, n4, n5, hok⟩, ⟨?_, ?_, ?_, hc, h3⟩, ⟨?_, ?_, hm, ?_⟩, rHm_eq d (fun k => h2 _ k)⟩
  · exact twC_eq b1 (fun a k _ _ => h1 a k (by omega) (by omega)) (fun a k _ _ => h2 a k)
  · exact rWm_eq b2 (fun k => h1 _ k (by omega) (by omega))
  · exact cwC_eq b3 (fun a k _ _ => h1 a k (by omega) (by omega)) (fun k => h2 _ k)
  · exact twM_eq n1 n2 m1 (fun k hk => h4 k (by omega))
  · obtain ⟨p1, p2, p3⟩ := m2
    refine ⟨(h4 2 (by omega)).trans p1, (h4 3 (by omega)).trans p2, fun k hk => ?_⟩
    obtain ⟨q1, q2, q3, q4, q5⟩ := p3 k hk
    have hk' : k < s.2.2.1.1 := hk
    exact ⟨(h4 _ (by omega)).trans q1, (h4 _ (by omega)).trans q2, (h4 _ (by omega)).trans q3, (h4 _ (by omega)).trans q4, (h2 _ _).trans q5⟩
  · show 0 ≤ (T.1 157 5).toInt
    rw [h4 5 (by omega)]; exact m4
theorem t_28 (a1 a2 a3 : Int32) (S : fS) (hR : Rel S) : ∃ r S1 S2, f_X10_letter a1 a2 a3 S = some (r, S1) ∧ f_X11_letter a1 a2 a3 S1 = some (r, S2) ∧ Rel S2 := by
  have hR0 := hR
  obtain ⟨n, s, L, M, hT, hS, hL, hM⟩ := hR
  have hS0 := hS
  obtain ⟨⟨n1, n2, n3, n4, n5, n6⟩, ⟨b1, b2, b3, b4, b5⟩, ⟨m1, m2, m3, m4⟩, d⟩ := hS
  have h12 := n6.1
  have hc4 : S.1 17 4 = o3 s.2.2.2.1 := b4.1
  have fin : ∀ (T : fS) (P : Po), (∀ a k, ¬ (17 ≤ a ∧ a ≤ 21) → ¬ (a = 157 ∧ (k = 4 ∨ 122 ≤ k)) → T.1 a k = S.1 a k) → (∀ a k, T.2 a k = S.2 a k) → okP s.1.length (dst s.2.1) P → poC T 17 (dst s.2.1) P → poM (T.1 157) P → Rel T := fun T P f1 f2 p1 p2 p3 => by
    refine ⟨n, (s.1, s.2.1, s.2.2.1, P), L, M, ?_, rSc_po hS0 p1 p2 p3 (fun a k _ _ => f1 a k (by omega) (by omega)) f2 (by rw [f1 3 3 (by omega) (by omega)]; exact b5) (fun k hk => f1 157 k (by omega) (by omega)), ?_, ?_⟩
    · exact rTp_eq hT (f1 _ _ (by omega) (by omega)) (f1 _ _ (by omega) (by omega)) (fun k => f1 _ _ (by omega) (by omega)) (fun k => f1 _ _ (by omega) (by omega))
    · exact rRu_eq hL (f1 _ _ (by omega) (by omega)) (f1 _ _ (by omega) (by omega)) (fun a k _ _ _ => f1 a k (by omega) (by omega)) (fun a k _ => f1 a k (by omega) (by omega))
    · exact rIm_eq hM (fun a k _ _ => f1 a k (by omega) (by omega)) (fun a k _ _ => f2 a k) (fun k => f1 _ _ (by omega) (by omega)) (fun k => f2 _ k) (fun k => f1 _ _ (by omega) (by omega))
  unfold f_X10_letter
  by_cases h0 : a1 = -1
  · rw [if_pos h0, bd_some]
    refine ⟨0, pI S 17 4 0, pI (pI S 17 4 0) 157 4 0, rfl, ?_, fin _ (0, fun _ => 0, fun _ => 0, fun _ => 0) (fun a k x y => by rw [pI_ne (by omega), pI_ne (by omega)]) (fun _ _ => rfl) ⟨Nat.zero_le _, fun k hk => absurd hk (Nat.not_lt_zero _)⟩ ⟨by rw [pI_ne (by omega), pI_eq]; rfl, fun k hk => absurd hk (Nat.not_lt_zero _)⟩ ⟨by rw [pI_eq]; rfl, fun k hk => absurd hk (Nat.not_lt_zero _)⟩⟩
    unfold f_X11_letter
    rw [if_pos h0, show (4 : Int32) = o3 4 from rfl, sI_o (by omega) (by omega), bd_some]
  · rw [if_neg h0, ci_floor b1.1 (by omega), ci_floor b1.1 (by omega), hour_c, hc4]
    simp only [bd_some]
    /- the reference, in one form -/
    have hm : ∀ T : fS, T.1 157 4 = o3 s.2.2.2.1 → T.1 157 0 = o3 s.1.length → f_X11_letter a1 a2 a3 T = if s.2.2.2.1 = 12 then some (-2, T) else if 0 ≤ a1.toInt ∧ a1.toInt < s.1.length then (if 0 ≤ a2.toInt ∧ a2.toInt < s.1.length then (if ((0 : Nat) : Int) ≤ a3.toInt ∧ a3.toInt ≤ ((9999 : Nat) : Int) then ((f_X11_between a1 a2 T).bind fun q18 => if q18 < (99999 : Int64) then ((gI T 157 158 (4 : Int32)).bind fun a22 => (sI T 157 158 ((122 : Int32) + ((3 : Int32) * a22)) a1).bind fun S25 => (sI S25 157 158 (((122 : Int32) + ((3 : Int32) * a22)) + (1 : Int32)) a2).bind fun S28 => (sI S28 157 158 (((122 : Int32) + ((3 : Int32) * a22)) + (2 : Int32)) a3).bind fun S31 => (gI S31 157 158 (4 : Int32)).bind fun a34 => (sI S31 157 158 (4 : Int32) (a34 + (1 : Int32))).bind fun S37 => (gI S37 157 158 (4 : Int32)).bind fun a40 => some (a40, S37)) else (some ((-2 : Int32), T))) else some (-2, T)) else some (-2, T)) else some (-2, T) := fun T h4 h5 => by
      have hg4 : gI T 157 158 4 = some (o3 s.2.2.2.1) := (gI_o (k := 4) (by omega) (by omega)).trans (congrArg some h4)
      unfold f_X11_letter
      rw [if_neg h0, mi_floor h5 (by omega), mi_floor h5 (by omega), hour_m, hg4]
      simp only [bd_some]
      by_cases z0 : s.2.2.2.1 = 12
      · rw [if_pos z0, if_pos (show o3 s.2.2.2.1 = (12 : Int32) by rw [z0]; rfl)]
      rw [if_neg z0, if_neg (show ¬ o3 s.2.2.2.1 = (12 : Int32) from fun q => z0 ((o3_inj (b := 12) (by omega) (by omega)).mp q))]
      by_cases z1 : 0 ≤ a1.toInt ∧ a1.toInt < s.1.length
      · rw [if_pos z1, if_pos z1, if_neg (show ¬ (1 : Int32) = 0 by decide)]
        by_cases z2 : 0 ≤ a2.toInt ∧ a2.toInt < s.1.length
        · rw [if_pos z2, if_pos z2, if_neg (show ¬ (1 : Int32) = 0 by decide)]
          by_cases z3 : ((0 : Nat) : Int) ≤ a3.toInt ∧ a3.toInt ≤ ((9999 : Nat) : Int)
          · rw [if_pos z3, if_pos z3, if_neg (show ¬ (1 : Int32) = 0 by decide)]
          · rw [if_neg z3, if_neg z3, if_pos rfl]
        · rw [if_neg z2, if_neg z2, if_pos rfl]
      · rw [if_neg z1, if_neg z1, if_pos rfl]
    have no : ∀ (X : Option (Int32 × fS)), X = some (-2, S) → f_X11_letter a1 a2 a3 S = some (-2, S) → ∃ r S1 S2, X = some (r, S1) ∧ f_X11_letter a1 a2 a3 S1 = some (r, S2) ∧ Rel S2 := fun X hX hY => ⟨-2, S, S, hX, hY, hR0⟩
    by_cases h1 : 0 ≤ a1.toInt ∧ a1.toInt < s.1.length
    · rw [if_pos h1, if_neg (show ¬ (1 : Int32) = 0 by decide)]
      by_cases h2 : 0 ≤ a2.toInt ∧ a2.toInt < s.1.length
      · rw [if_pos h2, if_neg (show ¬ (1 : Int32) = 0 by decide)]
        by_cases h3 : ((0 : Nat) : Int) ≤ a3.toInt ∧ a3.toInt ≤ ((9999 : Nat) : Int)
        · rw [if_pos h3, if_neg (show ¬ (1 : Int32) = 0 by decide)]
          by_cases h4 : s.2.2.2.1 = 12
          · rw [if_neg (show ¬ o3 s.2.2.2.1 < (12 : Int32) from fun q => by have := (o3_lt (b := 12) (by omega) (by omega)).mp q; omega)]
            exact no _ rfl (by rw [hm S m3.1 m1.1, if_pos h4])
          · rw [if_pos (show o3 s.2.2.2.1 < (12 : Int32) from (o3_lt (b := 12) (by omega) (by omega)).mpr (by omega))]
            obtain ⟨f, e1, e2⟩ := o3_ex h1.1
            obtain ⟨g, e3, e4⟩ := o3_ex h2.1
            obtain ⟨v, e5, e6⟩ := o3_ex (x := a3) (by omega)
            have hf : f < s.1.length := by omega
            have hg : g < s.1.length := by omega
            rw [e1, e3, ch_btw b2 n1 hf hg, bd_some]
            rcases cwv_cs (E := s.2.1) (a := f) (b := g) with ⟨hu, eu⟩ | ⟨hu, eu⟩
            · rw [eu, if_neg (show ¬ (0 : Int32) ≤ -1 by decide), ← e1, ← e3]
              exact no _ rfl (by rw [hm S m3.1 m1.1, if_neg h4, if_pos h1, if_pos h2, if_pos h3, e1, e3, mh_btw d n1 hf hg, bd_some, hu, if_neg (show ¬ o6 99999 < (99999 : Int64) by decide)])
            · rw [eu, if_pos (o3_0le (by omega))]
              have hsend : f_X2_send 17 (o3 f) (o3 g) a3 (a3 + o3 (dst s.2.1 f g)) S = some (pI (pI (pI (pI (pI S 18 s.2.2.2.1 (o3 f)) 19 s.2.2.2.1 (o3 g)) 20 s.2.2.2.1 (o3 v)) 21 s.2.2.2.1 (o3 (v + dst s.2.1 f g))) 17 4 (o3 (s.2.2.2.1 + 1))) := by
                unfold f_X2_send
                rw [hc4, if_neg (show ¬ (12 : Int32) ≤ o3 s.2.2.2.1 from fun q => by have := (o3_le (a := 12) (by omega) (by omega)).mp q; omega), e5, o3_add, sI_o (by omega) (by omega), bd_some, pI_ne (by omega), hc4, sI_o (by omega) (by omega), bd_some, pI_ne (by omega), pI_ne (by omega), hc4, sI_o (by omega) (by omega), bd_some, pI_ne (by omega), pI_ne (by omega), pI_ne (by omega), hc4, sI_o (by omega) (by omega), bd_some, pI_ne (by omega), pI_ne (by omega), pI_ne (by omega), pI_ne (by omega), hc4, bd_some, o3_s]
              rw [hsend, bd_some]
              generalize hS1 : pI (pI (pI (pI (pI S 18 s.2.2.2.1 (o3 f)) 19 s.2.2.2.1 (o3 g)) 20 s.2.2.2.1 (o3 v)) 21 s.2.2.2.1 (o3 (v + dst s.2.1 f g))) 17 4 (o3 (s.2.2.2.1 + 1)) = S1
              have f1 : ∀ a k, ¬ (17 ≤ a ∧ a ≤ 21) → S1.1 a k = S.1 a k := fun a k x => by rw [← hS1, pI_ne (by omega), pI_ne (by omega), pI_ne (by omega), pI_ne (by omega), pI_ne (by omega)]
              have f2 : ∀ a k, S1.2 a k = S.2 a k := fun a k => by rw [← hS1]; rfl
              have g4 : S1.1 157 4 = o3 s.2.2.2.1 := (f1 _ _ (by omega)).trans m3.1
              have gg4 : gI S1 157 158 4 = some (o3 s.2.2.2.1) := (gI_o (k := 4) (by omega) (by omega)).trans (congrArg some g4)
              have e122 : (122 : Int32) + ((3 : Int32) * o3 s.2.2.2.1) = o3 (122 + 3 * s.2.2.2.1) := by rw [show (122 : Int32) = o3 122 from rfl, show (3 : Int32) = o3 3 from rfl, o3_mul, o3_add]
              have e123 : o3 (122 + 3 * s.2.2.2.1) + (1 : Int32) = o3 (122 + 3 * s.2.2.2.1 + 1) := o3_s
              have e124 : o3 (122 + 3 * s.2.2.2.1) + (2 : Int32) = o3 (122 + 3 * s.2.2.2.1 + 2) := by rw [show (2 : Int32) = o3 2 from rfl, o3_add]
              refine ⟨_, S1, pI (pI (pI (pI S1 157 (122 + 3 * s.2.2.2.1) (o3 f)) 157 (122 + 3 * s.2.2.2.1 + 1) (o3 g)) 157 (122 + 3 * s.2.2.2.1 + 2) (o3 v)) 157 4 (o3 (s.2.2.2.1 + 1)), rfl, ?_, fin _ (s.2.2.2.1 + 1, udN s.2.2.2.2.1 s.2.2.2.1 f, udN s.2.2.2.2.2.1 s.2.2.2.1 g, udN s.2.2.2.2.2.2 s.2.2.2.1 v) (fun a k x y => by rw [pI_ne (by omega), pI_ne (by omega), pI_ne (by omega), pI_ne (by omega), f1 a k x]) (fun a k => f2 a k) ⟨?_, fun k hk => ?_⟩ ⟨?_, fun k hk => ?_⟩ ⟨?_, fun k hk => ?_⟩⟩
              · rw [← e1, ← e3, hm S1 g4 ((f1 _ _ (by omega)).trans m1.1), if_neg h4, if_pos h1, if_pos h2, if_pos h3, e1, e3, mh_btw (S := S1) (rHm_eq d (fun k => f2 _ k)) n1 hf hg, bd_some, if_pos (show o6 (dst s.2.1 f g) < (99999 : Int64) from (o6_lt (b := 99999) (by omega) (by omega)).mpr hu), gg4, bd_some, e122, e123, e124, e5, sI_o (by omega) (by omega), bd_some, sI_o (by omega) (by omega), bd_some, sI_o (by omega) (by omega), bd_some, show (4 : Int32) = o3 4 from rfl, gI_o (by omega) (by omega), bd_some, pI_ne (by omega), pI_ne (by omega), pI_ne (by omega), g4, o3_s, sI_o (by omega) (by omega), bd_some, gI_o (by omega) (by omega), bd_some, pI_eq, ← hS1, pI_eq]
              · show s.2.2.2.1 + 1 ≤ 12; omega
              · have hk : k < s.2.2.2.1 + 1 := hk
                show udN _ _ _ k < _ ∧ udN _ _ _ k < _ ∧ udN _ _ _ k ≤ _ ∧ dst s.2.1 (udN _ _ _ k) (udN _ _ _ k) < _
                by_cases e : k = s.2.2.2.1
                · subst e; rw [udN_eq, udN_eq, udN_eq]; exact ⟨hf, hg, by omega, hu⟩
                · rw [udN_ne e, udN_ne e, udN_ne e]; exact n6.2 k (by omega)
              · rw [pI_ne (by omega), pI_ne (by omega), pI_ne (by omega), pI_ne (by omega), ← hS1, pI_eq]
              · have hk : k < s.2.2.2.1 + 1 := hk
                show _ = o3 (udN _ _ _ k) ∧ _ = o3 (udN _ _ _ k) ∧ _ = o3 (udN _ _ _ k) ∧ _ = o3 (udN _ _ _ k + dst s.2.1 (udN _ _ _ k) (udN _ _ _ k))
                rw [pI_ne (by omega), pI_ne (by omega), pI_ne (by omega), pI_ne (by omega), pI_ne (by omega), pI_ne (by omega), pI_ne (by omega), pI_ne (by omega), pI_ne (by omega), pI_ne (by omega), pI_ne (by omega), pI_ne (by omega), pI_ne (by omega), pI_ne (by omega), pI_ne (by omega), pI_ne (by omega), ← hS1]
                by_cases e : k = s.2.2.2.1
                · subst e
                  rw [udN_eq, udN_eq, udN_eq]
                  refine ⟨?_, ?_, ?_, ?_⟩
                  · rw [pI_ne (by omega), pI_ne (by omega), pI_ne (by omega), pI_ne (by omega), pI_eq]
                  · rw [pI_ne (by omega), pI_ne (by omega), pI_ne (by omega), pI_eq]
                  · rw [pI_ne (by omega), pI_ne (by omega), pI_eq]
                  · rw [pI_ne (by omega), pI_eq]
                · rw [udN_ne e, udN_ne e, udN_ne e]
                  obtain ⟨c1, c2, c3, c4⟩ := b4.2 k (by omega)
                  refine ⟨?_, ?_, ?_, ?_⟩
                  · rw [pI_ne (by omega), pI_ne (by omega), pI_ne (by omega), pI_ne (by omega), pI_ne (by omega)]; exact c1
                  · rw [pI_ne (by omega), pI_ne (by omega), pI_ne (by omega), pI_ne (by omega), pI_ne (by omega)]; exact c2
                  · rw [pI_ne (by omega), pI_ne (by omega), pI_ne (by omega), pI_ne (by omega), pI_ne (by omega)]; exact c3
                  · rw [pI_ne (by omega), pI_ne (by omega), pI_ne (by omega), pI_ne (by omega), pI_ne (by omega)]; exact c4
              · rw [pI_eq]
              · have hk : k < s.2.2.2.1 + 1 := hk
                show _ = o3 (udN _ _ _ k) ∧ _ = o3 (udN _ _ _ k) ∧ _ = o3 (udN _ _ _ k)
                by_cases e : k = s.2.2.2.1
                · subst e
                  rw [udN_eq, udN_eq, udN_eq]
                  refine ⟨?_, ?_, ?_⟩
                  · rw [pI_ne (by omega), pI_ne (by omega), pI_ne (by omega), pI_eq]
                  · rw [pI_ne (by omega), pI_ne (by omega), pI_eq]
                  · rw [pI_ne (by omega), pI_eq]
                · rw [udN_ne e, udN_ne e, udN_ne e]
                  obtain ⟨c1, c2, c3⟩ := m3.2 k (by omega)
                  refine ⟨?_, ?_, ?_⟩
                  · rw [pI_ne (by omega), pI_ne (by omega), pI_ne (by omega), pI_ne (by omega), f1 _ _ (by omega)]; exact c1
                  · rw [pI_ne (by omega), pI_ne (by omega), pI_ne (by omega), pI_ne (by omega), f1 _ _ (by omega)]; exact c2
                  · rw [pI_ne (by omega), pI_ne (by omega), pI_ne (by omega), pI_ne (by omega), f1 _ _ (by omega)]; exact c3
        · rw [if_neg h3, if_pos rfl]
          refine no _ rfl ?_
          rw [hm S m3.1 m1.1]
          split <;> rfl
      · rw [if_neg h2, if_pos rfl]
        refine no _ rfl ?_
        rw [hm S m3.1 m1.1]
        split <;> rfl
    · rw [if_neg h1, if_pos rfl]
      refine no _ rfl ?_
      rw [hm S m3.1 m1.1]
      split <;> rfl
end
