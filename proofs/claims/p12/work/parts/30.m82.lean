section
/-! meetings(): the reference goes on -/
def eMm (S T : fS) : Prop := (∀ a k, ¬ (a = 157 ∧ (k = 3 ∨ (90 ≤ k ∧ k < 122))) → ¬ (a = 145 ∧ k = 23) → T.1 a k = S.1 a k) ∧ (∀ a k, a ≠ 155 → a ≠ 156 → a ≠ 158 → ¬ (a = 145 ∧ k = 37) → T.2 a k = S.2 a k)
theorem eMm.rf {S : fS} : eMm S S := ⟨fun _ _ _ _ => rfl, fun _ _ _ _ _ _ => rfl⟩
theorem eMm.tr {S T U : fS} (h : eMm S T) (g : eMm T U) : eMm S U := ⟨fun a k x y => (g.1 a k x y).trans (h.1 a k x y), fun a k x y z w => (g.2 a k x y z w).trans (h.2 a k x y z w)⟩
theorem eMm_I {S T : fS} (h : eI S T) : eMm S T := ⟨h.1, fun a k x y z _ => h.2 a k x y z⟩
theorem eMm_p {S : fS} {x : Int64} : eMm S (pL S 145 37 x) := ⟨fun _ _ _ _ => rfl, fun a k _ _ _ w => pL_ne w⟩
def mJ (F : List (Nat × Nat)) (E : List St5) (n h : Nat) (T : fS) : Prop := twM (T.1 157) F E ∧ (∃ x, x < 2147483648 ∧ T.2 145 37 = o6 x) ∧ ∃ C : Cw, C.1 = n ∧ C.2.1 = h ∧ okD F.length E C ∧ cwM (T.1 157) (T.2 158) C
section MMT
variable {F : List (Nat × Nat)} {E : List St5}
theorem mJ_p {n h : Nat} {T : fS} {x : Nat} (hx : x < 2147483648) (hI : mJ F E n h T) : mJ F E n h (pL T 145 37 (o6 x)) := by
  obtain ⟨a, b, C, c1, c2, c3, c4⟩ := hI
  exact ⟨a, ⟨x, hx, pL_eq⟩, C, c1, c2, c3, c4⟩
theorem mJ_I {n h : Nat} {T U : fS} {C : Cw} (hm : F.length ≤ 10) (hl : E.length ≤ 12) (hI : mJ F E n h T) {h' : Nat} (c1 : C.1 = n) (c2 : C.2.1 = h') (c3 : okD F.length E C) (c4 : cwM (U.1 157) (U.2 158) C) (e : eI T U) : mJ F E n h' U := by
  obtain ⟨a, ⟨x, x1, x2⟩, _⟩ := hI
  exact ⟨twM_eq hm hl a (fun k hk => e.1 _ _ (by omega) (by omega)), ⟨x, x1, (e.2 _ _ (by omega) (by omega) (by omega)).trans x2⟩, C, c1, c2, c3, c4⟩
theorem m_draw {S : fS} {x : Nat} (hx : x < 2147483648) (h : S.2 145 37 = o6 x) : ∃ a y, a < 2147483648 ∧ y < 2147483648 ∧ f_X11_draw S = some (o6 a, pL S 145 37 (o6 y)) := by
  unfold f_X11_draw
  have hb : x * 1103515245 + 12345 < 9223372036854775808 := by omega
  rw [h, show (1103515245 : Int64) = o6 1103515245 from rfl, show (12345 : Int64) = o6 12345 from rfl, show (2147483648 : Int64) = o6 2147483648 from rfl, show (65536 : Int64) = o6 65536 from rfl, o6_mul, o6_add, o6_rL hb (by omega) (by omega), bd_some, bd_some, pL_eq]
  have hy : (x * 1103515245 + 12345) % 2147483648 < 2147483648 := Nat.mod_lt _ (by omega)
  generalize (x * 1103515245 + 12345) % 2147483648 = y at hy
  rw [o6_dL (by omega) (by omega) (by omega), bd_some]
  exact ⟨y / 65536, y, by omega, hy, rfl⟩
/-- how many stairs from k on are at f -/
def ca (E : List St5) (f : Nat) : Nat → Nat → Nat
  | 0, _ => 0
  | d + 1, k => (if oeI (E.getD k d5) f < 0 then 0 else 1) + ca E f d (k + 1)
theorem ca_le {f : Nat} : ∀ d k, ca E f d k ≤ d := by
  intro d
  induction d with
  | zero => intro k; exact Nat.le_refl 0
  | succ d ih =>
    intro k
    have := ih (k + 1)
    show (if oeI (E.getD k d5) f < 0 then 0 else 1) + ca E f d (k + 1) ≤ d + 1
    split <;> omega
theorem mm_30 {T : fS} {p1 : Int32} (hT : twM (T.1 157) F E) (hE : ∀ q ∈ E, okS F.length q) (hm : F.length ≤ 10) (hl : E.length ≤ 12) {f : Nat} (hf : f < F.length) {K : Int32 → fS → Option fS} : ∀ d k nn c, k + d = E.length → d < nn → lp_X11_wanders_30 p1 (o3 f) K nn (o3 c) (o3 k) T = K (o3 (c + ca E f d k)) T := by
  have h1 : gI T 157 158 1 = some (o3 E.length) := (gI_o (k := 1) (by omega) (by omega)).trans (congrArg some hT.2.1)
  intro d
  induction d with
  | zero =>
    intro k nn c hk hnn
    obtain ⟨nn, rfl⟩ : ∃ z, nn = z + 1 := ⟨nn - 1, by omega⟩
    rw [lp_X11_wanders_30.eq_2, h1, bd_some, if_pos ((o3_le (by omega) (by omega)).mpr (by omega))]
    rfl
  | succ d ih =>
    intro k nn c hk hnn
    obtain ⟨nn, rfl⟩ : ∃ z, nn = z + 1 := ⟨nn - 1, by omega⟩
    rw [lp_X11_wanders_30.eq_2, h1, bd_some, if_neg (fun q => by have := (o3_le (by omega) (by omega)).mp q; omega), mh_other hT hE hm hl (by omega) (by omega), bd_some, o3_s, o3_s]
    have e : ca E f (d + 1) k = (if oeI (E.getD k d5) f < 0 then 0 else 1) + ca E f d (k + 1) := rfl
    rw [e]
    by_cases z : oeI (E.getD k d5) f < 0
    · rw [if_pos z, if_pos z, show o3 c + (0 : Int32) = o3 c from by rw [show (0 : Int32) = o3 0 from rfl, o3_add]; rfl, ih (k + 1) nn c (by omega) (by omega), Nat.zero_add]
    · rw [if_neg z, if_neg z, ih (k + 1) nn (c + 1) (by omega) (by omega), Nat.add_assoc]
theorem mm_83 {T : fS} {p1 : Int32} (hT : twM (T.1 157) F E) (hE : ∀ q ∈ E, okS F.length q) (hm : F.length ≤ 10) (hl : E.length ≤ 12) {f : Nat} (hf : f < F.length) {K : Int32 → fS → Option fS} : ∀ d k nn j, k + d = E.length → d < nn → j < ca E f d k → ∃ i, i < E.length ∧ ¬ oeI (E.getD i d5) f < 0 ∧ lp_X11_wanders_83 p1 (o3 f) K nn (o3 j) (o3 k) T = K (o3 i) T := by
  intro d
  induction d with
  | zero => intro k nn j _ _ h; exact absurd h (Nat.not_lt_zero _)
  | succ d ih =>
    intro k nn j hk hnn h
    obtain ⟨nn, rfl⟩ : ∃ z, nn = z + 1 := ⟨nn - 1, by omega⟩
    have hc := ca_le (E := E) (f := f) d (k + 1)
    have e : ca E f (d + 1) k = (if oeI (E.getD k d5) f < 0 then 0 else 1) + ca E f d (k + 1) := rfl
    rw [e] at h
    rw [lp_X11_wanders_83.eq_2, mh_other hT hE hm hl (by omega) (by omega), bd_some, bd_some, o3_s]
    by_cases z : oeI (E.getD k d5) f < 0
    · rw [if_pos z] at h
      rw [if_pos z, if_pos z, show o3 j - (0 : Int32) = o3 j from by rw [show (0 : Int32) = o3 0 from rfl, o3_sub (by omega)]; rfl]
      exact ih (k + 1) nn j (by omega) (by omega) (by omega)
    · rw [if_neg z] at h
      rw [if_neg z, if_neg z]
      by_cases zj : j = 0
      · rw [if_pos (show o3 j ≤ (0 : Int32) by rw [zj]; decide)]
        exact ⟨k, by omega, z, rfl⟩
      · rw [if_neg (show ¬ o3 j ≤ (0 : Int32) from fun q => zj (by have := (o3_le (b := 0) (by omega) (by omega)).mp q; omega)), show o3 j - (1 : Int32) = o3 (j - 1) from by rw [show (1 : Int32) = o3 1 from rfl, o3_sub (by omega)]]
        exact ih (k + 1) nn (j - 1) (by omega) (by omega) (by omega)
theorem mm_wan {n h : Nat} (hE : ∀ q ∈ E, okS F.length q) (hm : F.length ≤ 10) (hl : E.length ≤ 12) {k : Nat} (hk : k < n) {T : fS} (hI : mJ F E n h T) : ∃ U, f_X11_wanders (o3 k) T = some U ∧ mJ F E n h U ∧ eMm T U := by
  have hI0 := hI
  obtain ⟨a, ⟨x, x1, x2⟩, C, c1, c2, c3, c4⟩ := hI
  have h8 := c3.1
  have th : f_X11_thingOf (o3 k) 0 T = some (C.2.2.1 k) := (mw_thing (a := 0) (by omega) (by omega)).trans (congrArg some (c4.2.2 k (by omega)).1)
  unfold f_X11_wanders
  rw [th, bd_some]
  by_cases z : C.2.2.1 k < 0
  · rw [if_pos z]; exact ⟨T, rfl, hI0, eMm.rf⟩
  · rw [if_neg z]
    obtain ⟨f, f1, f2⟩ := okT_nn (c3.2.2 k (by omega)).1 hm z
    obtain ⟨q, y, q1, y1, dr⟩ := m_draw x1 x2
    have hI1 := mJ_p y1 hI0
    rw [dr, bd_some]
    dsimp only
    rw [show (4 : Int64) = o6 4 from rfl, o6_rL (by omega) (by omega) (by omega), bd_some]
    by_cases z4 : o6 (q % 4) = (0 : Int64)
    · rw [if_pos z4, f2, show (0 : Int32) = o3 0 from rfl, mm_30 hI1.1 hE hm hl f1 E.length 0 FU 0 (by omega) (FU_lt (by omega)), Nat.zero_add]
      have hc := ca_le (E := E) (f := f) E.length 0
      by_cases zc : o3 (ca E f E.length 0) = o3 0
      · rw [if_pos zc]; exact ⟨_, rfl, hI1, eMm_p⟩
      · rw [if_neg zc]
        have hc0 : ca E f E.length 0 ≠ 0 := fun e => zc (by rw [e])
        obtain ⟨q', y', q1', y1', dr'⟩ := m_draw (S := pL T 145 37 (o6 y)) y1 pL_eq
        have hI2 := mJ_p y1' hI1
        rw [dr', bd_some]
        dsimp only
        have hmd : q' % ca E f E.length 0 < ca E f E.length 0 := Nat.mod_lt _ (by omega)
        rw [o6_of3 (by omega), o6_rL (by omega) (by omega) hc0, bd_some, o6_to3 (by omega)]
        obtain ⟨i, i1, i2, i3⟩ := mm_83 (p1 := o3 k) hI2.1 hE hm hl f1 (K := fun u43 S44 => (f_X11_setsOff (o3 k) u43 S44).bind fun q46 => some q46) E.length 0 FU (q' % ca E f E.length 0) (by omega) (FU_lt (by omega)) (Nat.mod_lt _ (by omega))
        have i2' : oeI (E.getD i d5) f ≠ -1 := fun e => i2 (by rw [e]; decide)
        obtain ⟨U, u1, u2, u3⟩ := mh_off (S := pL (pL T 145 37 (o6 y)) 145 37 (o6 y')) c4 c3.1 hI2.1 hE hm hl (th := k) (k := i) (a := f) (by omega) i1 f1 f2
        refine ⟨U, i3.trans ?_, mJ_I hm hl hI2 (C := cOff C k i (oeI (E.getD i d5) f)) c1 c2 (oe_ok c3 hE i1 i2') u2 u3, (eMm_p.tr eMm_p).tr (eMm_I u3)⟩
        show (f_X11_setsOff (o3 k) (o3 i) _).bind _ = _
        rw [u1, bd_some]
    · rw [if_neg z4]; exact ⟨_, rfl, hI1, eMm_p⟩
theorem mm_105 {n h : Nat} {p1 p2 p3 p4 p5 p6 p7 p8 p9 p10 : Int32} (hE : ∀ q ∈ E, okS F.length q) (hm : F.length ≤ 10) (hl : E.length ≤ 12) {K : fS → Option (Int32 × fS)} : ∀ d k nn T, k + d = n → d < nn → mJ F E n h T → ∃ U, lp_X11_meetings_105 p1 p2 p3 p4 p5 p6 p7 p8 p9 p10 K nn (o3 k) T = K U ∧ mJ F E n h U ∧ eMm T U := by
  intro d
  induction d with
  | zero =>
    intro k nn T hk hnn hI
    obtain ⟨nn, rfl⟩ : ∃ z, nn = z + 1 := ⟨nn - 1, by omega⟩
    refine ⟨T, ?_, hI, eMm.rf⟩
    obtain ⟨a, b, C, c1, c2, c3, c4⟩ := hI
    have h8 := c3.1
    rw [lp_X11_meetings_105.eq_2, show gI T 157 158 2 = some (o3 C.1) from (gI_o (k := 2) (by omega) (by omega)).trans (congrArg some c4.1), bd_some, if_pos ((o3_le (by omega) (by omega)).mpr (by omega))]
  | succ d ih =>
    intro k nn T hk hnn hI
    obtain ⟨nn, rfl⟩ : ∃ z, nn = z + 1 := ⟨nn - 1, by omega⟩
    have hI0 := hI
    obtain ⟨a, b, C, c1, c2, c3, c4⟩ := hI
    have h8 := c3.1
    obtain ⟨U, u1, u2, u3⟩ := mm_wan hE hm hl (k := k) (by omega) hI0
    obtain ⟨V, v1, v2, v3⟩ := ih (k + 1) nn U (by omega) (by omega) u2
    refine ⟨V, ?_, v2, u3.tr v3⟩
    rw [lp_X11_meetings_105.eq_2, show gI T 157 158 2 = some (o3 C.1) from (gI_o (k := 2) (by omega) (by omega)).trans (congrArg some c4.1), bd_some, if_neg (fun q => by have := (o3_le (by omega) (by omega)).mp q; omega), u1, bd_some, o3_s]
    exact v1
theorem mm_95 {n : Nat} {p3 p5 p6 p7 p8 : Int32} (hF : ∀ q ∈ F, okF q) (hE : ∀ q ∈ E, okS F.length q) (hm : F.length ≤ 10) (hl : E.length ≤ 12) {i j m : Nat} (hi : i < n) (hj : j < n) (hm2 : m < 2147483648) {K : Int32 → fS → Option (Int32 × fS)} : ∀ d k nn (c : Int32) h T, k + d = m → d < nn → h + d ≤ 10199 → mJ F E n h T → ∃ r U, lp_X11_meetings_95 (o3 i) (o3 j) p3 (o3 m) p5 p6 p7 p8 K nn c (o3 k) T = K r U ∧ (∃ h', mJ F E n h' U) ∧ eMm T U := by
  intro d
  induction d with
  | zero =>
    intro k nn c h T hk hnn hh hI
    obtain ⟨nn, rfl⟩ : ∃ z, nn = z + 1 := ⟨nn - 1, by omega⟩
    refine ⟨c, T, ?_, ⟨h, hI⟩, eMm.rf⟩
    rw [lp_X11_meetings_95.eq_2, if_pos ((o3_le (by omega) (by omega)).mpr (by omega))]
  | succ d ih =>
    intro k nn c h T hk hnn hh hI
    obtain ⟨nn, rfl⟩ : ∃ z, nn = z + 1 := ⟨nn - 1, by omega⟩
    have h8 : n ≤ 8 := by
      obtain ⟨_, _, C, c1, _, c3, _⟩ := hI
      rw [← c1]; exact c3.1
    rw [lp_X11_meetings_95.eq_2, if_neg (fun q => by have := (o3_le (by omega) (by omega)).mp q; omega), o3_s]
    obtain ⟨U, u1, u2, u3⟩ := mm_105 (p1 := o3 i) (p2 := o3 j) (p3 := p3) (p4 := o3 m) (p5 := p5) (p6 := p6) (p7 := p7) (p8 := p8) (p9 := c) (p10 := o3 k) hE hm hl (K := (fun S40 => (f_X11_ageAll  S40).bind fun q42 =>
    (f_X11_thingOf (o3 i) (0 : Int32) q42).bind fun q45 =>
    if q45 < (0 : Int32) then (lp_X11_meetings_95 (o3 i) (o3 j) p3 (o3 m) p5 p6 p7 p8 K nn (c + (0 : Int32)) (o3 (k + 1)) q42) else
    ((f_X11_thingOf (o3 i) (0 : Int32) q42).bind fun q49 =>
    (f_X11_thingOf (o3 j) (0 : Int32) q42).bind fun q52 =>
    if q49 = q52 then (lp_X11_meetings_95 (o3 i) (o3 j) p3 (o3 m) p5 p6 p7 p8 K nn (c + (1 : Int32)) (o3 (k + 1)) q42) else
    (lp_X11_meetings_95 (o3 i) (o3 j) p3 (o3 m) p5 p6 p7 p8 K nn (c + (0 : Int32)) (o3 (k + 1)) q42)))) n 0 FU T (by omega) (FU_lt (by omega)) hI
    have u2' := u2
    obtain ⟨a, b, C, c1, c2, c3, c4⟩ := u2
    obtain ⟨V, v1, v2, v3⟩ := m_pass hF hE hm hl c3 c4 a
    have hIV : mJ F E n (h + 1) V := mJ_I hm hl u2' (C := cPs F E C) c1 (by show C.2.1 + 1 = h + 1; omega) (cPs_ok c3 hF hE hm hl (by omega)) v2 v3
    have t1 : f_X11_thingOf (o3 i) 0 V = some _ := mw_thing (a := 0) (by omega) (by omega)
    have t2 : f_X11_thingOf (o3 j) 0 V = some _ := mw_thing (a := 0) (by omega) (by omega)
    have fin : ∀ c', ∃ r W, lp_X11_meetings_95 (o3 i) (o3 j) p3 (o3 m) p5 p6 p7 p8 K nn c' (o3 (k + 1)) V = K r W ∧ (∃ h', mJ F E n h' W) ∧ eMm T W := fun c' => by
      obtain ⟨r', W, y1, y2, y3⟩ := ih (k + 1) nn c' (h + 1) V (by omega) (by omega) (by omega) hIV
      exact ⟨r', W, y1, y2, (u3.tr (eMm_I v3)).tr y3⟩
    have u1 := (show lp_X11_meetings_105 (o3 i) (o3 j) p3 (o3 m) p5 p6 p7 p8 c (o3 k) _ FU (0 : Int32) T = _ from u1)
    rw [u1, v1, bd_some, t1, bd_some, bd_some, t2, bd_some]
    split
    · exact fin _
    · split
      · exact fin _
      · exact fin _
theorem mk_2 {K : fS → Option fS} : ∀ d k nn (S : fS), k + d = 158 → d < nn → (∀ j, j < k → S.1 159 j = S.1 157 j) → ∃ T, lp_X11_keeps_2 K nn (o3 k) S = K T ∧ (∀ j, j < 158 → T.1 159 j = S.1 157 j) ∧ (∀ a j, a ≠ 159 → T.1 a j = S.1 a j) ∧ T.2 = S.2 := by
  intro d
  induction d with
  | zero =>
    intro k nn S hk hnn h
    obtain ⟨nn, rfl⟩ : ∃ z, nn = z + 1 := ⟨nn - 1, by omega⟩
    rw [lp_X11_keeps_2.eq_2, if_pos (show (158 : Int32) ≤ o3 k from (o3_le (a := 158) (by omega) (by omega)).mpr (by omega))]
    exact ⟨S, rfl, fun j hj => h j (by omega), fun _ _ _ => rfl, rfl⟩
  | succ d ih =>
    intro k nn S hk hnn h
    obtain ⟨nn, rfl⟩ : ∃ z, nn = z + 1 := ⟨nn - 1, by omega⟩
    rw [lp_X11_keeps_2.eq_2, if_neg (show ¬ (158 : Int32) ≤ o3 k from fun q => by have := (o3_le (a := 158) (by omega) (by omega)).mp q; omega), gI_o (by omega) (by omega), bd_some, sI_o (by omega) (by omega), bd_some, o3_s]
    obtain ⟨T, t1, t2, t3, t4⟩ := ih (k + 1) nn (pI S 159 k (S.1 157 k)) (by omega) (by omega) (fun j hj => by
      rw [pI_ne (a := 159) (b := 157) (by omega)]
      by_cases e : j = k
      · rw [e, pI_eq]
      · rw [pI_ne (by omega)]; exact h j (by omega))
    exact ⟨T, t1, fun j hj => by rw [t2 j hj, pI_ne (by omega)], fun a j ha => by rw [t3 a j ha, pI_ne (by omega)], t4⟩
theorem mk_29 {K : fS → Option fS} : ∀ d k nn (S : fS), k + d = 8 → d < nn → (∀ j, j < k → S.2 160 j = S.2 158 j) → ∃ T, lp_X11_keeps_29 K nn (o3 k) S = K T ∧ (∀ j, j < 8 → T.2 160 j = S.2 158 j) ∧ (∀ a j, a ≠ 160 → T.2 a j = S.2 a j) ∧ T.1 = S.1 := by
  intro d
  induction d with
  | zero =>
    intro k nn S hk hnn h
    obtain ⟨nn, rfl⟩ : ∃ z, nn = z + 1 := ⟨nn - 1, by omega⟩
    rw [lp_X11_keeps_29.eq_2, if_pos (show (8 : Int32) ≤ o3 k from (o3_le (a := 8) (by omega) (by omega)).mpr (by omega))]
    exact ⟨S, rfl, fun j hj => h j (by omega), fun _ _ _ => rfl, rfl⟩
  | succ d ih =>
    intro k nn S hk hnn h
    obtain ⟨nn, rfl⟩ : ∃ z, nn = z + 1 := ⟨nn - 1, by omega⟩
    rw [lp_X11_keeps_29.eq_2, if_neg (show ¬ (8 : Int32) ≤ o3 k from fun q => by have := (o3_le (a := 8) (by omega) (by omega)).mp q; omega), gL_o (by omega) (by omega), bd_some, sL_o (by omega) (by omega), bd_some, o3_s]
    obtain ⟨T, t1, t2, t3, t4⟩ := ih (k + 1) nn (pL S 160 k (S.2 158 k)) (by omega) (by omega) (fun j hj => by
      rw [pL_ne (a := 160) (b := 158) (by omega)]
      by_cases e : j = k
      · rw [e, pL_eq]
      · rw [pL_ne (by omega)]; exact h j (by omega))
    exact ⟨T, t1, fun j hj => by rw [t2 j hj, pL_ne (by omega)], fun a j ha => by rw [t3 a j ha, pL_ne (by omega)], t4⟩
theorem mb_2 {K : fS → Option fS} : ∀ d k nn (S : fS), k + d = 158 → d < nn → (∀ j, j < k → S.1 157 j = S.1 159 j) → ∃ T, lp_X11_putsBack_2 K nn (o3 k) S = K T ∧ (∀ j, j < 158 → T.1 157 j = S.1 159 j) ∧ (∀ a j, a ≠ 157 → T.1 a j = S.1 a j) ∧ T.2 = S.2 := by
  intro d
  induction d with
  | zero =>
    intro k nn S hk hnn h
    obtain ⟨nn, rfl⟩ : ∃ z, nn = z + 1 := ⟨nn - 1, by omega⟩
    rw [lp_X11_putsBack_2.eq_2, if_pos (show (158 : Int32) ≤ o3 k from (o3_le (a := 158) (by omega) (by omega)).mpr (by omega))]
    exact ⟨S, rfl, fun j hj => h j (by omega), fun _ _ _ => rfl, rfl⟩
  | succ d ih =>
    intro k nn S hk hnn h
    obtain ⟨nn, rfl⟩ : ∃ z, nn = z + 1 := ⟨nn - 1, by omega⟩
    rw [lp_X11_putsBack_2.eq_2, if_neg (show ¬ (158 : Int32) ≤ o3 k from fun q => by have := (o3_le (a := 158) (by omega) (by omega)).mp q; omega), gI_o (by omega) (by omega), bd_some, sI_o (by omega) (by omega), bd_some, o3_s]
    obtain ⟨T, t1, t2, t3, t4⟩ := ih (k + 1) nn (pI S 157 k (S.1 159 k)) (by omega) (by omega) (fun j hj => by
      rw [pI_ne (a := 157) (b := 159) (by omega)]
      by_cases e : j = k
      · rw [e, pI_eq]
      · rw [pI_ne (by omega)]; exact h j (by omega))
    exact ⟨T, t1, fun j hj => by rw [t2 j hj, pI_ne (by omega)], fun a j ha => by rw [t3 a j ha, pI_ne (by omega)], t4⟩
theorem mb_29 {K : fS → Option fS} : ∀ d k nn (S : fS), k + d = 8 → d < nn → (∀ j, j < k → S.2 158 j = S.2 160 j) → ∃ T, lp_X11_putsBack_29 K nn (o3 k) S = K T ∧ (∀ j, j < 8 → T.2 158 j = S.2 160 j) ∧ (∀ a j, a ≠ 158 → T.2 a j = S.2 a j) ∧ T.1 = S.1 := by
  intro d
  induction d with
  | zero =>
    intro k nn S hk hnn h
    obtain ⟨nn, rfl⟩ : ∃ z, nn = z + 1 := ⟨nn - 1, by omega⟩
    rw [lp_X11_putsBack_29.eq_2, if_pos (show (8 : Int32) ≤ o3 k from (o3_le (a := 8) (by omega) (by omega)).mpr (by omega))]
    exact ⟨S, rfl, fun j hj => h j (by omega), fun _ _ _ => rfl, rfl⟩
  | succ d ih =>
    intro k nn S hk hnn h
    obtain ⟨nn, rfl⟩ : ∃ z, nn = z + 1 := ⟨nn - 1, by omega⟩
    rw [lp_X11_putsBack_29.eq_2, if_neg (show ¬ (8 : Int32) ≤ o3 k from fun q => by have := (o3_le (a := 8) (by omega) (by omega)).mp q; omega), gL_o (by omega) (by omega), bd_some, sL_o (by omega) (by omega), bd_some, o3_s]
    obtain ⟨T, t1, t2, t3, t4⟩ := ih (k + 1) nn (pL S 158 k (S.2 160 k)) (by omega) (by omega) (fun j hj => by
      rw [pL_ne (a := 158) (b := 160) (by omega)]
      by_cases e : j = k
      · rw [e, pL_eq]
      · rw [pL_ne (by omega)]; exact h j (by omega))
    exact ⟨T, t1, fun j hj => by rw [t2 j hj, pL_ne (by omega)], fun a j ha => by rw [t3 a j ha, pL_ne (by omega)], t4⟩
theorem m_keep {S : fS} : ∃ T, f_X11_keeps S = some T ∧ (∀ j, j < 158 → T.1 159 j = S.1 157 j) ∧ (∀ j, j < 8 → T.2 160 j = S.2 158 j) ∧ (∀ a j, a ≠ 159 → T.1 a j = S.1 a j) ∧ (∀ a j, a ≠ 160 → T.2 a j = S.2 a j) := by
  obtain ⟨T, t1, t2, t3, t4⟩ := mk_2 (K := fun S8 => lp_X11_keeps_29 (fun S17 => some S17) FU (0 : Int32) S8) 158 0 FU S (by omega) (FU_lt (by omega)) (fun j hj => absurd hj (Nat.not_lt_zero _))
  obtain ⟨U, u1, u2, u3, u4⟩ := mk_29 (K := fun S17 => some S17) 8 0 FU T (by omega) (FU_lt (by omega)) (fun j hj => absurd hj (Nat.not_lt_zero _))
  exact ⟨U, t1.trans u1, fun j hj => by rw [u4]; exact t2 j hj, fun j hj => by rw [u2 j hj, t4], fun a j ha => by rw [u4]; exact t3 a j ha, fun a j ha => by rw [u3 a j ha, t4]⟩
theorem m_putb {S : fS} : ∃ T, f_X11_putsBack S = some T ∧ (∀ j, j < 158 → T.1 157 j = S.1 159 j) ∧ (∀ j, j < 8 → T.2 158 j = S.2 160 j) ∧ (∀ a j, a ≠ 157 → T.1 a j = S.1 a j) ∧ (∀ a j, a ≠ 158 → T.2 a j = S.2 a j) := by
  obtain ⟨T, t1, t2, t3, t4⟩ := mb_2 (K := fun S8 => lp_X11_putsBack_29 (fun S17 => some S17) FU (0 : Int32) S8) 158 0 FU S (by omega) (FU_lt (by omega)) (fun j hj => absurd hj (Nat.not_lt_zero _))
  obtain ⟨U, u1, u2, u3, u4⟩ := mb_29 (K := fun S17 => some S17) 8 0 FU T (by omega) (FU_lt (by omega)) (fun j hj => absurd hj (Nat.not_lt_zero _))
  exact ⟨U, t1.trans u1, fun j hj => by rw [u4]; exact t2 j hj, fun j hj => by rw [u2 j hj, t4], fun a j ha => by rw [u4]; exact t3 a j ha, fun a j ha => by rw [u3 a j ha, t4]⟩
/-- kept, and what stays as it was -/
def eMk (S T : fS) : Prop := (∀ j, j < 158 → T.1 157 j = S.1 157 j) ∧ (∀ j, j < 8 → T.2 158 j = S.2 158 j) ∧ (∀ j, j < 158 → T.1 159 j = S.1 157 j) ∧ (∀ j, j < 8 → T.2 160 j = S.2 158 j) ∧ (∀ a k, a ≠ 157 → a ≠ 159 → ¬ (a = 145 ∧ k = 23) → T.1 a k = S.1 a k) ∧ (∀ a k, a ≠ 155 → a ≠ 156 → a ≠ 158 → a ≠ 160 → ¬ (a = 145 ∧ k = 37) → T.2 a k = S.2 a k)
theorem cwM_k {I J : Nat → Int32} {A B : Nat → Int64} {C : Cw} (h8 : C.1 ≤ 8) (h : cwM I A C) (h1 : ∀ k, k < 158 → J k = I k) (h2 : ∀ k, k < 8 → B k = A k) : cwM J B C := by
  refine ⟨(h1 _ (by omega)).trans h.1, (h1 _ (by omega)).trans h.2.1, fun k hk => ?_⟩
  obtain ⟨a, b, c, d, e⟩ := h.2.2 k hk
  exact ⟨(h1 _ (by omega)).trans a, (h1 _ (by omega)).trans b, (h1 _ (by omega)).trans c, (h1 _ (by omega)).trans d, (h2 _ (by omega)).trans e⟩
theorem mm_83r {S : fS} {n h : Nat} {p5 : Int32} (hF : ∀ q ∈ F, okF q) (hE : ∀ q ∈ E, okS F.length q) (hm : F.length ≤ 10) (hl : E.length ≤ 12) {i j m r : Nat} (hi : i < n) (hj : j < n) (hm2 : m ≤ 200) (hr : r < 2147483648) (h9 : h ≤ 9999) {C : Cw} (c1 : C.1 = n) (c2 : C.2.1 = h) (c3 : okD F.length E C) (c4 : cwM (S.1 157) (S.2 158) C) (c5 : twM (S.1 157) F E) {K : Int32 → Int32 → fS → Option (Int32 × fS)} : ∀ d k nn (x y : Int32) T, k + d = r → d < nn → (∃ x, x < 2147483648 ∧ T.2 145 37 = o6 x) → eMk S T → ∃ x' y' U, lp_X11_meetings_83 (o3 i) (o3 j) (o3 r) (o3 m) p5 K nn x y (o3 k) T = K x' y' U ∧ eMk S U := by
  intro d
  induction d with
  | zero =>
    intro k nn x y T hk hnn hx hT
    obtain ⟨nn, rfl⟩ : ∃ z, nn = z + 1 := ⟨nn - 1, by omega⟩
    rw [lp_X11_meetings_83.eq_2, if_pos ((o3_le (by omega) (by omega)).mpr (by omega))]
    exact ⟨x, y, T, rfl, hT⟩
  | succ d ih =>
    intro k nn x y T hk hnn hx hT
    obtain ⟨nn, rfl⟩ : ∃ z, nn = z + 1 := ⟨nn - 1, by omega⟩
    have h8 := c3.1
    rw [lp_X11_meetings_83.eq_2, if_neg (fun q => by have := (o3_le (by omega) (by omega)).mp q; omega), o3_s]
    have hI : mJ F E n h T := ⟨twM_eq hm hl c5 (fun k hk => hT.1 k (by omega)), hx, C, c1, c2, c3, cwM_k c3.1 c4 hT.1 hT.2.1⟩
    obtain ⟨u, U, u1, ⟨h', u2⟩, u3⟩ := mm_95 (p3 := o3 r) (p5 := p5) (p6 := x) (p7 := y) (p8 := o3 k) hF hE hm hl hi hj (m := m) (by omega) (K := (fun u56 S57 => if u56 ≤ (0 : Int32) then ((f_X11_putsBack  S57).bind fun q60 =>
    lp_X11_meetings_83 (o3 i) (o3 j) (o3 r) (o3 m) p5 K nn (x + u56) (y + (0 : Int32)) (o3 (k + 1)) q60) else
    ((f_X11_putsBack  S57).bind fun q63 =>
    lp_X11_meetings_83 (o3 i) (o3 j) (o3 r) (o3 m) p5 K nn (x + u56) (y + (1 : Int32)) (o3 (k + 1)) q63))) m 0 FU 0 h T (by omega) (FU_lt (by omega)) (by omega) hI
    obtain ⟨V, v1, v2, v3, v4, v5⟩ := m_putb (S := U)
    have k1 : ∀ j, j < 158 → U.1 159 j = S.1 157 j := fun j hj => (u3.1 _ _ (by omega) (by omega)).trans (hT.2.2.1 j hj)
    have k2 : ∀ j, j < 8 → U.2 160 j = S.2 158 j := fun j hj => (u3.2 _ _ (by omega) (by omega) (by omega) (by omega)).trans (hT.2.2.2.1 j hj)
    have hV : eMk S V := ⟨fun j hj => (v2 j hj).trans (k1 j hj), fun j hj => (v3 j hj).trans (k2 j hj), fun j hj => (v4 _ _ (by omega)).trans (k1 j hj), fun j hj => (v5 _ _ (by omega)).trans (k2 j hj), fun a k x y z => (v4 a k x).trans ((u3.1 a k (by omega) z).trans (hT.2.2.2.2.1 a k x y z)), fun a k x y z w q => (v5 a k z).trans ((u3.2 a k x y z q).trans (hT.2.2.2.2.2 a k x y z w q))⟩
    have hxV : ∃ x, x < 2147483648 ∧ V.2 145 37 = o6 x := by
      obtain ⟨x, x1, x2⟩ := u2.2.1
      exact ⟨x, x1, (v5 _ _ (by omega)).trans x2⟩
    have u1 := (show lp_X11_meetings_95 (o3 i) (o3 j) (o3 r) (o3 m) p5 x y (o3 k) _ FU (0 : Int32) (0 : Int32) T = _ from u1)
    rw [u1, v1, bd_some, bd_some]
    split
    · exact ih (k + 1) nn _ _ V (by omega) (by omega) hxV hV
    · exact ih (k + 1) nn _ _ V (by omega) (by omega) hxV hV
end MMT
end
