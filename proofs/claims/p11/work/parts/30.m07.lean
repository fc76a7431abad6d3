section
/-! the reference: an hour -/
def eI (S T : fS) : Prop := (∀ a k, ¬ (a = 157 ∧ (k = 3 ∨ (90 ≤ k ∧ k < 122))) → ¬ (a = 145 ∧ k = 23) → T.1 a k = S.1 a k) ∧ (∀ a k, a ≠ 155 → a ≠ 156 → a ≠ 158 → T.2 a k = S.2 a k)
theorem eI.rf {S : fS} : eI S S := ⟨fun _ _ _ _ => rfl, fun _ _ _ _ _ => rfl⟩
theorem eI.tr {S T U : fS} (h : eI S T) (g : eI T U) : eI S U := ⟨fun a k x y => (g.1 a k x y).trans (h.1 a k x y), fun a k x y z => (g.2 a k x y z).trans (h.2 a k x y z)⟩
theorem eI_J {S T : fS} (h : eJ S T) : eI S T := ⟨fun a k _ y => h.1 a k y, fun a k x _ _ => h.2 a k x⟩
theorem eI_W {S T : fS} (h : eW S T) : eI S T := ⟨fun a k _ _ => by rw [h.1], fun a k _ y _ => h.2 a k y⟩
theorem twM_eq {I J : Nat → Int32} {F : List (Nat × Nat)} {E : List St5} (hF : F.length ≤ 10) (hE : E.length ≤ 12) (h : twM I F E) (h1 : ∀ k, k < 2 ∨ (10 ≤ k ∧ k < 90) → J k = I k) : twM J F E := by
  obtain ⟨a, b, c, d⟩ := h
  refine ⟨(h1 _ (by omega)).trans a, (h1 _ (by omega)).trans b, fun k hk => ?_, fun k hk => ?_⟩
  · obtain ⟨e1, e2⟩ := c k hk
    exact ⟨(h1 _ (by omega)).trans e1, (h1 _ (by omega)).trans e2⟩
  · obtain ⟨e1, e2, e3, e4, e5⟩ := d k hk
    exact ⟨(h1 _ (by omega)).trans e1, (h1 _ (by omega)).trans e2, (h1 _ (by omega)).trans e3, (h1 _ (by omega)).trans e4, (h1 _ (by omega)).trans e5⟩
theorem rHm_eq {S T : fS} {m : Nat} {w : Mx} (h : rHm S m w) (h1 : ∀ k, T.2 161 k = S.2 161 k) : rHm T m w := fun a b ha hb => (h1 _).trans (h a b ha hb)
theorem cdM_eq {S T : fS} {x : Nat} {L : List Cl} (h : cdM S x L) (h1 : ∀ a k, a = 147 ∨ (a = 148 ∧ k = x) ∨ a = 149 ∨ a = 150 → T.1 a k = S.1 a k) : cdM T x L := by
  obtain ⟨a, b, c, d, e, f⟩ := h
  exact ⟨clM_eq a (h1 _ _ (by omega)) (fun k _ => h1 _ _ (by omega)), b, (h1 _ _ (by omega)).trans c, d, e, fun k hk => (h1 _ _ (by omega)).trans (f k hk)⟩
section MHR
variable {S : fS} {F : List (Nat × Nat)} {E : List St5} {C : Cw}
theorem mh_stair (hT : twM (S.1 157) F E) (hl : E.length ≤ 12) {k : Nat} (hk : k < E.length) : f_X11_stairOf (o3 k) (o3 0) S = some (o3 (E.getD k d5).1) ∧ f_X11_stairOf (o3 k) (o3 1) S = some (o3 (E.getD k d5).2.1) ∧ f_X11_stairOf (o3 k) (o3 2) S = some (o3 (E.getD k d5).2.2.1) ∧ f_X11_stairOf (o3 k) (o3 3) S = some (o3 (E.getD k d5).2.2.2.1) ∧ f_X11_stairOf (o3 k) (o3 4) S = some (o3 (E.getD k d5).2.2.2.2) := by
  obtain ⟨e1, e2, e3, e4, e5⟩ := hT.2.2.2 k hk
  have key : ∀ a, a < 5 → f_X11_stairOf (o3 k) (o3 a) S = some (S.1 157 (30 + 5 * k + a)) := fun a ha => by
    unfold f_X11_stairOf
    rw [show (30 : Int32) = o3 30 from rfl, show (5 : Int32) = o3 5 from rfl, o3_mul, o3_add, o3_add, gI_o (by omega) (by omega), bd_some]
  rw [key 0 (by omega), key 1 (by omega), key 2 (by omega), key 3 (by omega), key 4 (by omega)]
  exact ⟨by rw [Nat.add_zero, e1], by rw [← e2], by rw [← e3], by rw [← e4], by rw [← e5]⟩
theorem mh_other (hT : twM (S.1 157) F E) (hE : ∀ q ∈ E, okS F.length q) (hm : F.length ≤ 10) (hl : E.length ≤ 12) {k a : Nat} (hk : k < E.length) (ha : a < 2147483648) : f_X11_otherEnd (o3 k) (o3 a) S = some (oeI (E.getD k d5) a) := by
  obtain ⟨s1, s2, _⟩ := hE _ (gd_mem (d := d5) hk)
  obtain ⟨e1, e2, _⟩ := mh_stair hT hl hk
  have e1 : f_X11_stairOf (o3 k) 0 S = some (o3 (E.getD k d5).1) := e1
  have e2 : f_X11_stairOf (o3 k) 1 S = some (o3 (E.getD k d5).2.1) := e2
  unfold f_X11_otherEnd oeI
  rw [e1, bd_some, e2, bd_some, bd_some, bd_some]
  by_cases h : (E.getD k d5).1 = a
  · rw [if_pos ((o3_inj (by omega) ha).mpr h), if_pos h]
  · rw [if_neg (fun q => h ((o3_inj (by omega) ha).mp q)), if_neg h]
    by_cases g : (E.getD k d5).2.1 = a
    · rw [if_pos ((o3_inj (by omega) ha).mpr g), if_pos g]
    · rw [if_neg (fun q => g ((o3_inj (by omega) ha).mp q)), if_neg g]
theorem mh_btw {m : Nat} (hW : rHm S m (dst E)) (hm : m ≤ 10) {a b : Nat} (ha : a < m) (hb : b < m) : f_X11_between (o3 a) (o3 b) S = some (o6 (dst E a b)) := by
  unfold f_X11_between
  rw [show (10 : Int32) = o3 10 from rfl, o3_mul, o3_add, gL_o (by omega) (by omega), bd_some, hW a b ha hb]
def fsJ (E : List St5) (a b : Nat) : Int32 := match fS1 E a b with
  | some k => o3 k
  | none => -2
theorem mh_next (hT : twM (S.1 157) F E) (hW : rHm S F.length (dst E)) (hE : ∀ q ∈ E, okS F.length q) (hm : F.length ≤ 10) (hl : E.length ≤ 12) {a b : Nat} (ha : a < F.length) (hb : b < F.length) : f_X11_nextStair (o3 a) (o3 b) S = some (fsJ E a b) := by
  have h9 := dst_9 (E := E) a b
  unfold f_X11_nextStair fsJ
  by_cases hab : a = b
  · rw [if_pos ((o3_inj (by omega) (by omega)).mpr hab)]
    unfold fS1
    rw [if_pos (Or.inl hab)]
  · rw [if_neg (fun q => hab ((o3_inj (by omega) (by omega)).mp q)), mh_btw hW hm ha hb, bd_some]
    by_cases h : dst E a b < 99999
    · rw [if_pos (show o6 (dst E a b) < (99999 : Int64) from (o6_lt (b := 99999) (by omega) (by omega)).mpr h)]
      obtain ⟨j, j1, j2, j3, j4⟩ := fS1_ex hE hm hab h
      rw [j1]
      dsimp only
      have key : ∀ d k nn, d < nn → k + d ≤ E.length → fsf E (dst E) a b d k = some j → lp_X11_nextStair_23 (o3 a) (o3 b) S (fun u23 => some u23) nn (o3 k) = some (o3 j) := by
        intro d
        induction d with
        | zero => intro k nn _ _ q; exact nomatch q
        | succ d ih =>
          intro k nn hnn hkd q
          obtain ⟨nn, rfl⟩ : ∃ z, nn = z + 1 := ⟨nn - 1, by omega⟩
          have hkl : k < E.length := by omega
          have hq := hE _ (gd_mem (d := d5) hkl)
          have h9 := hq.2.2.2.2.1
          have e3 : f_X11_stairOf (o3 k) 2 S = some (o3 (E.getD k d5).2.2.1) := (mh_stair hT hl hkl).2.2.1
          rw [show fsf E (dst E) a b (d + 1) k = if hk (E.getD k d5) (dst E) a b then some k else fsf E (dst E) a b d (k + 1) from rfl] at q
          rw [lp_X11_nextStair_23.eq_2, mh_other hT hE hm hl hkl (by omega), bd_some, o3_s]
          rcases oe_or (a := a) hq hm with ⟨o, o1, o2, o3'⟩ | ⟨o2, n1, n2⟩
          · have ho9 := dst_9 (E := E) o b
            rw [o2, if_neg (o3_nn (by omega)), e3, bd_some, bd_some, mh_btw hW hm o1 hb, bd_some, mh_btw hW hm ha hb, bd_some, o6_of3 (by omega), o6_add]
            have heq : o6 ((E.getD k d5).2.2.1 + dst E o b) = o6 (dst E a b) ↔ hk (E.getD k d5) (dst E) a b := by
              rw [o6_inj (by omega) (by omega)]
              constructor
              · intro z
                rcases o3' with ⟨w1, w2⟩ | ⟨w1, w2, w3⟩
                · exact Or.inl ⟨w1, by rw [← w2]; omega, by rw [← w2]; exact z⟩
                · exact Or.inr ⟨w1, w2, by rw [← w3]; omega, by rw [← w3]; exact z⟩
              · intro z
                rcases z with ⟨q1, _, q2⟩ | ⟨q1, q2, _, q3⟩
                · rcases o3' with ⟨_, w⟩ | ⟨w, _⟩
                  · rw [w]; exact q2
                  · exact absurd q1 w
                · rcases o3' with ⟨w, _⟩ | ⟨_, _, w⟩
                  · exact absurd w q1
                  · rw [w]; exact q3
            by_cases hx : hk (E.getD k d5) (dst E) a b
            · rw [if_pos hx] at q
              obtain rfl := Option.some.inj q
              rw [if_pos (heq.mpr hx)]
            · rw [if_neg hx] at q
              rw [if_neg (fun z => hx (heq.mp z))]
              exact ih (k + 1) nn (by omega) (by omega) q
          · rw [if_neg (fun z => by
              rcases z with ⟨q1, _⟩ | ⟨_, q2, _⟩
              · exact n1 q1
              · exact n2 q2)] at q
            rw [o2, if_pos (show (-1 : Int32) < 0 by decide)]
            exact ih (k + 1) nn (by omega) (by omega) q
      exact key E.length 0 FU (FU_lt (by omega)) (by omega) j2
    · rw [if_neg (show ¬ o6 (dst E a b) < (99999 : Int64) from fun q => h ((o6_lt (b := 99999) (by omega) (by omega)).mp q))]
      unfold fS1
      rw [if_pos (Or.inr (by omega))]
theorem mh_off (hC : cwM (S.1 157) (S.2 158) C) (h8 : C.1 ≤ 8) (hT : twM (S.1 157) F E) (hE : ∀ q ∈ E, okS F.length q) (hm : F.length ≤ 10) (hl : E.length ≤ 12) {th k a : Nat} (hth : th < C.1) (hk : k < E.length) (ha : a < F.length) (hp : C.2.2.1 th = o3 a) : ∃ T, f_X11_setsOff (o3 th) (o3 k) S = some T ∧ cwM (T.1 157) (T.2 158) (cOff C th k (oeI (E.getD k d5) a)) ∧ eI S T := by
  obtain ⟨k1, k2, k3, k4, k5⟩ := hC.2.2 th hth
  unfold f_X11_setsOff
  have e90 : (90 : Int32) + ((4 : Int32) * o3 th) = o3 (90 + 4 * th) := by rw [show (90 : Int32) = o3 90 from rfl, show (4 : Int32) = o3 4 from rfl, o3_mul, o3_add]
  have e91 : o3 (90 + 4 * th) + (1 : Int32) = o3 (90 + 4 * th + 1) := o3_s
  have e92 : o3 (90 + 4 * th) + (2 : Int32) = o3 (90 + 4 * th + 2) := by rw [show (2 : Int32) = o3 2 from rfl, o3_add]
  have e93 : o3 (90 + 4 * th) + (3 : Int32) = o3 (90 + 4 * th + 3) := by rw [show (3 : Int32) = o3 3 from rfl, o3_add]
  rw [e90, e91, e92, e93, gI_o (by omega) (by omega), bd_some, k1, hp, mh_other hT hE hm hl hk (by omega), bd_some, sI_o (by omega) (by omega), bd_some, sI_o (by omega) (by omega), bd_some, sI_o (by omega) (by omega), bd_some, sI_o (by omega) (by omega), bd_some]
  refine ⟨_, rfl, ⟨?_, ?_, fun j hj => ?_⟩, fun b j x y => ?_, fun _ _ _ _ _ => rfl⟩
  · rw [pI_ne (by omega), pI_ne (by omega), pI_ne (by omega), pI_ne (by omega)]; exact hC.1
  · rw [pI_ne (by omega), pI_ne (by omega), pI_ne (by omega), pI_ne (by omega)]; exact hC.2.1
  · obtain ⟨j1, j2, j3, j4, j5⟩ := hC.2.2 j hj
    have hj8 : j < C.1 := hj
    show _ = udN _ th _ j ∧ _ = udN _ th _ j ∧ _ = udN _ th _ j ∧ _ = udN _ th _ j ∧ _
    by_cases e : j = th
    · subst e
      rw [udN_eq, udN_eq, udN_eq, udN_eq]
      refine ⟨?_, ?_, ?_, ?_, j5⟩
      · rw [pI_ne (by omega), pI_ne (by omega), pI_eq]
      · rw [pI_ne (by omega), pI_eq]
      · rw [pI_eq]
      · rw [pI_ne (by omega), pI_ne (by omega), pI_ne (by omega), pI_eq]
    · rw [udN_ne e, udN_ne e, udN_ne e, udN_ne e]
      refine ⟨?_, ?_, ?_, ?_, j5⟩
      · rw [pI_ne (by omega), pI_ne (by omega), pI_ne (by omega), pI_ne (by omega)]; exact j1
      · rw [pI_ne (by omega), pI_ne (by omega), pI_ne (by omega), pI_ne (by omega)]; exact j2
      · rw [pI_ne (by omega), pI_ne (by omega), pI_ne (by omega), pI_ne (by omega)]; exact j3
      · rw [pI_ne (by omega), pI_ne (by omega), pI_ne (by omega), pI_ne (by omega)]; exact j4
  · rw [pI_ne (by omega), pI_ne (by omega), pI_ne (by omega), pI_ne (by omega)]
theorem m_sent {x th : Nat} {Q : List Cl} (hx : x < 6) (hC : cwM (S.1 157) (S.2 158) C) (hT : twM (S.1 157) F E) (hF : ∀ q ∈ F, okF q) (h8 : C.1 ≤ 8) (h9 : C.2.1 ≤ 10199) (h10 : F.length ≤ 10) (hth : th < C.1) {f : Nat} (hf : f < F.length) (hp : C.2.2.1 th = o3 f) (hD : cdM S x Q) : ∃ T, f_X11_sent (o3 x) (o3 th) S = some (gl (wd F C th) Q, T) ∧ (∀ a k, ¬ (a = 145 ∧ k = 23) → T.1 a k = S.1 a k) ∧ (∀ a k, a ≠ 155 → a ≠ 156 → T.2 a k = S.2 a k) := by
  obtain ⟨T1, a1, a2, a3⟩ := m_words hC hT hF h8 h9 h10 hth hf hp
  unfold f_X11_sent
  rw [a1, bd_some]
  have hD1 : cdM T1 x ([] ++ Q) := cdM_eq hD (fun a k _ => by rw [a2.1])
  obtain ⟨T, b1, b2⟩ := mk_sent (W := wd F C th) hx a3 Q [] FU T1 hD1 eJ.rf (FU_lt (by have := hD.2.1; omega))
  exact ⟨T, b1, fun a k h => by rw [b2.1 a k h, a2.1], fun a k h h' => by rw [b2.2 a k h, a2.2 a k h']⟩
theorem mF_o (hT : S.1 157 0 = o3 F.length) (hm : F.length ≤ 10) {v : Int32} : f_X11_isFloor v S = some (if 0 ≤ v.toInt ∧ v.toInt < F.length then 1 else 0) := by
  unfold f_X11_isFloor
  by_cases h : v < 0
  · rw [if_pos h, if_neg (by rw [ni_lt, ni_0] at h; omega)]
  · rw [if_neg h, show (0 : Int32) = o3 0 from rfl, gI_o (by omega) (by omega), bd_some, hT]
    rw [ni_lt, ni_0] at h
    by_cases g : v.toInt < F.length
    · rw [if_neg (by rw [ni_le, o3_int (by omega)]; omega), if_pos ⟨by omega, g⟩]
    · rw [if_pos (by rw [ni_le, o3_int (by omega)]; omega), if_neg (fun q => g q.2)]
theorem mh_obey {x : Nat} {Q : List Cl} (hx : x < 6) (hF : ∀ q ∈ F, okF q) (hE : ∀ q ∈ E, okS F.length q) (hm : F.length ≤ 10) (hl : E.length ≤ 12) (hQ : okRu Q) {K : fS → Option fS} : ∀ d k nn (S : fS), k + d = C.1 → d < nn → okD F.length E C → cwM (S.1 157) (S.2 158) (cOb F E Q C k) → twM (S.1 157) F E → rHm S F.length (dst E) → cdM S x Q → ∃ T, lp_X11_hour_2 (o3 x) K nn (o3 k) S = K T ∧ cwM (T.1 157) (T.2 158) (cOb F E Q C C.1) ∧ eI S T := by
  intro d
  induction d with
  | zero =>
    intro k nn S hk hnn hC hS hT hW hD
    obtain ⟨nn, rfl⟩ : ∃ z, nn = z + 1 := ⟨nn - 1, by omega⟩
    obtain ⟨o1, o2, o4⟩ := cOb_ok (Q := Q) hC hE hm k (by omega)
    have h8 := hC.1
    rw [lp_X11_hour_2.eq_2, show (2 : Int32) = o3 2 from rfl, gI_o (by omega) (by omega), bd_some, hS.1, o2, if_pos ((o3_le (by omega) (by omega)).mpr (by omega))]
    rw [show k = C.1 by omega] at hS
    exact ⟨S, rfl, hS, eI.rf⟩
  | succ d ih =>
    intro k nn S hk hnn hC hS hT hW hD
    obtain ⟨nn, rfl⟩ : ∃ z, nn = z + 1 := ⟨nn - 1, by omega⟩
    obtain ⟨o1, o2, o4⟩ := cOb_ok (Q := Q) hC hE hm k (by omega)
    have h8 := hC.1
    have h9 := hC.2.1
    have hs : cOb F E Q C (k + 1) = cOb1 F E Q (cOb F E Q C k) k := rfl
    generalize hCk : cOb F E Q C k = Ck at hS o1 o2 o4 hs
    obtain ⟨k1, k2, k3, k4, k5⟩ := hS.2.2 k (by omega)
    have hth0 : ∀ U : fS, f_X11_thingOf (o3 k) 0 U = some (U.1 157 (90 + 4 * k)) := fun U => mw_thing (S := U) (a := 0) (by omega) (by omega)
    rw [lp_X11_hour_2.eq_2, show (2 : Int32) = o3 2 from rfl, gI_o (by omega) (by omega), bd_some, hS.1, o2, if_neg (fun q => by have := (o3_le (by omega) (by omega)).mp q; omega), if_neg (o3_nn (by omega)), hth0, bd_some, k1, o3_s]
    unfold cOb1 at hs
    by_cases h0 : Ck.2.2.1 k < 0
    · rw [if_pos h0] at hs
      rw [if_neg (show ¬ (0 : Int32) ≤ Ck.2.2.1 k by rw [ni_lt] at h0; rw [ni_le]; omega)]
      exact ih (k + 1) nn S (by omega) (by omega) hC (by rw [hs]; exact hS) hT hW hD
    · rw [if_neg h0] at hs
      rw [if_pos (show (0 : Int32) ≤ Ck.2.2.1 k by rw [ni_lt] at h0; rw [ni_le]; omega)]
      obtain ⟨f, f1, f2⟩ := okT_nn (o1.2.2 k (by omega)).1 hm h0
      obtain ⟨T1, t1, t2, t3⟩ := m_sent (C := Ck) (th := k) hx hS hT hF (by omega) (by omega) hm (by omega) f1 f2 hD
      have e157 : T1.1 157 = S.1 157 := funext fun j => t2 157 j (by omega)
      have e158 : T1.2 158 = S.2 158 := funext fun j => t3 158 j (by omega) (by omega)
      have hS1 : cwM (T1.1 157) (T1.2 158) Ck := by rw [e157, e158]; exact hS
      have hT1 : twM (T1.1 157) F E := by rw [e157]; exact hT
      have hW1 : rHm T1 F.length (dst E) := rHm_eq hW (fun j => t3 _ j (by omega) (by omega))
      have hD1 : cdM T1 x Q := cdM_eq hD (fun a j _ => t2 a j (by omega))
      have hE1 : eI S T1 := ⟨fun a j _ y => t2 a j y, fun a j y z _ => t3 a j y z⟩
      rw [t1, bd_some]
      dsimp only
      rw [mF_o (F := F) hT1.1 hm, bd_some]
      by_cases hg : 0 ≤ (gl (wd F Ck k) Q).toInt ∧ (gl (wd F Ck k) Q).toInt < F.length
      · rw [if_pos hg] at hs
        rw [if_pos hg, if_neg (show ¬ (1 : Int32) = 0 by decide), hth0, bd_some, (hS1.2.2 k (by omega)).1, f2]
        rw [f2, o3_nat (by omega)] at hs
        obtain ⟨g, g1, g2⟩ := o3_ex hg.1
        rw [g1, mh_next hT1 hW1 hE hm hl f1 (by omega), bd_some]
        rw [g1, o3_nat (by omega)] at hs
        unfold fsJ
        cases hfs : fS1 E f g with
        | none =>
          rw [hfs] at hs
          dsimp only at hs ⊢
          rw [if_pos (show (-2 : Int32) < 0 by decide)]
          obtain ⟨T, a1, a2, a3⟩ := ih (k + 1) nn T1 (by omega) (by omega) hC (by rw [hs]; exact hS1) hT1 hW1 hD1
          exact ⟨T, a1, a2, hE1.tr a3⟩
        | some s =>
          rw [hfs] at hs
          dsimp only at hs ⊢
          unfold fS1 at hfs
          split at hfs
          · exact nomatch hfs
          · obtain ⟨x', y, z⟩ := fsf_pr _ _ _ hfs
            have hsl : s < E.length := by omega
            rw [if_neg (o3_nn (by omega))]
            obtain ⟨T2, b1, b2, b3⟩ := mh_off hS1 (by omega) hT1 hE hm hl (th := k) (k := s) (a := f) (by omega) hsl f1 f2
            rw [b1, bd_some]
            obtain ⟨T, a1, a2, a3⟩ := ih (k + 1) nn T2 (by omega) (by omega) hC (by rw [hs]; exact b2) (twM_eq hm hl hT1 (fun j hj => b3.1 157 j (by omega) (by omega))) (rHm_eq hW1 (fun j => b3.2 _ j (by omega) (by omega) (by omega))) (cdM_eq hD1 (fun a j _ => b3.1 a j (by omega) (by omega)))
            exact ⟨T, a1, a2, (hE1.tr b3).tr a3⟩
      · rw [if_neg hg] at hs
        rw [if_neg hg, if_pos rfl, if_pos (show -o3 2 < (0 : Int32) by decide)]
        obtain ⟨T, a1, a2, a3⟩ := ih (k + 1) nn T1 (by omega) (by omega) hC (by rw [hs]; exact hS1) hT1 hW1 hD1
        exact ⟨T, a1, a2, hE1.tr a3⟩
end MHR
end
section
/-! the reference: an hour passes; hours -/
def rowM (S : fS) (C : Cw) (k : Nat) : Prop := S.1 157 (90 + 4 * k) = C.2.2.1 k ∧ S.1 157 (90 + 4 * k + 1) = C.2.2.2.1 k ∧ S.1 157 (90 + 4 * k + 2) = C.2.2.2.2.1 k ∧ S.1 157 (90 + 4 * k + 3) = C.2.2.2.2.2.1 k ∧ S.2 158 k = C.2.2.2.2.2.2 k
theorem pI_2' {S : fS} {a k : Nat} {x : Int32} : (pI S a k x).2 = S.2 := rfl
section MPS
variable {F : List (Nat × Nat)} {E : List St5} {C : Cw}
theorem mp_floor {S : fS} (hT : twM (S.1 157) F E) (hF : ∀ q ∈ F, okF q) (hm : F.length ≤ 10) {f : Nat} (hf : f < F.length) : f_X11_floorParts (o3 f) S = some (pc (F.getD f (0, 0))) := by
  obtain ⟨o1, o2, o4, o5⟩ := hF _ (gd_mem (d := (0, 0)) hf)
  obtain ⟨e1, e2⟩ := hT.2.2.1 f hf
  unfold f_X11_floorParts
  rw [show (10 : Int32) = o3 10 from rfl, show (2 : Int32) = o3 2 from rfl, o3_mul, o3_add, gI_o (by omega) (by omega), bd_some, o3_s, gI_o (by omega) (by omega), bd_some, e1, e2, o6_of3 (by omega), o6_of3 (by omega), show (232792560 : Int64) = o6 232792560 from rfl, o6_dL (by omega) (by omega) (by omega), bd_some, o6_mul]
  rfl
theorem mp_stair {S : fS} (hT : twM (S.1 157) F E) (hE : ∀ q ∈ E, okS F.length q) (hl : E.length ≤ 12) {s : Nat} (hs : s < E.length) : f_X11_stairParts (o3 s) S = some (pc (E.getD s d5).2.2.2) := by
  obtain ⟨_, _, _, _, _, o1, o2, o4, o5⟩ := hE _ (gd_mem (d := d5) hs)
  obtain ⟨_, _, _, e1, e2⟩ := mh_stair hT hl hs
  have e1 : f_X11_stairOf (o3 s) 3 S = some (o3 (E.getD s d5).2.2.2.1) := e1
  have e2 : f_X11_stairOf (o3 s) 4 S = some (o3 (E.getD s d5).2.2.2.2) := e2
  unfold f_X11_stairParts
  rw [e1, bd_some, e2, bd_some, o6_of3 (by omega), o6_of3 (by omega), show (232792560 : Int64) = o6 232792560 from rfl, o6_dL (by omega) (by omega) (by omega), bd_some, o6_mul]
  rfl
theorem mp_loop (hF : ∀ q ∈ F, okF q) (hE : ∀ q ∈ E, okS F.length q) (hm : F.length ≤ 10) (hl : E.length ≤ 12) (hC : okD F.length E C) {K : fS → Option fS} : ∀ d k nn (S : fS), k + d = C.1 → d < nn → S.1 157 2 = o3 C.1 → (∀ j, j < k → rowM S (cPs F E C) j) → (∀ j, k ≤ j → j < C.1 → rowM S C j) → twM (S.1 157) F E → ∃ T, lp_X11_ageAll_2 K nn (o3 k) S = K T ∧ (∀ j, j < C.1 → rowM T (cPs F E C) j) ∧ (∀ a j, ¬ (a = 157 ∧ 90 ≤ j ∧ j < 122) → T.1 a j = S.1 a j) ∧ (∀ a j, a ≠ 158 → T.2 a j = S.2 a j) := by
  intro d
  induction d with
  | zero =>
    intro k nn S hk hnn h5 hn ho hT
    obtain ⟨nn, rfl⟩ : ∃ z, nn = z + 1 := ⟨nn - 1, by omega⟩
    have h8 := hC.1
    rw [lp_X11_ageAll_2.eq_2, show (2 : Int32) = o3 2 from rfl, gI_o (by omega) (by omega), bd_some, h5, if_pos ((o3_le (by omega) (by omega)).mpr (by omega))]
    exact ⟨S, rfl, fun j hj => hn j (by omega), fun _ _ _ => rfl, fun _ _ _ => rfl⟩
  | succ d ih =>
    intro k nn S hk hnn h5 hn ho hT
    obtain ⟨nn, rfl⟩ : ∃ z, nn = z + 1 := ⟨nn - 1, by omega⟩
    have h8 := hC.1
    obtain ⟨k1, k2, k3, k4, k5⟩ := ho k (Nat.le_refl _) (by omega)
    obtain ⟨d1, d2, d3⟩ := hC.2.2 k (by omega)
    have hth0 : ∀ U : fS, f_X11_thingOf (o3 k) 0 U = some (U.1 157 (90 + 4 * k)) := fun U => mw_thing (S := U) (a := 0) (by omega) (by omega)
    have hth1 : ∀ U : fS, f_X11_thingOf (o3 k) 1 U = some (U.1 157 (90 + 4 * k + 1)) := fun U => mw_thing (S := U) (a := 1) (by omega) (by omega)
    have hth2 : ∀ U : fS, f_X11_thingOf (o3 k) (o3 2) U = some (U.1 157 (90 + 4 * k + 2)) := fun U => mw_thing (S := U) (a := 2) (by omega) (by omega)
    have hth3 : ∀ U : fS, f_X11_thingOf (o3 k) 3 U = some (U.1 157 (90 + 4 * k + 3)) := fun U => mw_thing (S := U) (a := 3) (by omega) (by omega)
    have e92 : ((90 : Int32) + ((4 : Int32) * o3 k)) + o3 2 = o3 (90 + 4 * k + 2) := by rw [show (90 : Int32) = o3 90 from rfl, show (4 : Int32) = o3 4 from rfl, o3_mul, o3_add, o3_add]
    rw [lp_X11_ageAll_2.eq_2, show (2 : Int32) = o3 2 from rfl, gI_o (by omega) (by omega), bd_some, h5, if_neg (fun q => by have := (o3_le (by omega) (by omega)).mp q; omega), hth1, bd_some, k2, o3_s]
    have nxt : ∀ S1 : fS, rowM S1 (cPs F E C) k → (∀ a j, ¬ (a = 157 ∧ 90 + 4 * k ≤ j ∧ j < 90 + 4 * k + 4) → S1.1 a j = S.1 a j) → (∀ a j, ¬ (a = 158 ∧ j = k) → S1.2 a j = S.2 a j) → ∃ T, lp_X11_ageAll_2 K nn (o3 (k + 1)) S1 = K T ∧ (∀ j, j < C.1 → rowM T (cPs F E C) j) ∧ (∀ a j, ¬ (a = 157 ∧ 90 ≤ j ∧ j < 122) → T.1 a j = S.1 a j) ∧ (∀ a j, a ≠ 158 → T.2 a j = S.2 a j) := by
      intro S1 hr f1 f2
      have hrow : ∀ C' j, j ≠ k → rowM S C' j → rowM S1 C' j := fun C' j hj ⟨r1, r2, r3, r4, r5⟩ => ⟨(f1 _ _ (by omega)).trans r1, (f1 _ _ (by omega)).trans r2, (f1 _ _ (by omega)).trans r3, (f1 _ _ (by omega)).trans r4, (f2 _ _ (by omega)).trans r5⟩
      obtain ⟨T, t1, t2, t3, t4⟩ := ih (k + 1) nn S1 (by omega) (by omega) ((f1 157 2 (by omega)).trans h5) (fun j hj => by
        by_cases e : j = k
        · rw [e]; exact hr
        · exact hrow _ j e (hn j (by omega))) (fun j hj hj2 => hrow _ j (by omega) (ho j (by omega) hj2)) (twM_eq hm hl hT (fun j hj => f1 157 j (by omega)))
      exact ⟨T, t1, t2, fun a j h => (t3 a j h).trans (f1 a j (by omega)), fun a j h => (t4 a j h).trans (f2 a j (by omega))⟩
    rcases d1 with ⟨f, e1, e2, e3, e4, e5⟩ | ⟨s, j, f, e1, e2, e3, e4, e5, e6, e7⟩
    · have h0 : ¬ C.2.2.1 k < 0 := by rw [e2]; exact o3_nn (by omega)
      rw [e3, if_neg (show ¬ (0 : Int32) ≤ -1 by decide), gL_o (by omega) (by omega), bd_some, hth0, bd_some, k1, e2, mp_floor hT hF hm e1, bd_some, k5, sL_o (by omega) (by omega), bd_some]
      refine nxt _ ?_ (fun _ _ _ => rfl) (fun a j h => pL_ne h)
      unfold rowM cPs
      dsimp only
      rw [if_neg h0, if_neg h0, if_neg h0, if_neg h0, if_neg h0, pL_eq, e2, o3_nat (by omega)]
      exact ⟨k1.trans e2, k2, k3, k4, rfl⟩
    · have h0 : C.2.2.1 k < 0 := by rw [e2]; decide
      obtain ⟨s1, s2, s3, s4, s5, s6⟩ := hE _ (gd_mem (d := d5) e1)
      have hst : stays E C k ↔ j + 1 < (E.getD s d5).2.2.1 := by
        unfold stays
        rw [e3, e4, o3_s, o3_nat (by omega), o3_lt (by omega) (by omega)]
      rw [e3, if_pos (o3_0le (by omega)), gL_o (by omega) (by omega), bd_some, mp_stair hT hE hl e1, bd_some, k5, sL_o (by omega) (by omega), bd_some, e92, gI_o (by omega) (by omega), bd_some, pL_1, k3, e4, o3_s, sI_o (by omega) (by omega), bd_some, hth2, bd_some, pI_eq]
      have hT2 : twM ((pI (pL S 158 k (C.2.2.2.2.2.2 k + pc (E.getD s d5).2.2.2)) 157 (90 + 4 * k + 2) (o3 (j + 1))).1 157) F E := twM_eq hm hl hT (fun i hi => by rw [pI_ne (by omega)]; rfl)
      rw [(mh_stair hT2 hl e1).2.2.1, bd_some]
      by_cases hs : j + 1 < (E.getD s d5).2.2.1
      · rw [if_neg (fun q => by have := (o3_inj (by omega) (by omega)).mp q; omega)]
        refine nxt _ ?_ (fun a i h => by rw [pI_ne (by omega)]; rfl) (fun a i h => pL_ne h)
        unfold rowM cPs
        dsimp only
        rw [if_pos h0, if_pos h0, if_pos h0, if_pos h0, if_pos h0, if_pos (hst.mpr hs), if_pos (hst.mpr hs), if_pos (hst.mpr hs), if_pos (hst.mpr hs), pI_ne (by omega), pI_ne (by omega), pI_eq, pI_ne (by omega), e4, o3_s, e3, o3_nat (by omega)]
        exact ⟨k1, k2.trans e3, rfl, k4, by rw [pI_2', pL_eq]⟩
      · rw [if_pos ((o3_inj (by omega) (by omega)).mpr (by omega)), hth3, bd_some, pI_ne (by omega), pL_1, k4, e6, m_stands (by omega), bd_some]
        obtain ⟨z1, z2, z3, z4⟩ := st4_eq (S := pI (pL S 158 k (C.2.2.2.2.2.2 k + pc (E.getD s d5).2.2.2)) 157 (90 + 4 * k + 2) (o3 (j + 1))) (t := k) (f := o3 f)
        refine nxt _ ?_ (fun a i h => by rw [st4_ne h, pI_ne (by omega)]; rfl) (fun a i h => by rw [st4_2]; exact pL_ne h)
        unfold rowM cPs
        dsimp only
        have hns : ¬ stays E C k := fun q => hs (hst.mp q)
        rw [if_pos h0, if_pos h0, if_pos h0, if_pos h0, if_pos h0, if_neg hns, if_neg hns, if_neg hns, if_neg hns, e6]
        refine ⟨z1, z2, z3, z4, ?_⟩
        rw [st4_2, e3, o3_nat (by omega), pI_2', pL_eq]
theorem m_pass {S : fS} (hF : ∀ q ∈ F, okF q) (hE : ∀ q ∈ E, okS F.length q) (hm : F.length ≤ 10) (hl : E.length ≤ 12) (hC : okD F.length E C) (hS : cwM (S.1 157) (S.2 158) C) (hT : twM (S.1 157) F E) : ∃ T, f_X11_ageAll S = some T ∧ cwM (T.1 157) (T.2 158) (cPs F E C) ∧ eI S T := by
  unfold f_X11_ageAll
  have h8 := hC.1
  obtain ⟨T, t1, t2, t3, t4⟩ := mp_loop hF hE hm hl hC (K := fun S49 => (gI S49 157 158 (3 : Int32)).bind fun a51 => (sI S49 157 158 (3 : Int32) (a51 + (1 : Int32))).bind fun S54 => some S54) C.1 0 FU S (by omega) (FU_lt (by omega)) hS.1 (fun j hj => absurd hj (Nat.not_lt_zero _)) (fun j _ hj => hS.2.2 j hj) hT
  have t1' : lp_X11_ageAll_2 (fun S49 => (gI S49 157 158 (3 : Int32)).bind fun a51 => (sI S49 157 158 (3 : Int32) (a51 + (1 : Int32))).bind fun S54 => some S54) FU (0 : Int32) S = (fun S49 => (gI S49 157 158 (3 : Int32)).bind fun a51 => (sI S49 157 158 (3 : Int32) (a51 + (1 : Int32))).bind fun S54 => some S54) T := t1
  rw [t1']
  dsimp only
  rw [show (3 : Int32) = o3 3 from rfl, gI_o (by omega) (by omega), bd_some, t3 157 3 (by omega), hS.2.1, o3_s, sI_o (by omega) (by omega), bd_some]
  refine ⟨_, rfl, ⟨?_, ?_, fun k hk => ?_⟩, fun a j h1 h2 => ?_, fun a j h1 h2 h3 => t4 a j h3⟩
  · rw [pI_ne (by omega), t3 157 2 (by omega)]; exact hS.1
  · rw [pI_eq]; rfl
  · obtain ⟨r1, r2, r3, r4, r5⟩ := t2 k hk
    rw [pI_ne (by omega), pI_ne (by omega), pI_ne (by omega), pI_ne (by omega)]
    exact ⟨r1, r2, r3, r4, r5⟩
  · rw [pI_ne (by omega), t3 a j (by omega)]
/-- the rule by which one lives, as the reference holds it -/
def ruM (S : fS) (v : Int32) (Q : Option (List Cl)) : Prop := (v = -1 ∧ Q = none) ∨ ∃ r L, r < 6 ∧ v = o3 r ∧ Q = some L ∧ cdM S r L
theorem ruM_eq {S T : fS} {v : Int32} {Q : Option (List Cl)} (h : ruM S v Q) (g : eI S T) : ruM T v Q := by
  rcases h with h | ⟨r, L, h1, h2, h3, h4⟩
  · exact Or.inl h
  · exact Or.inr ⟨r, L, h1, h2, h3, cdM_eq h4 (fun a k _ => g.1 a k (by omega) (by omega))⟩
theorem m_hour {S : fS} {v : Int32} {Q : Option (List Cl)} (hF : ∀ q ∈ F, okF q) (hE : ∀ q ∈ E, okS F.length q) (hm : F.length ≤ 10) (hl : E.length ≤ 12) (hC : okD F.length E C) (hS : cwM (S.1 157) (S.2 158) C) (hT : twM (S.1 157) F E) (hW : rHm S F.length (dst E)) (hR : ruM S v Q) : ∃ T, f_X11_hour v S = some T ∧ cwM (T.1 157) (T.2 158) (cHr F E Q C) ∧ eI S T := by
  unfold f_X11_hour
  have h8 := hC.1
  rcases hR with ⟨rfl, rfl⟩ | ⟨r, L, hr, rfl, rfl, hD⟩
  · obtain ⟨fu, hfu⟩ : ∃ z, FU = z + 1 := ⟨FU - 1, by have := FU_lt (d := 1) (by omega); omega⟩
    obtain ⟨T, a1, a2, a3⟩ := m_pass hF hE hm hl hC hS hT
    rw [hfu, lp_X11_hour_2.eq_2, show (2 : Int32) = o3 2 from rfl, gI_o (by omega) (by omega), bd_some, hS.1]
    by_cases hz : o3 C.1 ≤ (0 : Int32)
    · rw [if_pos hz, a1]; exact ⟨T, rfl, a2, a3⟩
    · rw [if_neg hz, if_pos (show (-1 : Int32) < 0 by decide), a1]; exact ⟨T, rfl, a2, a3⟩
  · obtain ⟨T0, z1, z2, z3⟩ := mh_obey (K := fun S31 => (f_X11_ageAll S31).bind fun q33 => some q33) hr hF hE hm hl hD.2.2.2.2.1 C.1 0 FU S (by omega) (FU_lt (by omega)) hC hS hT hW hD
    have z1' : lp_X11_hour_2 (o3 r) (fun S31 => (f_X11_ageAll S31).bind fun q33 => some q33) FU (0 : Int32) S = (fun S31 => (f_X11_ageAll S31).bind fun q33 => some q33) T0 := z1
    obtain ⟨o1, o2, o4⟩ := cOb_ok (Q := L) hC hE hm C.1 (Nat.le_refl _)
    obtain ⟨T, a1, a2, a3⟩ := m_pass hF hE hm hl o1 z2 (twM_eq hm hl hT (fun j hj => z3.1 157 j (by omega) (by omega)))
    rw [z1']
    dsimp only
    rw [a1]
    exact ⟨T, rfl, a2, z3.tr a3⟩
theorem m_tickl {v : Int32} {Q : Option (List Cl)} (hF : ∀ q ∈ F, okF q) (hE : ∀ q ∈ E, okS F.length q) (hm : F.length ≤ 10) (hl : E.length ≤ 12) {h : Nat} (hh : h < 2147483648) {K : fS → Option (Int32 × fS)} : ∀ d k nn (S : fS) (C : Cw), k + d = h → d < nn → okD F.length E C → C.2.1 + d ≤ 10199 → cwM (S.1 157) (S.2 158) C → twM (S.1 157) F E → rHm S F.length (dst E) → ruM S v Q → ∃ T, lp_X11_tick_43 v (o3 h) K nn (o3 k) S = K T ∧ cwM (T.1 157) (T.2 158) (cHrs F E Q d C) ∧ eI S T := by
  intro d
  induction d with
  | zero =>
    intro k nn S C hk hnn hC h9 hS hT hW hR
    obtain ⟨nn, rfl⟩ : ∃ z, nn = z + 1 := ⟨nn - 1, by omega⟩
    rw [lp_X11_tick_43.eq_2, if_pos ((o3_le (by omega) (by omega)).mpr (by omega))]
    exact ⟨S, rfl, hS, eI.rf⟩
  | succ d ih =>
    intro k nn S C hk hnn hC h9 hS hT hW hR
    obtain ⟨nn, rfl⟩ : ∃ z, nn = z + 1 := ⟨nn - 1, by omega⟩
    rw [lp_X11_tick_43.eq_2, if_neg (fun q => by have := (o3_le (by omega) (by omega)).mp q; omega), o3_s]
    obtain ⟨T1, a1, a2, a3⟩ := m_hour hF hE hm hl hC hS hT hW hR
    obtain ⟨b1, b2, b3⟩ := cHr_ok (Q := Q) hC hF hE hm hl (by omega)
    rw [a1, bd_some]
    obtain ⟨T, c1, c2, c3⟩ := ih (k + 1) nn T1 (cHr F E Q C) (by omega) (by omega) b1 (by omega) a2 (twM_eq hm hl hT (fun j hj => a3.1 157 j (by omega) (by omega))) (rHm_eq hW (fun j => a3.2 _ j (by omega) (by omega) (by omega))) (ruM_eq hR a3)
    exact ⟨T, c1, c2, a3.tr c3⟩
end MPS
end
section
/-! the relation between class and reference -/
def rTp (n : Nat) (S : fS) : Prop := n ≤ 400 ∧ S.1 1 1 = o3 n ∧ S.1 145 1 = o3 n ∧ S.1 2 = S.1 146 ∧ ∀ k, byt (S.1 146 k)
def rSc (s : Sn) (S : fS) : Prop := okN s ∧ scC S 3 s ∧ scM (S.1 157) (S.2 158) s ∧ rHm S s.1.length (dst s.2.1)
def rRu (L : List (List Cl)) (S : fS) : Prop := L.length ≤ 6 ∧ S.1 0 10 = o3 L.length ∧ S.1 145 2 = o3 L.length ∧ ∀ r, r < L.length → cdC S (127 + 3 * r) (ccode (L.getD r [])) ∧ cdM S r (L.getD r [])
/-- an image: of class and reference -/
def im1 (S : fS) (i : Nat) (s : Sn) : Prop := okN s ∧ scC S (51 + 19 * i) s ∧ scM (fun k => S.1 168 (158 * i + k)) (fun k => S.2 169 (8 * i + k)) s
def rIm (M : Nat → Option Sn) (S : fS) : Prop := ∀ i, i < 4 → (M i = none ∧ S.1 (51 + 19 * i) 4 = 0 ∧ S.1 170 i = 0) ∨ ∃ s, M i = some s ∧ S.1 (51 + 19 * i) 4 = 1 ∧ S.1 170 i = 1 ∧ im1 S i s
def Rel (S : fS) : Prop := ∃ n s L M, rTp n S ∧ rSc s S ∧ rRu L S ∧ rIm M S
theorem rTp_eq {n : Nat} {S T : fS} (h : rTp n S) (h1 : T.1 1 1 = S.1 1 1) (h2 : T.1 145 1 = S.1 145 1) (h3 : ∀ k, T.1 2 k = S.1 2 k) (h4 : ∀ k, T.1 146 k = S.1 146 k) : rTp n T := by
  obtain ⟨a, b, c, d, e⟩ := h
  exact ⟨a, h1.trans b, h2.trans c, (funext h3).trans (d.trans (funext h4).symm), fun k => by rw [h4]; exact e k⟩
theorem poC_eq {S T : fS} {b : Nat} {D : Mx} {P : Po} (h : poC S b D P) (h1 : ∀ a k, b ≤ a → a ≤ b + 4 → T.1 a k = S.1 a k) : poC T b D P := by
  obtain ⟨a, d⟩ := h
  refine ⟨(h1 _ _ (by omega) (by omega)).trans a, fun k hk => ?_⟩
  obtain ⟨e1, e2, e3, e4⟩ := d k hk
  exact ⟨(h1 _ _ (by omega) (by omega)).trans e1, (h1 _ _ (by omega) (by omega)).trans e2, (h1 _ _ (by omega) (by omega)).trans e3, (h1 _ _ (by omega) (by omega)).trans e4⟩
theorem scC_eq {S T : fS} {b : Nat} {s : Sn} (h : scC S b s) (h1 : ∀ a k, b < a → a ≤ b + 18 → T.1 a k = S.1 a k) (h2 : ∀ a k, b < a → a ≤ b + 18 → T.2 a k = S.2 a k) (h3 : 0 ≤ (T.1 b 3).toInt) : scC T b s := by
  obtain ⟨a, c, d, e, _⟩ := h
  exact ⟨twC_eq a (fun x k p q => h1 x k (by omega) (by omega)) (fun x k p q => h2 x k (by omega) (by omega)), rWm_eq c (fun k => h1 _ k (by omega) (by omega)), cwC_eq d (fun x k p q => h1 x k (by omega) (by omega)) (fun k => h2 _ k (by omega) (by omega)), poC_eq e (fun x k p q => h1 x k (by omega) (by omega)), h3⟩
theorem rSc_eq {s : Sn} {S T : fS} (h : rSc s S) (h1 : ∀ a k, 3 < a → a ≤ 21 → T.1 a k = S.1 a k) (h2 : ∀ a k, 3 < a → a ≤ 21 → T.2 a k = S.2 a k) (h3 : 0 ≤ (T.1 3 3).toInt) (h4 : ∀ k, T.1 157 k = S.1 157 k) (h5 : ∀ a k, a = 158 ∨ a = 161 → T.2 a k = S.2 a k) : rSc s T := by
  obtain ⟨a, b, c, d⟩ := h
  refine ⟨a, scC_eq b (fun x k p q => h1 x k (by omega) (by omega)) (fun x k p q => h2 x k (by omega) (by omega)) h3, ?_, rHm_eq d (fun k => h5 _ k (by omega))⟩
  rw [show T.1 157 = S.1 157 from funext h4, show T.2 158 = S.2 158 from funext fun k => h5 158 k (Or.inl rfl)]
  exact c
theorem rRu_eq {L : List (List Cl)} {S T : fS} (h : rRu L S) (h1 : T.1 0 10 = S.1 0 10) (h2 : T.1 145 2 = S.1 145 2) (h3 : ∀ a k, 127 ≤ a → a ≤ 144 → k ≠ 3 ∨ ¬ a % 3 = 1 → T.1 a k = S.1 a k) (h4 : ∀ a k, a = 147 ∨ (a = 148 ∧ k < 6) ∨ a = 149 ∨ a = 150 → T.1 a k = S.1 a k) : rRu L T := by
  obtain ⟨a, b, c, d⟩ := h
  refine ⟨a, h1.trans b, h2.trans c, fun r hr => ?_⟩
  obtain ⟨x, y⟩ := d r hr
  exact ⟨cdC_eq x (h3 _ _ (by omega) (by omega) (by omega)) (fun k => h3 _ _ (by omega) (by omega) (by omega)), cdM_eq y (fun a k h => h4 a k (by omega))⟩
theorem im1_eq {S T : fS} {i : Nat} {s : Sn} (hi : i < 4) (h : im1 S i s) (h1 : ∀ a k, 51 ≤ a → a ≤ 126 → T.1 a k = S.1 a k) (h2 : ∀ a k, 51 ≤ a → a ≤ 126 → T.2 a k = S.2 a k) (h3 : ∀ k, T.1 168 k = S.1 168 k) (h4 : ∀ k, T.2 169 k = S.2 169 k) : im1 T i s := by
  obtain ⟨a, b, c⟩ := h
  refine ⟨a, scC_eq b (fun x k p q => h1 x k (by omega) (by omega)) (fun x k p q => h2 x k (by omega) (by omega)) (by rw [h1 _ _ (by omega) (by omega)]; exact b.2.2.2.2), ?_⟩
  rw [show (fun k => T.1 168 (158 * i + k)) = (fun k => S.1 168 (158 * i + k)) from funext fun k => h3 _, show (fun k => T.2 169 (8 * i + k)) = (fun k => S.2 169 (8 * i + k)) from funext fun k => h4 _]
  exact c
theorem rIm_eq {M : Nat → Option Sn} {S T : fS} (h : rIm M S) (h1 : ∀ a k, 51 ≤ a → a ≤ 126 → T.1 a k = S.1 a k) (h2 : ∀ a k, 51 ≤ a → a ≤ 126 → T.2 a k = S.2 a k) (h3 : ∀ k, T.1 168 k = S.1 168 k) (h4 : ∀ k, T.2 169 k = S.2 169 k) (h5 : ∀ k, T.1 170 k = S.1 170 k) : rIm M T := fun i hi => by
  rcases h i hi with ⟨a, b, c⟩ | ⟨s, a, b, c, d⟩
  · exact Or.inl ⟨a, (h1 _ _ (by omega) (by omega)).trans b, (h5 i).trans c⟩
  · exact Or.inr ⟨s, a, (h1 _ _ (by omega) (by omega)).trans b, (h5 i).trans c, im1_eq hi d h1 h2 h3 h4⟩
/-! feed() -/
theorem zt_byt {v k : Int32} : byt (zt v k) := by
  unfold zt byt
  rw [Int8.toInt_toInt32]
  have h1 := Int8.le_toInt (Int32.toInt8 (Int8.toInt32 (Int32.toInt8 (v >>> (k &&& 31)))))
  have h2 := Int8.toInt_lt (Int32.toInt8 (Int8.toInt32 (Int32.toInt8 (v >>> (k &&& 31)))))
  exact ⟨h1, by omega⟩
/-- c: the class's tape; m: the reference's -/
def fdC (S T : fS) (n n' : Nat) (f : Nat → Int32) : Prop := T.1 1 1 = o3 n' ∧ T.1 2 = f ∧ (∀ a k, ¬ (a = 2 ∨ (a = 1 ∧ k = 1)) → T.1 a k = S.1 a k) ∧ T.2 = S.2
def fdM (S T : fS) (n n' : Nat) (f : Nat → Int32) : Prop := T.1 145 1 = o3 n' ∧ T.1 146 = f ∧ (∀ a k, ¬ (a = 146 ∨ (a = 145 ∧ k = 1)) → T.1 a k = S.1 a k) ∧ T.2 = S.2
def p4 (f : Nat → Int32) (n : Nat) (v : Int32) : Nat → Int32 := udN (udN (udN (udN f n (zt v 24)) (n + 1) (zt v 16)) (n + 2) (zt v 8)) (n + 3) (zt v 0)
theorem pI_upd {S : fS} {a k : Nat} {x : Int32} : (pI S a k x).1 a = udN (S.1 a) k x := by
  funext j
  rw [pI_get]
  unfold udN
  by_cases h : j = k
  · rw [if_pos ⟨rfl, h⟩, if_pos h]
  · rw [if_neg (fun q => h q.2), if_neg h]
theorem fd_zc {S T : fS} {n n' : Nat} {f : Nat → Int32} {b : Int32} (h : fdC S T n n' f) (hn : n' < 400) : fdC S (zc T b) n (n' + 1) (udN f n' b) := by
  obtain ⟨h1, h2, h3, h4⟩ := h
  unfold zc
  rw [h1, o3_nat (by omega), o3_s]
  refine ⟨pI_eq, ?_, fun a k hk => ?_, h4⟩
  · rw [pI_row (by omega), pI_upd, h2]
  · rw [pI_ne (by omega), pI_ne (by omega)]; exact h3 a k hk
theorem fd_zm {S T : fS} {n n' : Nat} {f : Nat → Int32} {b : Int32} (h : fdM S T n n' f) (hn : n' < 400) : fdM S (zm T b) n (n' + 1) (udN f n' b) := by
  obtain ⟨h1, h2, h3, h4⟩ := h
  unfold zm
  rw [h1, o3_nat (by omega), o3_s]
  refine ⟨pI_eq, ?_, fun a k hk => ?_, h4⟩
  · rw [pI_row (by omega), pI_upd, h2]
  · rw [pI_ne (by omega), pI_ne (by omega)]; exact h3 a k hk
theorem fd_zc4 {S T : fS} {n n' : Nat} {f : Nat → Int32} {v : Int32} (h : fdC S T n n' f) (hn : n' + 4 ≤ 400) : fdC S (zc4 T v) n (n' + 4) (p4 f n' v) := fd_zc (fd_zc (fd_zc (fd_zc h (by omega)) (by omega)) (by omega)) (by omega)
theorem fd_zm4 {S T : fS} {n n' : Nat} {f : Nat → Int32} {v : Int32} (h : fdM S T n n' f) (hn : n' + 4 ≤ 400) : fdM S (zm4 T v) n (n' + 4) (p4 f n' v) := fd_zm (fd_zm (fd_zm (fd_zm h (by omega)) (by omega)) (by omega)) (by omega)
theorem p4_byt {f : Nat → Int32} {n : Nat} {v : Int32} (h : ∀ k, byt (f k)) : ∀ k, byt (p4 f n v k) := by
  have u : ∀ (g : Nat → Int32) m k', (∀ k, byt (g k)) → ∀ k, byt (udN g m (zt v k') k) := fun g m k' hg k => by
    unfold udN
    split
    · exact zt_byt
    · exact hg k
  exact u _ _ _ (u _ _ _ (u _ _ _ (u _ _ _ h)))
theorem t_0 (a1 a2 a3 a4 a5 : Int32) (S : fS) (hR : Rel S) : ∃ r S1 S2, f_X10_feed a1 a2 a3 a4 a5 S = some (r, S1) ∧ f_X11_feed a1 a2 a3 a4 a5 S1 = some (r, S2) ∧ Rel S2 := by
  obtain ⟨n, s, L, M, hT, hS, hL, hM⟩ := hR
  obtain ⟨t1, t2, t3, t4, t5⟩ := hT
  by_cases h : n ≤ 380
  · have hc : fdC S S n n (S.1 2) := ⟨t2, rfl, fun _ _ _ => rfl, rfl⟩
    have hc5 := fd_zc4 (v := a5) (fd_zc4 (v := a4) (fd_zc4 (v := a3) (fd_zc4 (v := a2) (fd_zc4 (v := a1) hc (by omega)) (by omega)) (by omega)) (by omega)) (by omega)
    rw [op_feed (by rw [t2, o3_int (by omega)]; omega) (by rw [t2, o3_int (by omega)]; omega)]
    generalize zc4 (zc4 (zc4 (zc4 (zc4 S a1) a2) a3) a4) a5 = S1 at hc5
    obtain ⟨c1, c2, c3, c4⟩ := hc5
    have hm : fdM S1 S1 n n (S.1 2) := ⟨(c3 _ _ (by omega)).trans t3, by rw [show S1.1 146 = S.1 146 from funext fun k => c3 _ _ (by omega)]; exact t4.symm, fun _ _ _ => rfl, rfl⟩
    have hm5 := fd_zm4 (v := a5) (fd_zm4 (v := a4) (fd_zm4 (v := a3) (fd_zm4 (v := a2) (fd_zm4 (v := a1) hm (by omega)) (by omega)) (by omega)) (by omega)) (by omega)
    have hfm := om_feed (a := a1) (b := a2) (c := a3) (d := a4) (e := a5) (S := S1) (by rw [hm.1, o3_int (by omega)]; omega) (by rw [hm.1, o3_int (by omega)]; omega)
    generalize zm4 (zm4 (zm4 (zm4 (zm4 S1 a1) a2) a3) a4) a5 = S2 at hm5 hfm
    obtain ⟨m1, m2, m3, m4⟩ := hm5
    have e1 : ∀ a k, ¬ (a = 2 ∨ a = 146 ∨ (a = 1 ∧ k = 1) ∨ (a = 145 ∧ k = 1)) → S2.1 a k = S.1 a k := fun a k hk => (m3 a k (by omega)).trans (c3 a k (by omega))
    have e2 : ∀ a k, S2.2 a k = S.2 a k := fun a k => by rw [m4, c4]
    refine ⟨_, S1, S2, rfl, by rw [hfm, m1, c1], n + 4 + 4 + 4 + 4 + 4, s, L, M, ⟨by omega, ?_, m1, ?_, ?_⟩, ?_, ?_, ?_⟩
    · rw [m3 1 1 (by omega)]; exact c1
    · rw [m2, show S2.1 2 = S1.1 2 from funext fun k => m3 _ _ (by omega), c2]
    · rw [m2]
      have hb : ∀ k, byt (S.1 2 k) := by rw [t4]; exact t5
      exact p4_byt (p4_byt (p4_byt (p4_byt (p4_byt hb))))
    · exact rSc_eq hS (fun a k _ _ => e1 a k (by omega)) (fun a k _ _ => e2 a k) (by rw [e1 3 3 (by omega)]; exact hS.2.1.2.2.2.2) (fun k => e1 _ _ (by omega)) (fun a k _ => e2 a k)
    · exact rRu_eq hL (e1 _ _ (by omega)) (e1 _ _ (by omega)) (fun a k _ _ _ => e1 a k (by omega)) (fun a k _ => e1 a k (by omega))
    · exact rIm_eq hM (fun a k _ _ => e1 a k (by omega)) (fun a k _ _ => e2 a k) (fun k => e1 _ _ (by omega)) (fun k => e2 _ k) (fun k => e1 _ _ (by omega))
  · unfold f_X10_feed
    rw [t2, show (20 : Int32) = o3 20 from rfl, o3_add, if_neg (show ¬ o3 (n + 20) ≤ (400 : Int32) from fun q => by have := (o3_le (b := 400) (by omega) (by omega)).mp q; omega)]
    refine ⟨-1, S, S, rfl, ?_, n, s, L, M, ⟨t1, t2, t3, t4, t5⟩, hS, hL, hM⟩
    unfold f_X11_feed
    rw [t3, show (20 : Int32) = o3 20 from rfl, o3_add, if_neg (show ¬ o3 (n + 20) ≤ (400 : Int32) from fun q => by have := (o3_le (b := 400) (by omega) (by omega)).mp q; omega)]
/-! end() -/
theorem t_1 (a1 : Int32) (S : fS) (hR : Rel S) : ∃ r S1 S2, f_X10_end a1 S = some (r, S1) ∧ f_X11_end a1 S1 = some (r, S2) ∧ Rel S2 := by
  obtain ⟨n, s, L, M, ⟨t1, t2, t3, t4, t5⟩, hS, hL, hM⟩ := hR
  unfold f_X10_end
  rw [t2]
  rcases op_isFrom01 (v := a1) (a := 0) (b := o3 n) (S := S) with ⟨h, g⟩ | ⟨h, g1, g2⟩
  · rw [h, bd_some, if_pos rfl]
    refine ⟨-1, S, S, rfl, ?_, n, s, L, M, ⟨t1, t2, t3, t4, t5⟩, hS, hL, hM⟩
    unfold f_X11_end
    rw [t3]
    by_cases hz : a1 < 0
    · rw [if_pos hz]
    · rw [if_neg hz, if_neg (fun q => g ⟨by rw [ni_lt] at hz; omega, ni_le.mp q⟩)]
  · rw [h, bd_some, if_neg (show ¬ (1 : Int32) = 0 by decide), bd_some]
    rw [ni_0] at g1
    rw [o3_int (by omega)] at g2
    obtain ⟨m, hm, hm2⟩ := o3_ex g1
    refine ⟨a1, pI S 1 1 a1, pI (pI S 1 1 a1) 145 1 a1, rfl, ?_, m, s, L, M, ⟨by omega, ?_, ?_, ?_, ?_⟩, ?_, ?_, ?_⟩
    · unfold f_X11_end
      rw [pI_ne (by omega), t3, if_neg (by rw [ni_lt, ni_0]; omega), if_pos (by rw [ni_le, o3_int (by omega)]; exact g2), bd_some]
    · rw [pI_ne (by omega), pI_eq]; exact hm
    · rw [pI_eq]; exact hm
    · rw [pI_row (by omega), pI_row (by omega), pI_row (by omega), pI_row (by omega)]; exact t4
    · rw [pI_row (by omega), pI_row (by omega)]; exact t5
    · exact rSc_eq hS (fun a k _ _ => by rw [pI_ne (by omega), pI_ne (by omega)]) (fun _ _ _ _ => rfl) (by rw [pI_ne (by omega), pI_ne (by omega)]; exact hS.2.1.2.2.2.2) (fun k => by rw [pI_ne (by omega), pI_ne (by omega)]) (fun _ _ _ => rfl)
    · exact rRu_eq hL (by rw [pI_ne (by omega), pI_ne (by omega)]) (by rw [pI_ne (by omega), pI_ne (by omega)]) (fun a k _ _ _ => by rw [pI_ne (by omega), pI_ne (by omega)]) (fun a k _ => by rw [pI_ne (by omega), pI_ne (by omega)])
    · exact rIm_eq hM (fun a k _ _ => by rw [pI_ne (by omega), pI_ne (by omega)]) (fun _ _ _ _ => rfl) (fun k => by rw [pI_ne (by omega), pI_ne (by omega)]) (fun _ => rfl) (fun k => by rw [pI_ne (by omega), pI_ne (by omega)])
end
section
/-! tower(), rule(), go(), tick() -/
theorem t_2 (S : fS) (hR : Rel S) : ∃ r S1 S2, f_X10_tower S = some (r, S1) ∧ f_X11_tower S1 = some (r, S2) ∧ Rel S2 := by
  obtain ⟨n, s, L, M, ⟨t1, t2, t3, t4, t5⟩, hS, hL, hM⟩ := hR
  obtain ⟨S1, a1, a2, a3, a4, a5, a6⟩ := c_tower t2 t1
  have e146 : S1.1 146 = S.1 146 := funext fun k => a3 _ _ (by unfold wG1 wF1; omega)
  obtain ⟨S2, b1, b2, b3, b4, b5, b6⟩ := m_tower (S := S1) (n := n) ((a3 145 1 (by unfold wG1 wF1; omega)).trans t3) t1 (by rw [e146]; exact t5)
  rw [e146] at b1 b5 b6
  rw [t4] at a1 a5 a6
  refine ⟨_, S1, S2, a1, b1, ?_⟩
  have e1 : ∀ a k, ¬ wG1 a k → ¬ wT a k → S2.1 a k = S.1 a k := fun a k h1 h2 => (b3 a k h2).trans (a3 a k h1)
  have e2 : ∀ a k, ¬ wG2 a k → a ≠ 158 → a ≠ 161 → S2.2 a k = S.2 a k := fun a k h1 h2 h3 => (b4 a k h2 h3).trans (a4 a k h1)
  have hx : (S2.1 3 3) = S.1 3 3 := e1 3 3 (by unfold wG1 wF1; omega) (by unfold wT wR; omega)
  have hTp : rTp 0 S2 := by
    refine ⟨by omega, ?_, b2, ?_, ?_⟩
    · rw [b3 1 1 (by unfold wT wR; omega)]; exact a2
    · rw [show S2.1 2 = S.1 2 from funext fun k => e1 _ _ (by unfold wG1 wF1; omega) (by unfold wT wR; omega), show S2.1 146 = S.1 146 from funext fun k => e1 _ _ (by unfold wG1 wF1; omega) (by unfold wT wR; omega)]
      exact t4
    · rw [show S2.1 146 = S.1 146 from funext fun k => e1 _ _ (by unfold wG1 wF1; omega) (by unfold wT wR; omega)]
      exact t5
  have hL2 : rRu L S2 := rRu_eq hL (e1 _ _ (by unfold wG1 wF1; omega) (by unfold wT wR; omega)) (e1 _ _ (by unfold wG1 wF1; omega) (by unfold wT wR; omega)) (fun a k _ _ _ => e1 a k (by unfold wG1 wF1; omega) (by unfold wT wR; omega)) (fun a k h => e1 a k (by unfold wG1 wF1; omega) (by unfold wT wR; omega))
  have hM2 : rIm M S2 := rIm_eq hM (fun a k _ _ => e1 a k (by unfold wG1 wF1; omega) (by unfold wT wR; omega)) (fun a k _ _ => e2 a k (by unfold wG2 wF2; omega) (by omega) (by omega)) (fun k => e1 _ _ (by unfold wG1 wF1; omega) (by unfold wT wR; omega)) (fun k => e2 _ k (by unfold wG2 wF2; omega) (by omega) (by omega)) (fun k => e1 _ _ (by unfold wG1 wF1; omega) (by unfold wT wR; omega))
  by_cases hz : (tw0 (S.1 146) n).1 = 0
  · obtain ⟨c1, c2, c3, c4⟩ := a6 hz
    obtain ⟨d1, d2, d3, d4⟩ := b6 hz
    have hB := tw0_ok hz
    generalize (tw0 (S.1 146) n).2 = B at c1 c2 c3 d1 d2 d4 hB
    have f1 : ∀ a k, a < 38 → S2.1 a k = S1.1 a k := fun a k h => b3 a k (by unfold wT wR; omega)
    have f2 : ∀ a k, a < 38 → S2.2 a k = S1.2 a k := fun a k h => b4 a k (by omega) (by omega)
    refine ⟨0, sn0 B, L, M, hTp, ⟨okN_0 hB, ⟨?_, ?_, ?_, ?_, ?_⟩, ⟨d1, cwM_0 d2, ?_, ?_⟩, ?_⟩, hL2, hM2⟩
    · exact twC_eq c1 (fun a k _ _ => f1 a k (by omega)) (fun a k _ _ => f2 a k (by omega))
    · exact fun a b ha hb => (f1 _ _ (by omega)).trans (c2 a b (Nat.lt_of_lt_of_le ha hB.1) (Nat.lt_of_lt_of_le hb hB.1))
    · exact cwC_eq (cwC_0 c3) (fun a k _ _ => f1 a k (by omega)) (fun k => f2 _ k (by omega))
    · exact ⟨(f1 _ _ (by omega)).trans c4, fun k hk => absurd hk (Nat.not_lt_zero _)⟩
    · rw [hx]; exact hS.2.1.2.2.2.2
    · exact ⟨d3, fun k hk => absurd hk (Nat.not_lt_zero _)⟩
    · rw [e1 157 5 (by unfold wG1 wF1; omega) (by unfold wT wR; omega)]; exact hS.2.2.1.2.2.2
    · exact fun a b ha hb => d4 a b (Nat.lt_of_lt_of_le ha hB.1) (Nat.lt_of_lt_of_le hb hB.1)
  · obtain ⟨c1, c2⟩ := a5 hz
    obtain ⟨d1, d2⟩ := b5 hz
    refine ⟨0, s, L, M, hTp, rSc_eq hS (fun a k _ _ => (b3 a k (by unfold wT wR; omega)).trans (c1 a k (by unfold wF1; omega))) (fun a k _ _ => by rw [d2]; exact c2 a k (by unfold wF2; omega)) (by rw [hx]; exact hS.2.1.2.2.2.2) (fun k => (d1 k).trans (c1 157 k (by unfold wF1; omega))) (fun a k _ => by rw [d2]; exact c2 a k (by unfold wF2; omega)), hL2, hM2⟩
/-! rule() -/
theorem cdM_eq2 {S T : fS} {x : Nat} {L : List Cl} (h : cdM S x L) (h1 : ∀ k, k < 400 → T.1 147 (400 * x + k) = S.1 147 (400 * x + k)) (h2 : T.1 148 x = S.1 148 x) (h3 : ∀ k, k < 36 → T.1 149 (36 * x + k) = S.1 149 (36 * x + k)) (h4 : T.1 150 x = S.1 150 x) : cdM T x L := by
  obtain ⟨a, b, c, d, e, f⟩ := h
  exact ⟨clM_eq a h4 (fun k hk => h3 k (by omega)), b, h2.trans c, d, e, fun k hk => (h1 k (by omega)).trans (f k hk)⟩
theorem t_3 (S : fS) (hR : Rel S) : ∃ r S1 S2, f_X10_rule S = some (r, S1) ∧ f_X11_rule S1 = some (r, S2) ∧ Rel S2 := by
  obtain ⟨n, s, L, M, ⟨t1, t2, t3, t4, t5⟩, hS, hL, hM⟩ := hR
  obtain ⟨l1, l2, l3, l4⟩ := hL
  obtain ⟨S1, a1, a2, a3⟩ := c_rule t2 t1 l2 l1
  by_cases h6 : L.length = 6
  · have e := a2 h6
    subst e
    obtain ⟨S2, b1, b2, b3⟩ := m_rule t3 t1 t5 l3 l1
    have e := b2 h6
    subst e
    rw [if_pos h6] at a1 b1
    exact ⟨_, S2, S2, a1, b1, n, s, L, M, ⟨t1, t2, t3, t4, t5⟩, hS, ⟨l1, l2, l3, l4⟩, hM⟩
  · obtain ⟨a4, a5, a6, a7, a8⟩ := a3 (by omega)
    have e146 : S1.1 146 = S.1 146 := funext fun k => a5 _ _ (by unfold wU; omega) (by omega) (by omega)
    obtain ⟨S2, b1, b2, b3⟩ := m_rule (S := S1) (n := n) (r := L.length) ((a5 145 1 (by unfold wU; omega) (by omega) (by omega)).trans t3) t1 (by rw [e146]; exact t5) ((a5 145 2 (by unfold wU; omega) (by omega) (by omega)).trans l3) l1
    obtain ⟨b4, b5, b6, b7, b8⟩ := b3 (by omega)
    rw [e146] at b1 b7 b8
    rw [t4] at a1 a7 a8
    refine ⟨_, S1, S2, a1, b1, ?_⟩
    have f1 : ∀ a k, a ≤ 144 → S2.1 a k = S1.1 a k := fun a k h => b5 a k (by unfold wV wM9 wMr; omega) (by omega)
    have e1 : ∀ a k, ¬ wU a k → ¬ (a = 0 ∧ k = 10) → ¬ (a = 127 + 3 * L.length ∨ a = 128 + 3 * L.length) → ¬ wV L.length a k → ¬ (a = 145 ∧ (k = 2 ∨ k = 16)) → S2.1 a k = S.1 a k := fun a k h1 h2 h3 h4 h5 => (b5 a k h4 h5).trans (a5 a k h1 h2 h3)
    have e2 : ∀ a k, S2.2 a k = S.2 a k := fun a k => by rw [b6, a6]
    have h2 : S2.1 2 = S.1 2 := funext fun k => e1 _ _ (by unfold wU; omega) (by omega) (by omega) (by unfold wV wM9 wMr; omega) (by omega)
    have h146 : S2.1 146 = S.1 146 := funext fun k => e1 _ _ (by unfold wU; omega) (by omega) (by omega) (by unfold wV wM9 wMr; omega) (by omega)
    have hTp : rTp 0 S2 := ⟨by omega, (f1 _ _ (by omega)).trans a4, b4, by rw [h2, h146]; exact t4, by rw [h146]; exact t5⟩
    have hS2 : rSc s S2 := rSc_eq hS (fun a k _ _ => e1 a k (by unfold wU; omega) (by omega) (by omega) (by unfold wV wM9 wMr; omega) (by omega)) (fun a k _ _ => e2 a k) (by rw [e1 3 3 (by unfold wU; omega) (by omega) (by omega) (by unfold wV wM9 wMr; omega) (by omega)]; exact hS.2.1.2.2.2.2) (fun k => e1 _ _ (by unfold wU; omega) (by omega) (by omega) (by unfold wV wM9 wMr; omega) (by omega)) (fun a k _ => e2 a k)
    have hM2 : rIm M S2 := rIm_eq hM (fun a k _ _ => e1 a k (by unfold wU; omega) (by omega) (by omega) (by unfold wV wM9 wMr; omega) (by omega)) (fun a k _ _ => e2 a k) (fun k => e1 _ _ (by unfold wU; omega) (by omega) (by omega) (by unfold wV wM9 wMr; omega) (by omega)) (fun k => e2 _ k) (fun k => e1 _ _ (by unfold wU; omega) (by omega) (by omega) (by unfold wV wM9 wMr; omega) (by omega))
    have hold : ∀ r, r < L.length → cdC S2 (127 + 3 * r) (ccode (L.getD r [])) ∧ cdM S2 r (L.getD r []) := fun r hr => by
      obtain ⟨x, y⟩ := l4 r hr
      exact ⟨cdC_eq x (e1 _ _ (by unfold wU; omega) (by omega) (by omega) (by unfold wV wM9 wMr; omega) (by omega)) (fun k => e1 _ _ (by unfold wU; omega) (by omega) (by omega) (by unfold wV wM9 wMr; omega) (by omega)), cdM_eq2 y (fun k hk => e1 _ _ (by unfold wU; omega) (by omega) (by omega) (by unfold wV wM9 wMr; omega) (by omega)) (e1 _ _ (by unfold wU; omega) (by omega) (by omega) (by unfold wV wM9 wMr; omega) (by omega)) (fun k hk => e1 _ _ (by unfold wU; omega) (by omega) (by omega) (by unfold wV wM9 wMr; omega) (by omega)) (e1 _ _ (by unfold wU; omega) (by omega) (by omega) (by unfold wV wM9 wMr; omega) (by omega))⟩
    by_cases hz : (ru0 (S.1 146) n).1 = 0
    · obtain ⟨c1, c2⟩ := a8 hz
      obtain ⟨d1, d2⟩ := b8 hz
      refine ⟨0, s, L ++ [(ru0 (S.1 146) n).2], M, hTp, hS2, ⟨by rw [ln_app]; omega, by rw [ln_app, f1 0 10 (by omega)]; exact c1, by rw [ln_app]; exact d1, fun r hr => ?_⟩, hM2⟩
      rw [ln_app] at hr
      by_cases e : r = L.length
      · subst e
        rw [gd_r]
        exact ⟨cdC_eq c2 (f1 _ _ (by omega)) (fun k => f1 _ _ (by omega)), d2⟩
      · rw [gd_l (by omega)]
        exact hold r (by omega)
    · have c1 := a7 hz
      have d1 := b7 hz
      exact ⟨0, s, L, M, hTp, hS2, ⟨l1, by rw [f1 0 10 (by omega), c1 0 10 (by unfold wU; omega)]; exact l2, d1, hold⟩, hM2⟩
/-! go() -/
theorem mi_o {S : fS} {i m : Nat} (h : S.1 157 i = o3 m) (hi : i < 158) (hm : m < 2147483648) {v : Int32} : (if v < (0 : Int32) then some (0 : Int32) else (gI S 157 158 (o3 i)).bind fun a2 => if a2 ≤ v then some (0 : Int32) else some (1 : Int32)) = some (if 0 ≤ v.toInt ∧ v.toInt < m then 1 else 0) := by
  by_cases g : v < 0
  · rw [if_pos g, if_neg (by rw [ni_lt, ni_0] at g; omega)]
  · rw [if_neg g, gI_o hi (by omega), bd_some, h]
    rw [ni_lt, ni_0] at g
    by_cases z : v.toInt < m
    · rw [if_neg (by rw [ni_le, o3_int (by omega)]; omega), if_pos ⟨by omega, z⟩]
    · rw [if_pos (by rw [ni_le, o3_int (by omega)]; omega), if_neg (fun q => z q.2)]
theorem ci_floor {S : fS} {m : Nat} (h : S.1 4 6 = o3 m) (hm : m < 2147483648) {v : Int32} : f_X10_isFloor v S = some (if 0 ≤ v.toInt ∧ v.toInt < m then 1 else 0) := by
  unfold f_X10_isFloor
  rw [h, from_o hm, bd_some]
  split <;> rfl
theorem ci_thing {S : fS} {m : Nat} (h : S.1 11 5 = o3 m) (hm : m < 2147483648) {v : Int32} : f_X10_isThing v S = some (if 0 ≤ v.toInt ∧ v.toInt < m then 1 else 0) := by
  unfold f_X10_isThing
  rw [h, from_o hm, bd_some]
  split <;> rfl
theorem mi_floor {S : fS} {m : Nat} (h : S.1 157 0 = o3 m) (hm : m < 2147483648) {v : Int32} : f_X11_isFloor v S = some (if 0 ≤ v.toInt ∧ v.toInt < m then 1 else 0) := mi_o h (by omega) hm
theorem mi_stair {S : fS} {m : Nat} (h : S.1 157 1 = o3 m) (hm : m < 2147483648) {v : Int32} : f_X11_isStair v S = some (if 0 ≤ v.toInt ∧ v.toInt < m then 1 else 0) := mi_o h (by omega) hm
theorem mi_thing {S : fS} {m : Nat} (h : S.1 157 2 = o3 m) (hm : m < 2147483648) {v : Int32} : f_X11_isThing v S = some (if 0 ≤ v.toInt ∧ v.toInt < m then 1 else 0) := mi_o h (by omega) hm
theorem cOff_ok2 {m : Nat} {E : List St5} {C : Cw} {th s f : Nat} (hC : okD m E C) (hE : ∀ q ∈ E, okS m q) (hs : s < E.length) (ho : oeI (E.getD s d5) f ≠ -1) : okD m E (cOff C th s (oeI (E.getD s d5) f)) := by
  unfold oeI at ho
  by_cases h1 : (E.getD s d5).1 = f
  · refine cOff_ok (D := fun a b => if a = f then (E.getD s d5).2.2.1 else 0) (b := 0) hC hE hs (Or.inl ⟨h1, ?_, ?_⟩)
    · have := hE _ (gd_mem (d := d5) hs)
      obtain ⟨_, _, s3, _, s5, _⟩ := this
      dsimp only
      rw [if_neg (by omega)]; omega
    · have := hE _ (gd_mem (d := d5) hs)
      obtain ⟨_, _, s3, _, s5, _⟩ := this
      dsimp only
      rw [if_neg (by omega), if_pos rfl]
      omega
  · rw [if_neg h1] at ho
    by_cases h2 : (E.getD s d5).2.1 = f
    · refine cOff_ok (D := fun a b => if a = f then (E.getD s d5).2.2.1 else 0) (b := 0) hC hE hs (Or.inr ⟨h1, h2, ?_, ?_⟩)
      · dsimp only
        rw [if_neg h1]; omega
      · dsimp only
        rw [if_neg h1, if_pos rfl]
        omega
    · rw [if_neg h2] at ho; exact absurd rfl ho
/-- the crowd of a scene put in another's place -/
def snC (s : Sn) (C : Cw) : Sn := (s.1, s.2.1, C, s.2.2.2)
theorem rSc_cw {s : Sn} {S T : fS} {C : Cw} {p : Nat} (hp : 127 ≤ p ∧ p ≤ 142) (h : rSc s S) (hok : okC s.1.length s.2.1 C) (hc : cwC T 11 C) (hm : cwM (T.1 157) (T.2 158) C) (h1 : ∀ a k, 3 < a → a ≤ 21 → ¬ (11 ≤ a ∧ a ≤ 15) → T.1 a k = S.1 a k) (h2 : ∀ a k, 3 < a → a ≤ 21 → a ≠ 16 → T.2 a k = S.2 a k) (h3 : 0 ≤ (T.1 3 3).toInt) (h4 : ∀ k, ¬ (k = 3 ∨ (90 ≤ k ∧ k < 122)) → T.1 157 k = S.1 157 k) (h5 : ∀ k, T.2 161 k = S.2 161 k) : rSc (snC s C) T := by
  obtain ⟨⟨n1, n2, n3, n4, n5, n6⟩, ⟨b1, b2, b3, b4, b5⟩, ⟨m1, m2, m3, m4⟩, d⟩ := h
  refine ⟨⟨n1, n2, n3, n4, hok, n6⟩, ⟨?_, ?_, hc, ?_, h3⟩, ⟨?_, hm, ?_, ?_⟩, rHm_eq d h5⟩
  · exact twC_eq b1 (fun a k _ _ => h1 a k (by omega) (by omega) (by omega)) (fun a k _ _ => h2 a k (by omega) (by omega) (by omega))
  · exact rWm_eq b2 (fun k => h1 _ k (by omega) (by omega) (by omega))
  · exact poC_eq b4 (fun a k _ _ => h1 a k (by omega) (by omega) (by omega))
  · exact twM_eq n1 n2 m1 (fun k hk => h4 k (by omega))
  · obtain ⟨p1, p2⟩ := m3
    refine ⟨(h4 4 (by omega)).trans p1, fun k hk => ?_⟩
    obtain ⟨q1, q2, q3⟩ := p2 k hk
    exact ⟨(h4 _ (by omega)).trans q1, (h4 _ (by omega)).trans q2, (h4 _ (by omega)).trans q3⟩
  · show 0 ≤ (T.1 157 5).toInt
    rw [h4 5 (by omega)]; exact m4
theorem t_9 (a1 a2 : Int32) (S : fS) (hR : Rel S) : ∃ r S1 S2, f_X10_go a1 a2 S = some (r, S1) ∧ f_X11_go a1 a2 S1 = some (r, S2) ∧ Rel S2 := by
  have hR0 := hR
  obtain ⟨n, s, L, M, hT, hS, hL, hM⟩ := hR
  have hS0 := hS
  obtain ⟨⟨n1, n2, n3, n4, n5, n6⟩, ⟨b1, b2, b3, b4, b5⟩, ⟨m1, m2, m3, m4⟩, d⟩ := hS
  have h8 := n5.1
  unfold f_X10_go f_X10_isStanding
  rw [ci_thing b3.1 (by omega), bd_some]
  by_cases h1 : 0 ≤ a1.toInt ∧ a1.toInt < s.2.2.1.1
  · rw [if_pos h1]
    obtain ⟨th, e1, e2⟩ := o3_ex h1.1
    have hth : th < s.2.2.1.1 := by omega
    obtain ⟨k1, k2, k3, k4, k5⟩ := b3.2.2 th hth
    obtain ⟨j1, j2, j3, j4, j5⟩ := m2.2.2 th hth
    rw [if_neg (show ¬ (1 : Int32) = 0 by decide)]
    unfold f_X0_isStanding
    rw [e1, gI_o (by omega) (by omega), bd_some, k1]
    have hM1 : f_X11_isThing (o3 th) S = some 1 := by rw [mi_thing m2.1 (by omega), if_pos (by rw [o3_int (by omega)]; omega)]
    have ht0 : f_X11_thingOf (o3 th) 0 S = some (s.2.2.1.2.2.1 th) := (mw_thing (a := 0) (by omega) (by omega)).trans (congrArg some j1)
    by_cases h0 : s.2.2.1.2.2.1 th < 0
    · rw [if_pos h0, bd_some, if_pos rfl, bd_some, if_pos rfl]
      refine ⟨0, S, S, rfl, ?_, hR0⟩
      unfold f_X11_go
      rw [hM1, bd_some, if_neg (show ¬ (1 : Int32) = 0 by decide), mi_stair m1.2.1 (by omega), bd_some, ht0]
      by_cases hq : 0 ≤ a2.toInt ∧ a2.toInt < s.2.1.length
      · rw [if_pos hq, if_neg (show ¬ (1 : Int32) = 0 by decide), bd_some, if_pos h0]
      · rw [if_neg hq, if_pos rfl]
    · obtain ⟨f, f1, f2⟩ := okT_nn (n5.2.2 th hth).1 n1 h0
      rw [if_neg h0, bd_some, if_neg (show ¬ (1 : Int32) = 0 by decide), bd_some, if_neg (show ¬ (1 : Int32) = 0 by decide), b1.2.1, from_o (by omega), bd_some]
      by_cases h2 : 0 ≤ a2.toInt ∧ a2.toInt < s.2.1.length
      · rw [if_pos h2, if_neg (show ¬ (1 : Int32) = 0 by decide)]
        obtain ⟨st, g1, g2⟩ := o3_ex h2.1
        have hst : st < s.2.1.length := by omega
        rw [g1]
        have hsti : 0 ≤ (o3 st).toInt ∧ (o3 st).toInt < (s.2.1.length : Int) := by rw [o3_int (by omega)]; omega
        obtain ⟨S1, z1, z2, z3⟩ := ch_off b3 h8 b1 n4 n1 n2 hth hst f1 f2
        have z3 := z3 127
        rw [z1, bd_some]
        by_cases ho : oeI (s.2.1.getD st d5) f = -1
        · rw [if_pos ho]
          refine ⟨0, S, S, rfl, ?_, hR0⟩
          unfold f_X11_go
          rw [hM1, bd_some, if_neg (show ¬ (1 : Int32) = 0 by decide), mi_stair m1.2.1 (by omega), bd_some, if_pos hsti, if_neg (show ¬ (1 : Int32) = 0 by decide), ht0, bd_some, if_neg h0, bd_some, f2, mh_other m1 n4 n1 n2 hst (by omega), bd_some, ho, if_neg (by decide)]
        · rw [if_neg ho]
          have q157 : S1.1 157 = S.1 157 := funext fun k => z3.1 157 k (by omega) (by omega) (by omega)
          have q158 : S1.2 158 = S.2 158 := funext fun k => z3.2 158 k (by omega) (by omega)
          have m1' : twM (S1.1 157) s.1 s.2.1 := by rw [q157]; exact m1
          have m2' : cwM (S1.1 157) (S1.2 158) s.2.2.1 := by rw [q157, q158]; exact m2
          obtain ⟨S2, y1, y2, y3⟩ := mh_off m2' h8 m1' n4 n1 n2 hth hst f1 f2
          have hM1' : f_X11_isThing (o3 th) S1 = some 1 := by rw [mi_thing m2'.1 (by omega), if_pos (by rw [o3_int (by omega)]; omega)]
          have ht0' : f_X11_thingOf (o3 th) 0 S1 = some (s.2.2.1.2.2.1 th) := (mw_thing (a := 0) (by omega) (by omega)).trans (congrArg some ((m2'.2.2 th hth).1))
          have hge : (0 : Int32) ≤ oeI (s.2.1.getD st d5) f := by
            rcases oe_or (a := f) (n4 _ (gd_mem (d := d5) hst)) n1 with ⟨o, o1, o2, _⟩ | ⟨o2, _⟩
            · rw [o2]; exact o3_0le (by omega)
            · exact absurd o2 ho
          refine ⟨1, S1, S2, rfl, ?_, n, snC s (cOff s.2.2.1 th st (oeI (s.2.1.getD st d5) f)), L, M, ?_, ?_, ?_, ?_⟩
          · unfold f_X11_go
            rw [hM1', bd_some, if_neg (show ¬ (1 : Int32) = 0 by decide), mi_stair m1'.2.1 (by omega), bd_some, if_pos hsti, if_neg (show ¬ (1 : Int32) = 0 by decide), ht0', bd_some, if_neg h0, bd_some, f2, mh_other m1' n4 n1 n2 hst (by omega), bd_some, if_pos hge, y1, bd_some]
          · exact rTp_eq hT ((y3.1 _ _ (by omega) (by omega)).trans (z3.1 _ _ (by omega) (by omega) (by omega))) ((y3.1 _ _ (by omega) (by omega)).trans (z3.1 _ _ (by omega) (by omega) (by omega))) (fun k => (y3.1 _ _ (by omega) (by omega)).trans (z3.1 _ _ (by omega) (by omega) (by omega))) (fun k => (y3.1 _ _ (by omega) (by omega)).trans (z3.1 _ _ (by omega) (by omega) (by omega)))
          · refine rSc_cw (p := 127) (by omega) hS0 (okC_of (cOff_ok2 (okD_of n5) n4 hst ho) n5.2.1) ?_ y2 (fun a k _ _ _ => (y3.1 _ _ (by omega) (by omega)).trans (z3.1 _ _ (by omega) (by omega) (by omega))) (fun a k _ _ _ => (y3.2 _ _ (by omega) (by omega) (by omega)).trans (z3.2 _ _ (by omega) (by omega))) ?_ (fun k hk => (y3.1 _ _ (by omega) (by omega)).trans (z3.1 _ _ (by omega) (by omega) (by omega))) (fun k => (y3.2 _ _ (by omega) (by omega) (by omega)).trans (z3.2 _ _ (by omega) (by omega)))
            · exact cwC_eq z2 (fun a k _ _ => y3.1 _ _ (by omega) (by omega)) (fun k => y3.2 _ _ (by omega) (by omega) (by omega))
            · rw [y3.1 _ _ (by omega) (by omega), z3.1 _ _ (by omega) (by omega) (by omega)]; exact b5
          · exact rRu_eq hL ((y3.1 _ _ (by omega) (by omega)).trans (z3.1 _ _ (by omega) (by omega) (by omega))) ((y3.1 _ _ (by omega) (by omega)).trans (z3.1 _ _ (by omega) (by omega) (by omega))) (fun a k _ _ _ => (y3.1 _ _ (by omega) (by omega)).trans (z3.1 _ _ (by omega) (by omega) (by omega))) (fun a k _ => (y3.1 _ _ (by omega) (by omega)).trans (z3.1 _ _ (by omega) (by omega) (by omega)))
          · exact rIm_eq hM (fun a k _ _ => (y3.1 _ _ (by omega) (by omega)).trans (z3.1 _ _ (by omega) (by omega) (by omega))) (fun a k _ _ => (y3.2 _ _ (by omega) (by omega) (by omega)).trans (z3.2 _ _ (by omega) (by omega))) (fun k => (y3.1 _ _ (by omega) (by omega)).trans (z3.1 _ _ (by omega) (by omega) (by omega))) (fun k => (y3.2 _ _ (by omega) (by omega) (by omega)).trans (z3.2 _ _ (by omega) (by omega))) (fun k => (y3.1 _ _ (by omega) (by omega)).trans (z3.1 _ _ (by omega) (by omega) (by omega)))
      · rw [if_neg h2, if_pos rfl]
        refine ⟨0, S, S, rfl, ?_, hR0⟩
        unfold f_X11_go
        rw [hM1, bd_some, if_neg (show ¬ (1 : Int32) = 0 by decide), mi_stair m1.2.1 (by omega), bd_some, if_neg h2, if_pos rfl]
  · rw [if_neg h1, if_pos rfl, bd_some, if_pos rfl]
    refine ⟨0, S, S, rfl, ?_, hR0⟩
    unfold f_X11_go
    rw [mi_thing m2.1 (by omega), bd_some, if_neg h1, if_pos rfl]
/-! tick() -/
theorem from_c {v : Int32} {a b : Nat} {S : fS} (ha : a < 2147483648) (hb : b < 2147483648) : f_X10_isFrom v (o3 a) (o3 b) S = some (if (a : Int) ≤ v.toInt ∧ v.toInt ≤ b then 1 else 0) := by
  rcases op_isFrom01 (v := v) (a := o3 a) (b := o3 b) (S := S) with ⟨h, g⟩ | ⟨h, g1, g2⟩
  · rw [o3_int ha, o3_int hb] at g
    rw [h, if_neg g]
  · rw [o3_int ha] at g1
    rw [o3_int hb] at g2
    rw [h, if_pos ⟨g1, g2⟩]
theorem in_c {v : Int32} {a b : Nat} {S : fS} (ha : a < 2147483648) (hb : b < 2147483648) : f_X11_in (Int32.toInt64 v) (o6 a) (o6 b) S = some (if (a : Int) ≤ v.toInt ∧ v.toInt ≤ b then 1 else 0) := by
  rw [← o6_of3 ha, ← o6_of3 hb, op_in, from_c ha hb]
theorem rn_o {v : Int32} {m : Nat} {S : fS} (h : S.1 0 10 = o3 m) (hm : m < 2147483648) : f_X10_isRuleOrNone v S = some (if -1 ≤ v.toInt ∧ v.toInt < m then 1 else 0) := by
  unfold f_X10_isRuleOrNone
  have e : (o3 m - 1 : Int32).toInt = (m : Int) - 1 := by
    rw [ni_sub (by rw [o3_int hm, show (1 : Int32).toInt = 1 from rfl]; omega) (by rw [o3_int hm, show (1 : Int32).toInt = 1 from rfl]; omega), o3_int hm]
    rfl
  rw [h]
  rcases op_isFrom01 (v := v) (a := -1) (b := o3 m - 1) (S := S) with ⟨h, g⟩ | ⟨h, g1, g2⟩
  · rw [h, bd_some, if_neg (by rw [e, show (-1 : Int32).toInt = -1 from rfl] at g; omega)]
    rfl
  · rw [h, bd_some, if_pos (by rw [e] at g2; rw [show (-1 : Int32).toInt = -1 from rfl] at g1; omega)]
    rfl
theorem mr_o {v : Int32} {m : Nat} {S : fS} (h : S.1 145 2 = o3 m) (hm : m < 2147483648) : f_X11_isRule v S = some (if 0 ≤ v.toInt ∧ v.toInt < m then 1 else 0) := by
  unfold f_X11_isRule
  rw [h]
  by_cases g : v < 0
  · rw [if_pos g, if_neg (by rw [ni_lt, ni_0] at g; omega)]
  · rw [if_neg g]
    rw [ni_lt, ni_0] at g
    by_cases z : v.toInt < m
    · rw [if_neg (by rw [ni_le, o3_int (by omega)]; omega), if_pos ⟨by omega, z⟩]
    · rw [if_pos (by rw [ni_le, o3_int (by omega)]; omega), if_neg (fun q => z q.2)]
/-- a rule's number or none: on both sides -/
theorem ru_both {v : Int32} {S : fS} {L : List (List Cl)} (hL : rRu L S) (hv : -1 ≤ v.toInt ∧ v.toInt < L.length) : ∃ p Q, f_X10_ruleOrNull v S = some p ∧ (∀ T : fS, (∀ r, r < L.length → cdC T (127 + 3 * r) (ccode (L.getD r []))) → ruC T p Q) ∧ (∀ T : fS, (∀ r, r < L.length → cdM T r (L.getD r [])) → ruM T v Q) ∧ 127 ≤ p.getD 127 ∧ p.getD 127 ≤ 142 ∧ (p.getD 127) % 3 = 1 := by
  obtain ⟨l1, l2, l3, l4⟩ := hL
  unfold f_X10_ruleOrNull
  rw [l2, from_o (by omega), bd_some]
  by_cases h : 0 ≤ v.toInt
  · rw [if_pos (show 0 ≤ v.toInt ∧ v.toInt < (L.length : Int) from ⟨h, hv.2⟩), if_neg (show ¬ (1 : Int32) = 0 by decide)]
    obtain ⟨r, e1, e2⟩ := o3_ex h
    have hr : r < L.length := by omega
    rw [e1, gA23_o (by omega), bd_some]
    refine ⟨some (127 + 3 * r), some (L.getD r []), rfl, fun T hT => Or.inr ⟨_, _, rfl, rfl, hT r hr, (l4 r hr).2.2.2.2.2.1⟩, fun T hT => Or.inr ⟨r, _, by omega, rfl, rfl, hT r hr⟩, ?_, ?_, ?_⟩
    · show 127 ≤ 127 + 3 * r; omega
    · show 127 + 3 * r ≤ 142; omega
    · show (127 + 3 * r) % 3 = 1; omega
  · rw [if_neg (show ¬ (0 ≤ v.toInt ∧ v.toInt < (L.length : Int)) from fun q => h q.1), if_pos rfl]
    have e : v = -1 := ni_eq.mpr (by show v.toInt = -1; omega)
    exact ⟨none, none, rfl, fun T _ => Or.inl ⟨rfl, rfl⟩, fun T _ => Or.inl ⟨e, rfl⟩, by decide, by decide, by decide⟩
theorem cHrs_ok {F : List (Nat × Nat)} {E : List St5} {Q : Option (List Cl)} (hF : ∀ q ∈ F, okF q) (hE : ∀ q ∈ E, okS F.length q) (hm : F.length ≤ 10) (hl : E.length ≤ 12) : ∀ d (C : Cw), okD F.length E C → C.2.1 + d ≤ 10199 → okD F.length E (cHrs F E Q d C) ∧ (cHrs F E Q d C).1 = C.1 ∧ (cHrs F E Q d C).2.1 = C.2.1 + d := by
  intro d
  induction d with
  | zero => intro C hC _; exact ⟨hC, rfl, rfl⟩
  | succ d ih =>
    intro C hC h9
    obtain ⟨a, b, c⟩ := cHr_ok (Q := Q) hC hF hE hm hl (by omega)
    obtain ⟨x, y, z⟩ := ih (cHr F E Q C) a (by omega)
    exact ⟨x, y.trans b, by rw [show cHrs F E Q (d + 1) C = cHrs F E Q d (cHr F E Q C) from rfl, z, c]; omega⟩
theorem t_10 (a1 a2 : Int32) (S : fS) (hR : Rel S) : ∃ r S1 S2, f_X10_tick a1 a2 S = some (r, S1) ∧ f_X11_tick a1 a2 S1 = some (r, S2) ∧ Rel S2 := by
  have hR0 := hR
  obtain ⟨n, s, L, M, hT, hS, hL, hM⟩ := hR
  have hS0 := hS
  have hL0 := hL
  obtain ⟨⟨n1, n2, n3, n4, n5, n6⟩, ⟨b1, b2, b3, b4, b5⟩, ⟨m1, m2, m3, m4⟩, d⟩ := hS
  obtain ⟨l1, l2, l3, l4⟩ := hL
  have h9 := n5.2.1
  /- the reference, in one form -/
  have hm : ∀ T : fS, T.1 145 2 = o3 L.length → T.1 157 3 = o3 s.2.2.1.2.1 → f_X11_tick a1 a2 T = if -1 ≤ a1.toInt ∧ a1.toInt < L.length then (if (1 : Int) ≤ a2.toInt ∧ a2.toInt ≤ 200 then (if o3 s.2.2.1.2.1 + a2 ≤ (9999 : Int32) then lp_X11_tick_43 a1 a2 (fun S14 => (gI S14 157 158 (3 : Int32)).bind fun a16 => some (a16, S14)) FU (0 : Int32) T else some (-1, T)) else some (-1, T)) else some (-1, T) := fun T h2 h3 => by
    unfold f_X11_tick
    have hin : f_X11_in (Int32.toInt64 a2) 1 200 T = some (if (1 : Int) ≤ a2.toInt ∧ a2.toInt ≤ 200 then 1 else 0) := in_c (a := 1) (b := 200) (by omega) (by omega)
    have hg : gI T 157 158 3 = some (o3 s.2.2.1.2.1) := (gI_o (k := 3) (by omega) (by omega)).trans (congrArg some h3)
    have hrest : ((f_X11_in (Int32.toInt64 a2) 1 200 T).bind fun q2 => if q2 = (0 : Int32) then (some ((-1 : Int32), T)) else ((gI T 157 158 (3 : Int32)).bind fun a6 => if (a6 + a2) ≤ (9999 : Int32) then (lp_X11_tick_43 a1 a2 (fun S14 => (gI S14 157 158 (3 : Int32)).bind fun a16 => some (a16, S14)) FU (0 : Int32) T) else (some ((-1 : Int32), T)))) = (if (1 : Int) ≤ a2.toInt ∧ a2.toInt ≤ 200 then (if o3 s.2.2.1.2.1 + a2 ≤ (9999 : Int32) then lp_X11_tick_43 a1 a2 (fun S14 => (gI S14 157 158 (3 : Int32)).bind fun a16 => some (a16, S14)) FU (0 : Int32) T else some (-1, T)) else some (-1, T)) := by
      rw [hin, bd_some]
      by_cases z : (1 : Int) ≤ a2.toInt ∧ a2.toInt ≤ 200
      · rw [if_pos z, if_pos z, if_neg (show ¬ (1 : Int32) = 0 by decide), hg, bd_some]
      · rw [if_neg z, if_neg z, if_pos rfl]
    by_cases h1 : a1 = -1
    · rw [if_pos h1, hrest, if_pos (show -1 ≤ a1.toInt ∧ a1.toInt < (L.length : Int) from by rw [h1, show (-1 : Int32).toInt = -1 from rfl]; omega)]
    · rw [if_neg h1, mr_o h2 (by omega), bd_some]
      have h1' : a1.toInt ≠ -1 := fun q => h1 (ni_eq.mpr q)
      by_cases z : 0 ≤ a1.toInt ∧ a1.toInt < L.length
      · rw [if_pos z, if_neg (show ¬ (1 : Int32) = 0 by decide), hrest, if_pos (show -1 ≤ a1.toInt ∧ a1.toInt < (L.length : Int) by omega)]
      · rw [if_neg z, if_pos rfl, if_neg (show ¬ (-1 ≤ a1.toInt ∧ a1.toInt < (L.length : Int)) by omega)]
  unfold f_X10_tick
  rw [rn_o l2 (by omega), bd_some]
  by_cases h1 : -1 ≤ a1.toInt ∧ a1.toInt < L.length
  · have hfr : f_X10_isFrom a2 1 200 S = some (if (1 : Int) ≤ a2.toInt ∧ a2.toInt ≤ 200 then 1 else 0) := from_c (a := 1) (b := 200) (by omega) (by omega)
    rw [if_pos h1, if_neg (show ¬ (1 : Int32) = 0 by decide), hfr, bd_some]
    by_cases h2 : (1 : Int) ≤ a2.toInt ∧ a2.toInt ≤ 200
    · rw [if_pos h2, if_neg (show ¬ (1 : Int32) = 0 by decide), b3.2.1]
      by_cases h3 : o3 s.2.2.1.2.1 + a2 ≤ (9999 : Int32)
      · rw [if_pos h3]
        obtain ⟨h, g1, g2⟩ := o3_ex (x := a2) (by omega)
        have h9' : s.2.2.1.2.1 + h ≤ 9999 := by
          rw [g1, o3_add] at h3
          exact (o3_le (b := 9999) (by omega) (by omega)).mp h3
        obtain ⟨p, Q, p1, p2, p3, p4, p5, p6⟩ := ru_both hL0 h1
        rw [p1, bd_some, g1]
        obtain ⟨S1, z1, z2, z3⟩ := c_live (p := p) (Q := Q) (t := 4) (c := 11) (by omega) (by omega) n3 n4 n1 n2 (h := h) (by omega) (K := fun S12 => some S12) h 0 FU S s.2.2.1 (by omega) (FU_lt (by omega)) (okD_of n5) (by omega) b3 b1 b2 (p2 S (fun r hr => (l4 r hr).1))
        have z1' : f_X0_live 11 4 p (o3 h) S = some S1 := z1
        have q157 : S1.1 157 = S.1 157 := funext fun k => z3.1 157 k (by omega) (by omega) (by omega)
        have q158 : S1.2 158 = S.2 158 := funext fun k => z3.2 158 k (by omega) (by omega)
        obtain ⟨c1, c2, c3⟩ := cHrs_ok (Q := Q) n3 n4 n1 n2 h s.2.2.1 (okD_of n5) (by omega)
        obtain ⟨S2, y1, y2, y3⟩ := m_tickl (v := a1) (Q := Q) n3 n4 n1 n2 (h := h) (by omega) (K := fun S14 => (gI S14 157 158 (3 : Int32)).bind fun a16 => some (a16, S14)) h 0 FU S1 s.2.2.1 (by omega) (FU_lt (by omega)) (okD_of n5) (by omega) (by rw [q157, q158]; exact m2) (by rw [q157]; exact m1) (rHm_eq d (fun k => z3.2 _ k (by omega) (by omega))) (p3 S1 (fun r hr => cdM_eq (l4 r hr).2 (fun a k _ => z3.1 a k (by omega) (by omega) (by omega))))
        have y1' : lp_X11_tick_43 a1 (o3 h) (fun S14 => (gI S14 157 158 (3 : Int32)).bind fun a16 => some (a16, S14)) FU (0 : Int32) S1 = (gI S2 157 158 (3 : Int32)).bind fun a16 => some (a16, S2) := y1
        have e1 : ∀ a k, ¬ (11 ≤ a ∧ a ≤ 15) → ¬ (a = p.getD 127 ∧ k = 3) → ¬ (a = 157 ∧ (k = 3 ∨ (90 ≤ k ∧ k < 122))) → ¬ (a = 145 ∧ k = 23) → S2.1 a k = S.1 a k := fun a k x1 x2 x3 x4 => (y3.1 a k x3 x4).trans (z3.1 a k (by omega) (by omega) x2)
        have e2 : ∀ a k, a ≠ 16 → a ≠ p.getD 127 + 2 → a ≠ 155 → a ≠ 156 → a ≠ 158 → S2.2 a k = S.2 a k := fun a k x1 x2 x3 x4 x5 => (y3.2 a k x3 x4 x5).trans (z3.2 a k x1 x2)
        rw [z1', bd_some]
        refine ⟨_, S1, S2, rfl, ?_, n, snC s (cHrs s.1 s.2.1 Q h s.2.2.1), L, M, ?_, ?_, ?_, ?_⟩
        · rw [← g1, hm S1 ((z3.1 _ _ (by omega) (by omega) (by omega)).trans l3) (by rw [q157]; exact m2.2.1), if_pos h1, if_pos h2, if_pos h3, g1, y1', show (3 : Int32) = o3 3 from rfl, gI_o (by omega) (by omega), bd_some, y2.2.1, z2.2.1]
        · exact rTp_eq hT (e1 _ _ (by omega) (by omega) (by omega) (by omega)) (e1 _ _ (by omega) (by omega) (by omega) (by omega)) (fun k => e1 _ _ (by omega) (by omega) (by omega) (by omega)) (fun k => e1 _ _ (by omega) (by omega) (by omega) (by omega))
        · refine rSc_cw (p := 127) (by omega) hS0 (okC_of c1 (by rw [c3]; exact h9')) ?_ y2 (fun a k _ _ _ => e1 a k (by omega) (by omega) (by omega) (by omega)) (fun a k _ _ _ => e2 a k (by omega) (by omega) (by omega) (by omega) (by omega)) ?_ (fun k hk => e1 _ _ (by omega) (by omega) (by omega) (by omega)) (fun k => e2 _ k (by omega) (by omega) (by omega) (by omega) (by omega))
          · exact cwC_eq z2 (fun a k _ _ => y3.1 _ _ (by omega) (by omega)) (fun k => y3.2 _ _ (by omega) (by omega) (by omega))
          · rw [e1 3 3 (by omega) (by omega) (by omega) (by omega)]; exact b5
        · exact rRu_eq hL0 (e1 _ _ (by omega) (by omega) (by omega) (by omega)) (e1 _ _ (by omega) (by omega) (by omega) (by omega)) (fun a k x1 x2 x3 => e1 a k (by omega) (by omega) (by omega) (by omega)) (fun a k _ => e1 a k (by omega) (by omega) (by omega) (by omega))
        · exact rIm_eq hM (fun a k _ _ => e1 a k (by omega) (by omega) (by omega) (by omega)) (fun a k _ _ => e2 a k (by omega) (by omega) (by omega) (by omega) (by omega)) (fun k => e1 _ _ (by omega) (by omega) (by omega) (by omega)) (fun k => e2 _ k (by omega) (by omega) (by omega) (by omega) (by omega)) (fun k => e1 _ _ (by omega) (by omega) (by omega) (by omega))
      · rw [if_neg h3]
        exact ⟨-1, S, S, rfl, by rw [hm S l3 m2.2.1, if_pos h1, if_pos h2, if_neg h3], hR0⟩
    · rw [if_neg h2, if_pos rfl]
      exact ⟨-1, S, S, rfl, by rw [hm S l3 m2.2.1, if_pos h1, if_neg h2], hR0⟩
  · rw [if_neg h1, if_pos rfl]
    exact ⟨-1, S, S, rfl, by rw [hm S l3 m2.2.1, if_neg h1], hR0⟩
end
section
/-! lowest terms -/
theorem hlf {r b : Nat} (hr : r ≠ 0) (h : r ≤ b) : 2 * (b % r) < b := by
  have h1 : b % r < r := Nat.mod_lt _ (by omega)
  have h2 : r * (b / r) + b % r = b := Nat.div_add_mod b r
  have h3 : 1 ≤ b / r := (Nat.one_le_div_iff (by omega)).mpr h
  have h4 : r * 1 ≤ r * (b / r) := Nat.mul_le_mul_left r h3
  omega
theorem gcd_st (a b : Nat) : Nat.gcd b (a % b) = Nat.gcd a b := by
  rw [Nat.gcd_comm b (a % b), ← Nat.gcd_rec, Nat.gcd_comm]
section GC
variable {S : fS}
theorem cg_lp {K : Int64 → Option Int64} : ∀ k a b p nn, b < 2 ^ k → a < 9223372036854775808 → b < 9223372036854775808 → p + 2 * k ≤ 127 → 2 * k < nn → lp_X10_commonDivisor_15 S K nn (o6 a) (o6 b) (o3 p) = K (o6 (Nat.gcd a b)) := by
  intro k
  induction k with
  | zero =>
    intro a b p nn hb ha hb2 hp hnn
    obtain ⟨nn, rfl⟩ : ∃ z, nn = z + 1 := ⟨nn - 1, by omega⟩
    have e : b = 0 := by have : b < 1 := hb; omega
    rw [lp_X10_commonDivisor_15.eq_2, if_neg (show ¬ (128 : Int32) ≤ o3 p from fun q => by have := (o3_le (a := 128) (by omega) (by omega)).mp q; omega), e, if_pos (show o6 0 = (0 : Int64) from rfl), Nat.gcd_zero_right]
  | succ k ih =>
    intro a b p nn hb ha hb2 hp hnn
    obtain ⟨nn, rfl⟩ : ∃ z, nn = z + 2 := ⟨nn - 2, by omega⟩
    rw [lp_X10_commonDivisor_15.eq_2, if_neg (show ¬ (128 : Int32) ≤ o3 p from fun q => by have := (o3_le (a := 128) (by omega) (by omega)).mp q; omega)]
    by_cases h0 : b = 0
    · rw [h0, if_pos (show o6 0 = (0 : Int64) from rfl), Nat.gcd_zero_right]
    · rw [if_neg (o6_ne0 hb2 h0), o6_rL ha hb2 h0, bd_some, o3_s]
      have hr : a % b < b := Nat.mod_lt _ (by omega)
      rw [lp_X10_commonDivisor_15.eq_2, if_neg (show ¬ (128 : Int32) ≤ o3 (p + 1) from fun q => by have := (o3_le (a := 128) (by omega) (by omega)).mp q; omega), ← gcd_st a b]
      by_cases h1 : a % b = 0
      · rw [h1, if_pos (show o6 0 = (0 : Int64) from rfl), Nat.gcd_zero_right]
      · rw [if_neg (o6_ne0 (by omega) h1), o6_rL hb2 (by omega) h1, bd_some, o3_s, ← gcd_st b (a % b)]
        have h2 := hlf h1 (Nat.le_of_lt hr)
        have h3 : b % (a % b) < 2 ^ k := by
          have : (2 : Nat) ^ (k + 1) = 2 * 2 ^ k := by rw [Nat.pow_succ]; omega
          omega
        exact ih (a % b) (b % (a % b)) (p + 1 + 1) nn h3 (by omega) (by omega) (by omega) (by omega)
theorem mg_lp {K : Int64 → Option Int64} : ∀ k a b nn, b < 2 ^ k → a < 9223372036854775808 → b < 9223372036854775808 → 2 * k < nn → lp_X11_divisor_28 S K nn (o6 a) (o6 b) = K (o6 (Nat.gcd a b)) := by
  intro k
  induction k with
  | zero =>
    intro a b nn hb ha hb2 hnn
    obtain ⟨nn, rfl⟩ : ∃ z, nn = z + 1 := ⟨nn - 1, by omega⟩
    have e : b = 0 := by have : b < 1 := hb; omega
    rw [lp_X11_divisor_28.eq_2, e, if_pos (show o6 0 = (0 : Int64) from rfl), Nat.gcd_zero_right]
  | succ k ih =>
    intro a b nn hb ha hb2 hnn
    obtain ⟨nn, rfl⟩ : ∃ z, nn = z + 2 := ⟨nn - 2, by omega⟩
    rw [lp_X11_divisor_28.eq_2]
    by_cases h0 : b = 0
    · rw [h0, if_pos (show o6 0 = (0 : Int64) from rfl), Nat.gcd_zero_right]
    · rw [if_neg (o6_ne0 hb2 h0), o6_rL ha hb2 h0, bd_some]
      have hr : a % b < b := Nat.mod_lt _ (by omega)
      rw [lp_X11_divisor_28.eq_2, ← gcd_st a b]
      by_cases h1 : a % b = 0
      · rw [h1, if_pos (show o6 0 = (0 : Int64) from rfl), Nat.gcd_zero_right]
      · rw [if_neg (o6_ne0 (by omega) h1), o6_rL hb2 (by omega) h1, bd_some, ← gcd_st b (a % b)]
        have h2 := hlf h1 (Nat.le_of_lt hr)
        have h3 : b % (a % b) < 2 ^ k := by
          have : (2 : Nat) ^ (k + 1) = 2 * 2 ^ k := by rw [Nat.pow_succ]; omega
          omega
        exact ih (a % b) (b % (a % b)) nn h3 (by omega) (by omega) (by omega)
theorem c_cd {a b : Nat} (ha : a < 9223372036854775808) (hb : b < 9223372036854775808) : f_X10_commonDivisor (o6 a) (o6 b) S = some (o6 (Nat.gcd a b)) := by
  unfold f_X10_commonDivisor f_J9_abs_067f4
  rw [if_pos (o6_0le ha), if_pos (o6_0le hb), bd_some, bd_some]
  exact cg_lp (K := fun u12 => some u12) 63 a b 0 FU hb ha hb (by omega) (FU_lt (by omega))
theorem m_cd {a b : Nat} (ha : a < 9223372036854775808) (hb : b < 9223372036854775808) : f_X11_divisor (o6 a) (o6 b) S = some (o6 (Nat.gcd a b)) := by
  unfold f_X11_divisor
  rw [if_pos (o6_0le ha), if_pos (o6_0le hb)]
  exact mg_lp (K := fun u7 => some u7) 63 a b FU hb ha hb (FU_lt (by omega))
/-- the numerator, or the denominator, of a / b in lowest terms -/
def lw (a b : Nat) (v : Int32) : Int64 := if v = 0 then o6 (a / Nat.gcd a b) else o6 (b / Nat.gcd a b)
theorem gcd_lt {a b : Nat} (ha : a < 9223372036854775808) (hb : b < 9223372036854775808) (h0 : 0 < b) : Nat.gcd a b < 9223372036854775808 ∧ Nat.gcd a b ≠ 0 := by
  have h1 := Nat.gcd_le_right a h0
  have h2 := Nat.gcd_pos_of_pos_right a h0
  omega
theorem c_low {a b : Nat} {v : Int32} (ha : a < 9223372036854775808) (hb : b < 9223372036854775808) (h0 : 0 < b) : f_X10_lowest (o6 a) (o6 b) v S = some (lw a b v) := by
  obtain ⟨g1, g2⟩ := gcd_lt ha hb h0
  unfold f_X10_lowest lw
  rw [c_cd ha hb, bd_some, if_neg (o6_ne0 g1 g2), o6_dL ha g1 g2, o6_dL hb g1 g2, bd_some, bd_some]
  split <;> rfl
theorem m_low {a b : Nat} {v : Int32} (ha : a < 9223372036854775808) (hb : b < 9223372036854775808) (h0 : 0 < b) : f_X11_lowest (o6 a) (o6 b) v S = some (lw a b v) := by
  obtain ⟨g1, g2⟩ := gcd_lt ha hb h0
  unfold f_X11_lowest lw
  rw [m_cd ha hb, bd_some, o6_dL ha g1 g2, o6_dL hb g1 g2, bd_some, bd_some]
  split <;> rfl
end GC
theorem lw_sc {a b z : Nat} {v : Int32} (hz : 0 < z) : lw (a * z) (b * z) v = lw a b v := by
  unfold lw
  rw [Nat.gcd_mul_right, Nat.mul_div_mul_right _ _ hz, Nat.mul_div_mul_right _ _ hz]
theorem lw_cross {a b c d : Nat} {v : Int32} (hb : 0 < b) (hd : 0 < d) (h : a * d = c * b) : lw a b v = lw c d v := by
  rw [← lw_sc (a := a) (b := b) hd, h, Nat.mul_comm b d, lw_sc hb]
theorem lw_le {a b : Nat} {v : Int32} (ha : a < 9223372036854775808) (hb : b < 9223372036854775808) (h0 : 0 < b) : ∃ k, lw a b v = o6 k ∧ k ≤ (if v = 0 then a else b) := by
  unfold lw
  by_cases h : v = 0
  · rw [if_pos h, if_pos h]; exact ⟨_, rfl, Nat.div_le_self _ _⟩
  · rw [if_neg h, if_neg h]; exact ⟨_, rfl, Nat.div_le_self _ _⟩
/-- the rate's own number of parts -/
def pz (q : Nat × Nat) : Nat := 232792560 / q.2
theorem pz_eq {q : Nat × Nat} (h : okF q) : pz q * q.2 = 232792560 ∧ 0 < pz q ∧ pz q ≤ 232792560 := by
  obtain ⟨h1, h2, h3, h4⟩ := h
  have hd : 232792560 / q.2 * q.2 = 232792560 := by
    have : q.2 = 1 ∨ q.2 = 2 ∨ q.2 = 3 ∨ q.2 = 4 ∨ q.2 = 5 ∨ q.2 = 6 ∨ q.2 = 7 ∨ q.2 = 8 ∨ q.2 = 9 ∨ q.2 = 10 ∨ q.2 = 11 ∨ q.2 = 12 ∨ q.2 = 13 ∨ q.2 = 14 ∨ q.2 = 15 ∨ q.2 = 16 ∨ q.2 = 17 ∨ q.2 = 18 ∨ q.2 = 19 ∨ q.2 = 20 := by omega
    rcases this with e | e | e | e | e | e | e | e | e | e | e | e | e | e | e | e | e | e | e | e <;> rw [e]
  exact ⟨hd, Nat.div_pos (by omega) (by omega), Nat.div_le_self _ _⟩
theorem pc_o {q : Nat × Nat} : pc q = o6 (q.1 * pz q) := rfl
theorem pcn_le {q : Nat × Nat} (h : okF q) : 0 < q.1 * pz q ∧ q.1 * pz q ≤ 4655851200 := by
  obtain ⟨_, h2, h3⟩ := pz_eq h
  have := h.1
  have h5 : q.1 * pz q ≤ 20 * 232792560 := Nat.mul_le_mul h.2.1 h3
  exact ⟨Nat.mul_pos (by omega) h2, by omega⟩
end
