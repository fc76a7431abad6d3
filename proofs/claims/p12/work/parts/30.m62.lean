section
/-! the reference: an hour -/
def eI (S T : fS) : Prop := (∀ a k, ¬ (a = 157 ∧ (k = 3 ∨ (90 ≤ k ∧ k < 122))) → ¬ (a = 145 ∧ k = 23) → T.1 a k = S.1 a k) ∧ (∀ a k, a ≠ 155 → a ≠ 156 → a ≠ 158 → T.2 a k = S.2 a k)
theorem eI.rf {S : fS} : eI S S := ⟨fun _ _ _ _ => rfl, fun _ _ _ _ _ => rfl⟩
theorem eI.tr {S T U : fS} (h : eI S T) (g : eI T U) : eI S U := ⟨fun a k x y => (g.1 a k x y).trans (h.1 a k x y), fun a k x y z => (g.2 a k x y z).trans (h.2 a k x y z)⟩
theorem eI_J {S T : fS} (h : eJ S T) : eI S T := ⟨fun a k _ y => h.1 a k y, fun a k x _ _ => h.2 a k x⟩
theorem eI_W {S T : fS} (h : eW S T) : eI S T := ⟨fun a k _ _ => by rw [h.1], fun a k _ y _ => h.2 a k y⟩
theorem twM_eq {I J : Nat → Int32} {F : List (Nat × Nat)} {E : List St5} (hF : F.length ≤ 10) (hE : E.length ≤ 12) (h : twM I F E) (h1 : ∀ k, k < 2 ∨ (10 ≤ k ∧ k < 90) → J k = I k) : twM J F E := by
  obtain ⟨a, b, c, d⟩ := h
  refine ⟨(h1 _ (by omega)).trans a, (h1 _ (by omega)).trans b, fun k hk => ?_, fun k hk => ?_⟩
  · obtain ⟨e1, e2⟩ := c k hk
    exact ⟨(h1 _ (by omega)).trans e1, (h1 _ (by omega)).trans e2⟩
  · obtain ⟨e1, e2, e3, e4, e5⟩ := d k hk
    exact ⟨(h1 _ (by omega)).trans e1, (h1 _ (by omega)).trans e2, (h1 _ (by omega)).trans e3, (h1 _ (by omega)).trans e4, (h1 _ (by omega)).trans e5⟩
theorem rHm_eq {S T : fS} {m : Nat} {w : Mx} (h : rHm S m w) (h1 : ∀ k, T.2 161 k = S.2 161 k) : rHm T m w := fun a b ha hb => (h1 _).trans (h a b ha hb)
theorem cdM_eq {S T : fS} {x : Nat} {L : List Cl} (h : cdM S x L) (h1 : ∀ a k, a = 147 ∨ (a = 148 ∧ k = x) ∨ a = 149 ∨ a = 150 → T.1 a k = S.1 a k) : cdM T x L := by
  obtain ⟨a, b, c, d, e, f⟩ := h
  exact ⟨clM_eq a (h1 _ _ (by omega)) (fun k _ => h1 _ _ (by omega)), b, (h1 _ _ (by omega)).trans c, d, e, fun k hk => (h1 _ _ (by omega)).trans (f k hk)⟩
section MHR
variable {S : fS} {F : List (Nat × Nat)} {E : List St5} {C : Cw}
theorem mh_stair (hT : twM (S.1 157) F E) (hl : E.length ≤ 12) {k : Nat} (hk : k < E.length) : f_X11_stairOf (o3 k) (o3 0) S = some (o3 (E.getD k d5).1) ∧ f_X11_stairOf (o3 k) (o3 1) S = some (o3 (E.getD k d5).2.1) ∧ f_X11_stairOf (o3 k) (o3 2) S = some (o3 (E.getD k d5).2.2.1) ∧ f_X11_stairOf (o3 k) (o3 3) S = some (o3 (E.getD k d5).2.2.2.1) ∧ f_X11_stairOf (o3 k) (o3 4) S = some (o3 (E.getD k d5).2.2.2.2) := by
  obtain ⟨e1, e2, e3, e4, e5⟩ := hT.2.2.2 k hk
  have key : ∀ a, a < 5 → f_X11_stairOf (o3 k) (o3 a) S = some (S.1 157 (30 + 5 * k + a)) := fun a ha => by
    unfold f_X11_stairOf
    rw [show (30 : Int32) = o3 30 from rfl, show (5 : Int32) = o3 5 from rfl, o3_mul, o3_add, o3_add, gI_o (by omega) (by omega), bd_some]
  rw [key 0 (by omega), key 1 (by omega), key 2 (by omega), key 3 (by omega), key 4 (by omega)]
  exact ⟨by rw [Nat.add_zero, e1], by rw [← e2], by rw [← e3], by rw [← e4], by rw [← e5]⟩
theorem mh_other (hT : twM (S.1 157) F E) (hE : ∀ q ∈ E, okS F.length q) (hm : F.length ≤ 10) (hl : E.length ≤ 12) {k a : Nat} (hk : k < E.length) (ha : a < 2147483648) : f_X11_otherEnd (o3 k) (o3 a) S = some (oeI (E.getD k d5) a) := by
  obtain ⟨s1, s2, _⟩ := hE _ (gd_mem (d := d5) hk)
  obtain ⟨e1, e2, _⟩ := mh_stair hT hl hk
  have e1 : f_X11_stairOf (o3 k) 0 S = some (o3 (E.getD k d5).1) := e1
  have e2 : f_X11_stairOf (o3 k) 1 S = some (o3 (E.getD k d5).2.1) := e2
  unfold f_X11_otherEnd oeI
  rw [e1, bd_some, e2, bd_some, bd_some, bd_some]
  by_cases h : (E.getD k d5).1 = a
  · rw [if_pos ((o3_inj (by omega) ha).mpr h), if_pos h]
  · rw [if_neg (fun q => h ((o3_inj (by omega) ha).mp q)), if_neg h]
    by_cases g : (E.getD k d5).2.1 = a
    · rw [if_pos ((o3_inj (by omega) ha).mpr g), if_pos g]
    · rw [if_neg (fun q => g ((o3_inj (by omega) ha).mp q)), if_neg g]
theorem mh_btw {m : Nat} (hW : rHm S m (dst E)) (hm : m ≤ 10) {a b : Nat} (ha : a < m) (hb : b < m) : f_X11_between (o3 a) (o3 b) S = some (o6 (dst E a b)) := by
  unfold f_X11_between
  rw [show (10 : Int32) = o3 10 from rfl, o3_mul, o3_add, gL_o (by omega) (by omega), bd_some, hW a b ha hb]
def fsJ (E : List St5) (a b : Nat) : Int32 := match fS1 E a b with
  | some k => o3 k
  | none => -2
theorem mh_next (hT : twM (S.1 157) F E) (hW : rHm S F.length (dst E)) (hE : ∀ q ∈ E, okS F.length q) (hm : F.length ≤ 10) (hl : E.length ≤ 12) {a b : Nat} (ha : a < F.length) (hb : b < F.length) : f_X11_nextStair (o3 a) (o3 b) S = some (fsJ E a b) := by
  have h9 := dst_9 (E := E) a b
  unfold f_X11_nextStair fsJ
  by_cases hab : a = b
  · rw [if_pos ((o3_inj (by omega) (by omega)).mpr hab)]
    unfold fS1
    rw [if_pos (Or.inl hab)]
  · rw [if_neg (fun q => hab ((o3_inj (by omega) (by omega)).mp q)), mh_btw hW hm ha hb, bd_some]
    by_cases h : dst E a b < 99999
    · rw [if_pos (show o6 (dst E a b) < (99999 : Int64) from (o6_lt (b := 99999) (by omega) (by omega)).mpr h)]
      obtain ⟨j, j1, j2, j3, j4⟩ := fS1_ex hE hm hab h
      rw [j1]
      dsimp only
      have key : ∀ d k nn, d < nn → k + d ≤ E.length → fsf E (dst E) a b d k = some j → lp_X11_nextStair_23 (o3 a) (o3 b) S (fun u23 => some u23) nn (o3 k) = some (o3 j) := by
        intro d
        induction d with
        | zero => intro k nn _ _ q; exact nomatch q
        | succ d ih =>
          intro k nn hnn hkd q
          obtain ⟨nn, rfl⟩ : ∃ z, nn = z + 1 := ⟨nn - 1, by omega⟩
          have hkl : k < E.length := by omega
          have hq := hE _ (gd_mem (d := d5) hkl)
          have h9 := hq.2.2.2.2.1
          have e3 : f_X11_stairOf (o3 k) 2 S = some (o3 (E.getD k d5).2.2.1) := (mh_stair hT hl hkl).2.2.1
          rw [show fsf E (dst E) a b (d + 1) k = if hk (E.getD k d5) (dst E) a b then some k else fsf E (dst E) a b d (k + 1) from rfl] at q
          rw [lp_X11_nextStair_23.eq_2, mh_other hT hE hm hl hkl (by omega), bd_some, o3_s]
          rcases oe_or (a := a) hq hm with ⟨o, o1, o2, o3'⟩ | ⟨o2, n1, n2⟩
          · have ho9 := dst_9 (E := E) o b
            rw [o2, if_neg (o3_nn (by omega)), e3, bd_some, bd_some, mh_btw hW hm o1 hb, bd_some, mh_btw hW hm ha hb, bd_some, o6_of3 (by omega), o6_add]
            have heq : o6 ((E.getD k d5).2.2.1 + dst E o b) = o6 (dst E a b) ↔ hk (E.getD k d5) (dst E) a b := by
              rw [o6_inj (by omega) (by omega)]
              constructor
              · intro z
                rcases o3' with ⟨w1, w2⟩ | ⟨w1, w2, w3⟩
                · exact Or.inl ⟨w1, by rw [← w2]; omega, by rw [← w2]; exact z⟩
                · exact Or.inr ⟨w1, w2, by rw [← w3]; omega, by rw [← w3]; exact z⟩
              · intro z
                rcases z with ⟨q1, _, q2⟩ | ⟨q1, q2, _, q3⟩
                · rcases o3' with ⟨_, w⟩ | ⟨w, _⟩
                  · rw [w]; exact q2
                  · exact absurd q1 w
                · rcases o3' with ⟨w, _⟩ | ⟨_, _, w⟩
                  · exact absurd w q1
                  · rw [w]; exact q3
            by_cases hx : hk (E.getD k d5) (dst E) a b
            · rw [if_pos hx] at q
              obtain rfl := Option.some.inj q
              rw [if_pos (heq.mpr hx)]
            · rw [if_neg hx] at q
              rw [if_neg (fun z => hx (heq.mp z))]
              exact ih (k + 1) nn (by omega) (by omega) q
          · rw [if_neg (fun z => by
              rcases z with ⟨q1, _⟩ | ⟨_, q2, _⟩
              · exact n1 q1
              · exact n2 q2)] at q
            rw [o2, if_pos (show (-1 : Int32) < 0 by decide)]
            exact ih (k + 1) nn (by omega) (by omega) q
      exact key E.length 0 FU (FU_lt (by omega)) (by omega) j2
    · rw [if_neg (show ¬ o6 (dst E a b) < (99999 : Int64) from fun q => h ((o6_lt (b := 99999) (by omega) (by omega)).mp q))]
      unfold fS1
      rw [if_pos (Or.inr (by omega))]
theorem mh_off (hC : cwM (S.1 157) (S.2 158) C) (h8 : C.1 ≤ 8) (hT : twM (S.1 157) F E) (hE : ∀ q ∈ E, okS F.length q) (hm : F.length ≤ 10) (hl : E.length ≤ 12) {th k a : Nat} (hth : th < C.1) (hk : k < E.length) (ha : a < F.length) (hp : C.2.2.1 th = o3 a) : ∃ T, f_X11_setsOff (o3 th) (o3 k) S = some T ∧ cwM (T.1 157) (T.2 158) (cOff C th k (oeI (E.getD k d5) a)) ∧ eI S T := by
  obtain ⟨k1, k2, k3, k4, k5⟩ := hC.2.2 th hth
  unfold f_X11_setsOff
  have e90 : (90 : Int32) + ((4 : Int32) * o3 th) = o3 (90 + 4 * th) := by rw [show (90 : Int32) = o3 90 from rfl, show (4 : Int32) = o3 4 from rfl, o3_mul, o3_add]
  have e91 : o3 (90 + 4 * th) + (1 : Int32) = o3 (90 + 4 * th + 1) := o3_s
  have e92 : o3 (90 + 4 * th) + (2 : Int32) = o3 (90 + 4 * th + 2) := by rw [show (2 : Int32) = o3 2 from rfl, o3_add]
  have e93 : o3 (90 + 4 * th) + (3 : Int32) = o3 (90 + 4 * th + 3) := by rw [show (3 : Int32) = o3 3 from rfl, o3_add]
  rw [e90, e91, e92, e93, gI_o (by omega) (by omega), bd_some, k1, hp, mh_other hT hE hm hl hk (by omega), bd_some, sI_o (by omega) (by omega), bd_some, sI_o (by omega) (by omega), bd_some, sI_o (by omega) (by omega), bd_some, sI_o (by omega) (by omega), bd_some]
  refine ⟨_, rfl, ⟨?_, ?_, fun j hj => ?_⟩, fun b j x y => ?_, fun _ _ _ _ _ => rfl⟩
  · rw [pI_ne (by omega), pI_ne (by omega), pI_ne (by omega), pI_ne (by omega)]; exact hC.1
  · rw [pI_ne (by omega), pI_ne (by omega), pI_ne (by omega), pI_ne (by omega)]; exact hC.2.1
  · obtain ⟨j1, j2, j3, j4, j5⟩ := hC.2.2 j hj
    have hj8 : j < C.1 := hj
    show _ = udN _ th _ j ∧ _ = udN _ th _ j ∧ _ = udN _ th _ j ∧ _ = udN _ th _ j ∧ _
    by_cases e : j = th
    · subst e
      rw [udN_eq, udN_eq, udN_eq, udN_eq]
      refine ⟨?_, ?_, ?_, ?_, j5⟩
      · rw [pI_ne (by omega), pI_ne (by omega), pI_eq]
      · rw [pI_ne (by omega), pI_eq]
      · rw [pI_eq]
      · rw [pI_ne (by omega), pI_ne (by omega), pI_ne (by omega), pI_eq]
    · rw [udN_ne e, udN_ne e, udN_ne e, udN_ne e]
      refine ⟨?_, ?_, ?_, ?_, j5⟩
      · rw [pI_ne (by omega), pI_ne (by omega), pI_ne (by omega), pI_ne (by omega)]; exact j1
      · rw [pI_ne (by omega), pI_ne (by omega), pI_ne (by omega), pI_ne (by omega)]; exact j2
      · rw [pI_ne (by omega), pI_ne (by omega), pI_ne (by omega), pI_ne (by omega)]; exact j3
      · rw [pI_ne (by omega), pI_ne (by omega), pI_ne (by omega), pI_ne (by omega)]; exact j4
  · rw [pI_ne (by omega), pI_ne (by omega), pI_ne (by omega), pI_ne (by omega)]
theorem m_sent {x th : Nat} {Q : List Cl} (hx : x < 6) (hC : cwM (S.1 157) (S.2 158) C) (hT : twM (S.1 157) F E) (hF : ∀ q ∈ F, okF q) (h8 : C.1 ≤ 8) (h9 : C.2.1 ≤ 10199) (h10 : F.length ≤ 10) (hth : th < C.1) {f : Nat} (hf : f < F.length) (hp : C.2.2.1 th = o3 f) (hD : cdM S x Q) : ∃ T, f_X11_sent (o3 x) (o3 th) S = some (gl (wd F C th) Q, T) ∧ (∀ a k, ¬ (a = 145 ∧ k = 23) → T.1 a k = S.1 a k) ∧ (∀ a k, a ≠ 155 → a ≠ 156 → T.2 a k = S.2 a k) := by
  obtain ⟨T1, a1, a2, a3⟩ := m_words hC hT hF h8 h9 h10 hth hf hp
  unfold f_X11_sent
  rw [a1, bd_some]
  have hD1 : cdM T1 x ([] ++ Q) := cdM_eq hD (fun a k _ => by rw [a2.1])
  obtain ⟨T, b1, b2⟩ := mk_sent (W := wd F C th) hx a3 Q [] FU T1 hD1 eJ.rf (FU_lt (by have := hD.2.1; omega))
  exact ⟨T, b1, fun a k h => by rw [b2.1 a k h, a2.1], fun a k h h' => by rw [b2.2 a k h, a2.2 a k h']⟩
theorem mF_o (hT : S.1 157 0 = o3 F.length) (hm : F.length ≤ 10) {v : Int32} : f_X11_isFloor v S = some (if 0 ≤ v.toInt ∧ v.toInt < F.length then 1 else 0) := by
  unfold f_X11_isFloor
  by_cases h : v < 0
  · rw [if_pos h, if_neg (by rw [ni_lt, ni_0] at h; omega)]
  · rw [if_neg h, show (0 : Int32) = o3 0 from rfl, gI_o (by omega) (by omega), bd_some, hT]
    rw [ni_lt, ni_0] at h
    by_cases g : v.toInt < F.length
    · rw [if_neg (by rw [ni_le, o3_int (by omega)]; omega), if_pos ⟨by omega, g⟩]
    · rw [if_pos (by rw [ni_le, o3_int (by omega)]; omega), if_neg (fun q => g q.2)]
theorem mh_obey {x : Nat} {Q : List Cl} (hx : x < 6) (hF : ∀ q ∈ F, okF q) (hE : ∀ q ∈ E, okS F.length q) (hm : F.length ≤ 10) (hl : E.length ≤ 12) (hQ : okRu Q) {K : fS → Option fS} : ∀ d k nn (S : fS), k + d = C.1 → d < nn → okD F.length E C → cwM (S.1 157) (S.2 158) (cOb F E Q C k) → twM (S.1 157) F E → rHm S F.length (dst E) → cdM S x Q → ∃ T, lp_X11_hour_2 (o3 x) K nn (o3 k) S = K T ∧ cwM (T.1 157) (T.2 158) (cOb F E Q C C.1) ∧ eI S T := by
  intro d
  induction d with
  | zero =>
    intro k nn S hk hnn hC hS hT hW hD
    obtain ⟨nn, rfl⟩ : ∃ z, nn = z + 1 := ⟨nn - 1, by omega⟩
    obtain ⟨o1, o2, o4⟩ := cOb_ok (Q := Q) hC hE hm k (by omega)
    have h8 := hC.1
    rw [lp_X11_hour_2.eq_2, show (2 : Int32) = o3 2 from rfl, gI_o (by omega) (by omega), bd_some, hS.1, o2, if_pos ((o3_le (by omega) (by omega)).mpr (by omega))]
    rw [show k = C.1 by omega] at hS
    exact ⟨S, rfl, hS, eI.rf⟩
  | succ d ih =>
    intro k nn S hk hnn hC hS hT hW hD
    obtain ⟨nn, rfl⟩ : ∃ z, nn = z + 1 := ⟨nn - 1, by omega⟩
    obtain ⟨o1, o2, o4⟩ := cOb_ok (Q := Q) hC hE hm k (by omega)
    have h8 := hC.1
    have h9 := hC.2.1
    have hs : cOb F E Q C (k + 1) = cOb1 F E Q (cOb F E Q C k) k := rfl
    generalize hCk : cOb F E Q C k = Ck at hS o1 o2 o4 hs
    obtain ⟨k1, k2, k3, k4, k5⟩ := hS.2.2 k (by omega)
    have hth0 : ∀ U : fS, f_X11_thingOf (o3 k) 0 U = some (U.1 157 (90 + 4 * k)) := fun U => mw_thing (S := U) (a := 0) (by omega) (by omega)
    rw [lp_X11_hour_2.eq_2, show (2 : Int32) = o3 2 from rfl, gI_o (by omega) (by omega), bd_some, hS.1, o2, if_neg (fun q => by have := (o3_le (by omega) (by omega)).mp q; omega), if_neg (o3_nn (by omega)), hth0, bd_some, k1, o3_s]
    unfold cOb1 at hs
    by_cases h0 : Ck.2.2.1 k < 0
    · rw [if_pos h0] at hs
      rw [if_neg (show ¬ (0 : Int32) ≤ Ck.2.2.1 k by rw [ni_lt] at h0; rw [ni_le]; omega)]
      exact ih (k + 1) nn S (by omega) (by omega) hC (by rw [hs]; exact hS) hT hW hD
    · rw [if_neg h0] at hs
      rw [if_pos (show (0 : Int32) ≤ Ck.2.2.1 k by rw [ni_lt] at h0; rw [ni_le]; omega)]
      obtain ⟨f, f1, f2⟩ := okT_nn (o1.2.2 k (by omega)).1 hm h0
      obtain ⟨T1, t1, t2, t3⟩ := m_sent (C := Ck) (th := k) hx hS hT hF (by omega) (by omega) hm (by omega) f1 f2 hD
      have e157 : T1.1 157 = S.1 157 := funext fun j => t2 157 j (by omega)
      have e158 : T1.2 158 = S.2 158 := funext fun j => t3 158 j (by omega) (by omega)
      have hS1 : cwM (T1.1 157) (T1.2 158) Ck := by rw [e157, e158]; exact hS
      have hT1 : twM (T1.1 157) F E := by rw [e157]; exact hT
      have hW1 : rHm T1 F.length (dst E) := rHm_eq hW (fun j => t3 _ j (by omega) (by omega))
      have hD1 : cdM T1 x Q := cdM_eq hD (fun a j _ => t2 a j (by omega))
      have hE1 : eI S T1 := ⟨fun a j _ y => t2 a j y, fun a j y z _ => t3 a j y z⟩
      rw [t1, bd_some]
      dsimp only
      rw [mF_o (F := F) hT1.1 hm, bd_some]
      by_cases hg : 0 ≤ (gl (wd F Ck k) Q).toInt ∧ (gl (wd F Ck k) Q).toInt < F.length
      · rw [if_pos hg] at hs
        rw [if_pos hg, if_neg (show ¬ (1 : Int32) = 0 by decide), hth0, bd_some, (hS1.2.2 k (by omega)).1, f2]
        rw [f2, o3_nat (by omega)] at hs
        obtain ⟨g, g1, g2⟩ := o3_ex hg.1
        rw [g1, mh_next hT1 hW1 hE hm hl f1 (by omega), bd_some]
        rw [g1, o3_nat (by omega)] at hs
        unfold fsJ
        cases hfs : fS1 E f g with
        | none =>
          rw [hfs] at hs
          dsimp only at hs ⊢
          rw [if_pos (show (-2 : Int32) < 0 by decide)]
          obtain ⟨T, a1, a2, a3⟩ := ih (k + 1) nn T1 (by omega) (by omega) hC (by rw [hs]; exact hS1) hT1 hW1 hD1
          exact ⟨T, a1, a2, hE1.tr a3⟩
        | some s =>
          rw [hfs] at hs
          dsimp only at hs ⊢
          unfold fS1 at hfs
          split at hfs
          · exact nomatch hfs
          · obtain ⟨x', y, z⟩ := fsf_pr _ _ _ hfs
            have hsl : s < E.length := by omega
            rw [if_neg (o3_nn (by omega))]
            obtain ⟨T2, b1, b2, b3⟩ := mh_off hS1 (by omega) hT1 hE hm hl (th := k) (k := s) (a := f) (by omega) hsl f1 f2
            rw [b1, bd_some]
            obtain ⟨T, a1, a2, a3⟩ := ih (k + 1) nn T2 (by omega) (by omega) hC (by rw [hs]; exact b2) (twM_eq hm hl hT1 (fun j hj => b3.1 157 j (by omega) (by omega))) (rHm_eq hW1 (fun j => b3.2 _ j (by omega) (by omega) (by omega))) (cdM_eq hD1 (fun a j _ => b3.1 a j (by omega) (by omega)))
            exact ⟨T, a1, a2, (hE1.tr b3).tr a3⟩
      · rw [if_neg hg] at hs
        rw [if_neg hg, if_pos rfl, if_pos (show -o3 2 < (0 : Int32) by decide)]
        obtain ⟨T, a1, a2, a3⟩ := ih (k + 1) nn T1 (by omega) (by omega) hC (by rw [hs]; exact hS1) hT1 hW1 hD1
        exact ⟨T, a1, a2, hE1.tr a3⟩
end MHR
end
