section
/-! waiting(): a way turned round -/
def wst (F : List (Nat × Nat)) (f : Nat) : Option (Nat × Nat × Nat) := if f < F.length then some (f, 1, (F.getD f (0, 0)).1 * pz (F.getD f (0, 0))) else none
def wsa (E : List St5) (k f : Nat) : Option (Nat × Nat × Nat) := if k < E.length then (if (E.getD k d5).1 = f then some ((E.getD k d5).2.1, (E.getD k d5).2.2.1, (E.getD k d5).2.2.1 * ((E.getD k d5).2.2.2.1 * pz (E.getD k d5).2.2.2)) else if (E.getD k d5).2.1 = f then some ((E.getD k d5).1, (E.getD k d5).2.2.1, (E.getD k d5).2.2.1 * ((E.getD k d5).2.2.2.1 * pz (E.getD k d5).2.2.2)) else none) else none
def wsp (F : List (Nat × Nat)) (E : List St5) (s : Option Nat) (f : Nat) : Option (Nat × Nat × Nat) := match s with
  | none => wst F f
  | some k => wsa E k f
def wwk (F : List (Nat × Nat)) (E : List St5) : List (Option Nat) → Nat → Option (Nat × Nat × Nat)
  | [], f => some (f, 0, 0)
  | s :: w, f => (wsp F E s f).bind fun r => (wwk F E w r.1).map fun t => (t.1, r.2.1 + t.2.1, r.2.2 + t.2.2)
section WR
variable {F : List (Nat × Nat)} {E : List St5}
theorem wsa_sy {m : Nat} (hE : ∀ q ∈ E, okS m q) {k f : Nat} {r : Nat × Nat × Nat} (e : wsa E k f = some r) : wsa E k r.1 = some (f, r.2.1, r.2.2) := by
  unfold wsa at e
  by_cases z : k < E.length
  · rw [if_pos z] at e
    have hne := (hE _ (gd_mem (d := d5) z)).2.2.1
    by_cases z1 : (E.getD k d5).1 = f
    · rw [if_pos z1] at e
      obtain rfl := Option.some.inj e
      show wsa E k (E.getD k d5).2.1 = _
      unfold wsa
      rw [if_pos z, if_neg hne, if_pos rfl, z1]
    · rw [if_neg z1] at e
      by_cases z2 : (E.getD k d5).2.1 = f
      · rw [if_pos z2] at e
        obtain rfl := Option.some.inj e
        show wsa E k (E.getD k d5).1 = _
        unfold wsa
        rw [if_pos z, if_pos rfl, z2]
      · rw [if_neg z2] at e; exact nomatch e
  · rw [if_neg z] at e; exact nomatch e
theorem wst_sy {f : Nat} {r : Nat × Nat × Nat} (e : wst F f = some r) : wst F r.1 = some (f, r.2.1, r.2.2) := by
  have e0 := e
  unfold wst at e
  by_cases z : f < F.length
  · rw [if_pos z] at e
    obtain rfl := Option.some.inj e
    exact e0
  · rw [if_neg z] at e; exact nomatch e
theorem wsp_sy {m : Nat} (hE : ∀ q ∈ E, okS m q) {s : Option Nat} {f : Nat} {r : Nat × Nat × Nat} (e : wsp F E s f = some r) : wsp F E s r.1 = some (f, r.2.1, r.2.2) := by
  cases s with
  | none => exact wst_sy (show wst F f = some r from e)
  | some k => exact wsa_sy hE (show wsa E k f = some r from e)
theorem wwk_c {s : Option Nat} {w : List (Option Nat)} {f : Nat} {r t : Nat × Nat × Nat} (h1 : wsp F E s f = some r) (h2 : wwk F E w r.1 = some t) : wwk F E (s :: w) f = some (t.1, r.2.1 + t.2.1, r.2.2 + t.2.2) := by
  have e : wwk F E (s :: w) f = ((wsp F E s f).bind fun r => (wwk F E w r.1).map fun t => (t.1, r.2.1 + t.2.1, r.2.2 + t.2.2)) := rfl
  rw [e, h1, bd_some, h2]
  rfl
theorem wwk_i {s : Option Nat} {w : List (Option Nat)} {f : Nat} {t : Nat × Nat × Nat} (h : wwk F E (s :: w) f = some t) : ∃ r u, wsp F E s f = some r ∧ wwk F E w r.1 = some u ∧ t = (u.1, r.2.1 + u.2.1, r.2.2 + u.2.2) := by
  have e : wwk F E (s :: w) f = ((wsp F E s f).bind fun r => (wwk F E w r.1).map fun t => (t.1, r.2.1 + t.2.1, r.2.2 + t.2.2)) := rfl
  rw [e] at h
  cases e1 : wsp F E s f with
  | none => rw [e1] at h; exact nomatch h
  | some r =>
    rw [e1, bd_some] at h
    cases e2 : wwk F E w r.1 with
    | none => rw [e2] at h; exact nomatch h
    | some u => rw [e2] at h; exact ⟨r, u, rfl, e2, (Option.some.inj h).symm⟩
theorem wwk_sn {s : Option Nat} {r : Nat × Nat × Nat} : ∀ (w : List (Option Nat)) (f : Nat) (u : Nat × Nat × Nat), wwk F E w f = some u → wsp F E s u.1 = some r → wwk F E (w ++ [s]) f = some (r.1, u.2.1 + r.2.1, u.2.2 + r.2.2) := by
  intro w
  induction w with
  | nil =>
    intro f u h hs
    obtain rfl := Option.some.inj (show some (f, 0, 0) = some u from h)
    refine (wwk_c (w := []) hs (show wwk F E [] r.1 = some (r.1, 0, 0) from rfl)).trans ?_
    show some (r.1, r.2.1 + 0, r.2.2 + 0) = some (r.1, 0 + r.2.1, 0 + r.2.2)
    rw [Nat.zero_add, Nat.zero_add]
    rfl
  | cons s0 w ih =>
    intro f u h hs
    obtain ⟨r0, u0, a, b, c⟩ := wwk_i h
    rw [c] at hs ⊢
    refine (wwk_c a (ih r0.1 u0 b hs)).trans ?_
    show some (r.1, r0.2.1 + (u0.2.1 + r.2.1), r0.2.2 + (u0.2.2 + r.2.2)) = some (r.1, r0.2.1 + u0.2.1 + r.2.1, r0.2.2 + u0.2.2 + r.2.2)
    rw [Nat.add_assoc, Nat.add_assoc]
theorem wwk_rv {m : Nat} (hE : ∀ q ∈ E, okS m q) : ∀ (w : List (Option Nat)) (f : Nat) (u : Nat × Nat × Nat), wwk F E w f = some u → ∃ w', wwk F E w' u.1 = some (f, u.2.1, u.2.2) := by
  intro w
  induction w with
  | nil =>
    intro f u h
    obtain rfl := Option.some.inj (show some (f, 0, 0) = some u from h)
    exact ⟨[], rfl⟩
  | cons s w ih =>
    intro f u h
    obtain ⟨r, u0, a, b, c⟩ := wwk_i h
    obtain ⟨w', hw⟩ := ih r.1 u0 b
    refine ⟨w' ++ [s], ?_⟩
    rw [c]
    have hs : wsp F E s r.1 = some (f, r.2.1, r.2.2) := wsp_sy hE a
    refine (wwk_sn (r := (f, r.2.1, r.2.2)) w' u0.1 (r.1, u0.2.1, u0.2.2) hw hs).trans ?_
    show some (f, u0.2.1 + r.2.1, u0.2.2 + r.2.2) = some (f, r.2.1 + u0.2.1, r.2.2 + u0.2.2)
    rw [Nat.add_comm u0.2.1, Nat.add_comm u0.2.2]
/-- as good as -/
def gdd (mx : Int32) (y z : Int64) : Prop := ¬ y < 0 ∧ (mx = 0 → y ≤ z) ∧ (¬ mx = 0 → z ≤ y)
theorem gdd_tr {mx : Int32} {a b c : Int64} (h : gdd mx a b) (g : gdd mx b c) : gdd mx a c := ⟨h.1, fun q => by
  have := nl_le.mp (h.2.1 q)
  have := nl_le.mp (g.2.1 q)
  exact nl_le.mpr (by omega), fun q => by
  have := nl_le.mp (h.2.2 q)
  have := nl_le.mp (g.2.2 q)
  exact nl_le.mpr (by omega)⟩
theorem gdd_rf {mx : Int32} {a : Int64} (h : ¬ a < 0) : gdd mx a a := ⟨h, fun _ => nl_le.mpr (Int.le_refl _), fun _ => nl_le.mpr (Int.le_refl _)⟩
theorem nl_nlx {a b : Int64} (h : ¬ a ≤ b) : b ≤ a := nl_le.mpr (by
  have : ¬ a.toInt ≤ b.toInt := fun q => h (nl_le.mpr q)
  omega)
theorem bt_l {mx : Int32} {x y : Int64} (h : ¬ x < 0) : gdd mx (bt mx x y) x := by
  unfold bt
  rw [if_neg h]
  by_cases hy : y < 0
  · rw [if_pos hy]; exact gdd_rf h
  · rw [if_neg hy]
    by_cases hm : mx = 0
    · rw [if_pos hm]
      by_cases z : y ≤ x
      · rw [if_pos z]; exact ⟨hy, fun _ => z, fun q => absurd hm q⟩
      · rw [if_neg z]; exact gdd_rf h
    · rw [if_neg hm]
      by_cases z : x ≤ y
      · rw [if_pos z]; exact ⟨hy, fun q => absurd q hm, fun _ => z⟩
      · rw [if_neg z]; exact gdd_rf h
theorem bt_r {mx : Int32} {x y : Int64} (h : ¬ y < 0) : gdd mx (bt mx x y) y := by
  unfold bt
  by_cases hx : x < 0
  · rw [if_pos hx]; exact gdd_rf h
  · rw [if_neg hx, if_neg h]
    by_cases hm : mx = 0
    · rw [if_pos hm]
      by_cases z : y ≤ x
      · rw [if_pos z]; exact gdd_rf h
      · rw [if_neg z]; exact ⟨hx, fun _ => nl_nlx z, fun q => absurd hm q⟩
    · rw [if_neg hm]
      by_cases z : x ≤ y
      · rw [if_pos z]; exact gdd_rf h
      · rw [if_neg z]; exact ⟨hx, fun q => absurd q hm, fun _ => nl_nlx z⟩
theorem bs_b {v : Nat → Int64} {mx : Int32} : ∀ d k x, (¬ x < 0 → gdd mx (bs v mx d k x) x) ∧ (∀ j, k ≤ j → j < k + d → ¬ v j < 0 → gdd mx (bs v mx d k x) (v j)) := by
  intro d
  induction d with
  | zero => intro k x; exact ⟨fun h => gdd_rf h, fun j h1 h2 => absurd h2 (by omega)⟩
  | succ d ih =>
    intro k x
    have e : bs v mx (d + 1) k x = bs v mx d (k + 1) (bt mx (v k) x) := rfl
    rw [e]
    obtain ⟨i1, i2⟩ := ih (k + 1) (bt mx (v k) x)
    refine ⟨fun h => ?_, fun j h1 h2 h3 => ?_⟩
    · have g := bt_r (mx := mx) (x := v k) h
      exact gdd_tr (i1 g.1) g
    · by_cases z : j = k
      · rw [z] at h3 ⊢
        have g := bt_l (mx := mx) (y := x) h3
        exact gdd_tr (i1 g.1) g
      · exact i2 j (by omega) (by omega) h3
theorem nb_g {x : Int64} {h : Nat} (hx : nb x h) (hn : ¬ x < 0) : ∃ g, x = o6 g ∧ g ≤ 4655851200 * h := by
  rcases hx with e | e
  · exact absurd (show x < 0 by rw [e]; decide) hn
  · exact e
theorem gdd_ad {mx : Int32} {a g p : Nat} (ha : a < 1000000000000000) (hg : g < 1000000000000000) (hp : p < 1000000000000000) (h : gdd mx (o6 a) (o6 g)) : gdd mx (o6 (a + p)) (o6 (g + p)) := ⟨o6_nn (by omega), fun q => (o6_le (by omega) (by omega)).mpr (by have := (o6_le (by omega) (by omega)).mp (h.2.1 q); omega), fun q => (o6_le (by omega) (by omega)).mpr (by have := (o6_le (by omega) (by omega)).mp (h.2.2 q); omega)⟩
variable {mx : Int32} {tg : Nat}
/-- no way is better -/
theorem GG_bd (hF : ∀ q ∈ F, okF q) (hE : ∀ q ∈ E, okS F.length q) (hm : F.length ≤ 10) : ∀ (w : List (Option Nat)) (h f g : Nat), f < F.length → h ≤ 120 → wwk F E w f = some (tg, h, g) → g ≤ 4655851200 * h ∧ gdd mx (GG F E tg mx h f) (o6 g) := by
  intro w
  induction w with
  | nil =>
    intro h f g hf hh e
    have e := Option.some.inj (show some (f, 0, 0) = some (tg, h, g) from e)
    have e1 : f = tg := congrArg (fun q : Nat × Nat × Nat => q.1) e
    have e2 : 0 = h := congrArg (fun q : Nat × Nat × Nat => q.2.1) e
    have e3 : 0 = g := congrArg (fun q : Nat × Nat × Nat => q.2.2) e
    rw [← e2, ← e3, GG_0, if_pos e1]
    exact ⟨by omega, gdd_rf (by decide)⟩
  | cons s w ih =>
    intro h f g hf hh e
    obtain ⟨r, u, a, b, c⟩ := wwk_i e
    have c1 : tg = u.1 := congrArg (fun q : Nat × Nat × Nat => q.1) c
    have c2 : h = r.2.1 + u.2.1 := congrArg (fun q : Nat × Nat × Nat => q.2.1) c
    have c3 : g = r.2.2 + u.2.2 := congrArg (fun q : Nat × Nat × Nat => q.2.2) c
    have b' : wwk F E w r.1 = some (tg, u.2.1, u.2.2) := by rw [b, c1]
    cases s with
    | none =>
      have a : wst F f = some r := a
      unfold wst at a
      rw [if_pos hf] at a
      obtain rfl := Option.some.inj a
      have c2 : h = 1 + u.2.1 := c2
      have c3 : g = (F.getD f (0, 0)).1 * pz (F.getD f (0, 0)) + u.2.2 := c3
      have hp := pcn_le (hF _ (gd_mem (d := (0, 0)) hf))
      obtain ⟨i1, i2⟩ := ih u.2.1 f u.2.2 hf (by omega) b'
      obtain ⟨G, g1, g2⟩ := nb_g (GG_nb hF hE hm u.2.1 f (by omega) hf) i2.1
      have hpl := hp.2
      refine ⟨by omega, ?_⟩
      rw [g1] at i2
      have hst : stv (GG F E tg mx u.2.1 f) (pc (F.getD f (0, 0))) = o6 (G + (F.getD f (0, 0)).1 * pz (F.getD f (0, 0))) := by
        unfold stv
        rw [g1, if_pos (o6_0le (by omega)), pc_o, o6_add]
      have had := gdd_ad (p := (F.getD f (0, 0)).1 * pz (F.getD f (0, 0))) (by omega) (by omega) (by omega) i2
      rw [show h = u.2.1 + 1 by omega, GG_s hE, c3, Nat.add_comm ((F.getD f (0, 0)).1 * pz (F.getD f (0, 0)))]
      refine gdd_tr ((bs_b E.length 0 _).1 ?_) ?_
      · rw [hst]; exact had.1
      · rw [hst]; exact had
    | some k =>
      have a : wsa E k f = some r := a
      have hk : k < E.length := by
        refine Decidable.byContradiction fun q => ?_
        unfold wsa at a
        rw [if_neg q] at a
        exact nomatch a
      obtain ⟨s1, s2, s3, s4, s5, s6⟩ := hE _ (gd_mem (d := d5) hk)
      have hr : r.2.1 = (E.getD k d5).2.2.1 ∧ r.2.2 = (E.getD k d5).2.2.1 * ((E.getD k d5).2.2.2.1 * pz (E.getD k d5).2.2.2) ∧ oeI (E.getD k d5) f = o3 r.1 ∧ r.1 < F.length := by
        unfold wsa at a
        rw [if_pos hk] at a
        unfold oeI
        by_cases z1 : (E.getD k d5).1 = f
        · rw [if_pos z1] at a
          obtain rfl := Option.some.inj a
          exact ⟨rfl, rfl, if_pos z1, s2⟩
        · rw [if_neg z1] at a
          by_cases z2 : (E.getD k d5).2.1 = f
          · rw [if_pos z2] at a
            obtain rfl := Option.some.inj a
            rw [if_neg z1]
            exact ⟨rfl, rfl, if_pos z2, s1⟩
          · rw [if_neg z2] at a; exact nomatch a
      obtain ⟨r1, r2, r3, r4⟩ := hr
      have hp := (pcn_le s6).2
      have hmul : (E.getD k d5).2.2.1 * ((E.getD k d5).2.2.2.1 * pz (E.getD k d5).2.2.2) ≤ (E.getD k d5).2.2.1 * 4655851200 := Nat.mul_le_mul_left _ hp
      obtain ⟨i1, i2⟩ := ih u.2.1 r.1 u.2.2 r4 (by omega) b'
      obtain ⟨G, g1, g2⟩ := nb_g (GG_nb hF hE hm u.2.1 r.1 (by omega) r4) i2.1
      refine ⟨by rw [c3, c2, r2, r1]; omega, ?_⟩
      rw [g1] at i2
      have hgs : gsv E (GG F E tg mx) h f k = o6 (G + (E.getD k d5).2.2.1 * ((E.getD k d5).2.2.2.1 * pz (E.getD k d5).2.2.2)) := by
        unfold gsv
        rw [r3, if_neg (o3_m1 (by omega)), if_neg (show ¬ h < (E.getD k d5).2.2.1 by omega), o3_nat (by omega), show h - (E.getD k d5).2.2.1 = u.2.1 by omega, g1, if_pos (o6_0le (by omega)), pc_o, o6_mul, o6_add]
      have had := gdd_ad (p := (E.getD k d5).2.2.1 * ((E.getD k d5).2.2.2.1 * pz (E.getD k d5).2.2.2)) (by omega) (by omega) (by omega) i2
      obtain ⟨h', eh⟩ : ∃ h', h = h' + 1 := ⟨h - 1, by omega⟩
      rw [c3, r2, Nat.add_comm ((E.getD k d5).2.2.1 * ((E.getD k d5).2.2.2.1 * pz (E.getD k d5).2.2.2))]
      have key : gdd mx (GG F E tg mx h f) (gsv E (GG F E tg mx) h f k) := by
        rw [eh, GG_s hE]
        exact (bs_b E.length 0 _).2 k (Nat.zero_le _) (by omega) (by rw [← eh, hgs]; exact had.1)
      rw [hgs] at key
      exact gdd_tr key had
/-- and one is as good -/
theorem GG_ex (hF : ∀ q ∈ F, okF q) (hE : ∀ q ∈ E, okS F.length q) (hm : F.length ≤ 10) : ∀ (h f : Nat), f < F.length → h ≤ 120 → ¬ GG F E tg mx h f < 0 → ∃ w g, GG F E tg mx h f = o6 g ∧ g ≤ 4655851200 * h ∧ wwk F E w f = some (tg, h, g) := by
  intro h
  induction h using Nat.strongRecOn with
  | _ h ih =>
    intro f hf hh hn
    cases h with
    | zero =>
      rw [GG_0] at hn ⊢
      by_cases z : f = tg
      · rw [if_pos z]; exact ⟨[], 0, rfl, by omega, by rw [z]; rfl⟩
      · rw [if_neg z] at hn; exact absurd (by decide) hn
    | succ h =>
      rw [GG_s hE] at hn ⊢
      rcases bs_mem (v := gsv E (GG F E tg mx) (h + 1) f) (mx := mx) E.length 0 (stv (GG F E tg mx h f) (pc (F.getD f (0, 0)))) with e | ⟨j, j1, j2, e⟩
      · rw [e] at hn ⊢
        have hg : ¬ GG F E tg mx h f < 0 := fun q => hn (by
          unfold stv
          rw [if_neg (fun z => by rw [nl_lt] at q; rw [nl_le] at z; omega)]
          decide)
        obtain ⟨w, g, w1, w2, w3⟩ := ih h (by omega) f hf (by omega) hg
        have hp := (pcn_le (hF _ (gd_mem (d := (0, 0)) hf))).2
        refine ⟨none :: w, g + (F.getD f (0, 0)).1 * pz (F.getD f (0, 0)), ?_, by omega, ?_⟩
        · unfold stv
          rw [w1, if_pos (o6_0le (by omega)), pc_o, o6_add]
        · have hs : wsp F E none f = some (f, 1, (F.getD f (0, 0)).1 * pz (F.getD f (0, 0))) := by
            show wst F f = _
            unfold wst
            rw [if_pos hf]
          refine (wwk_c hs w3).trans ?_
          show some (tg, 1 + h, (F.getD f (0, 0)).1 * pz (F.getD f (0, 0)) + g) = _
          rw [Nat.add_comm 1, Nat.add_comm _ g]
      · have hj : j < E.length := by omega
        rw [e] at hn ⊢
        obtain ⟨s1, s2, s3, s4, s5, s6⟩ := hE _ (gd_mem (d := d5) hj)
        have hp := (pcn_le s6).2
        have hmul : (E.getD j d5).2.2.1 * ((E.getD j d5).2.2.2.1 * pz (E.getD j d5).2.2.2) ≤ (E.getD j d5).2.2.1 * 4655851200 := Nat.mul_le_mul_left _ hp
        unfold gsv at hn ⊢
        rcases oe_or (a := f) (hE _ (gd_mem (d := d5) hj)) hm with ⟨o, o1, o2, o4⟩ | ⟨o2, _⟩
        · rw [o2, if_neg (o3_m1 (by omega)), o3_nat (by omega)] at hn ⊢
          by_cases h2 : h + 1 < (E.getD j d5).2.2.1
          · rw [if_pos h2] at hn; exact absurd (by decide) hn
          · rw [if_neg h2] at hn ⊢
            by_cases h3 : (0 : Int64) ≤ GG F E tg mx (h + 1 - (E.getD j d5).2.2.1) o
            · obtain ⟨w, g, w1, w2, w3⟩ := ih (h + 1 - (E.getD j d5).2.2.1) (by omega) o o1 (by omega) (fun q => by rw [nl_lt] at q; rw [nl_le] at h3; omega)
              rw [if_pos h3]
              have hd : 4655851200 * (h + 1 - (E.getD j d5).2.2.1) + 4655851200 * (E.getD j d5).2.2.1 = 4655851200 * (h + 1) := by rw [← Nat.mul_add]; congr 1; omega
              refine ⟨some j :: w, g + (E.getD j d5).2.2.1 * ((E.getD j d5).2.2.2.1 * pz (E.getD j d5).2.2.2), ?_, by omega, ?_⟩
              · rw [w1, pc_o, o6_mul, o6_add]
              · have hs : wsp F E (some j) f = some (o, (E.getD j d5).2.2.1, (E.getD j d5).2.2.1 * ((E.getD j d5).2.2.2.1 * pz (E.getD j d5).2.2.2)) := by
                  show wsa E j f = _
                  unfold wsa
                  rw [if_pos hj]
                  rcases o4 with ⟨q1, q2⟩ | ⟨q1, q2, q3⟩
                  · rw [if_pos q1, q2]
                  · rw [if_neg q1, if_pos q2, q3]
                refine (wwk_c hs w3).trans ?_
                show some (tg, (E.getD j d5).2.2.1 + (h + 1 - (E.getD j d5).2.2.1), (E.getD j d5).2.2.1 * ((E.getD j d5).2.2.2.1 * pz (E.getD j d5).2.2.2) + g) = _
                rw [show (E.getD j d5).2.2.1 + (h + 1 - (E.getD j d5).2.2.1) = h + 1 by omega, Nat.add_comm _ g]
            · rw [if_neg h3] at hn; exact absurd (by decide) hn
        · rw [o2, if_pos rfl] at hn; exact absurd (by decide) hn
theorem GG_sy (hF : ∀ q ∈ F, okF q) (hE : ∀ q ∈ E, okS F.length q) (hm : F.length ≤ 10) {n a b : Nat} (hn : n ≤ 120) (ha : a < F.length) (hb : b < F.length) : GG F E a mx n b = GG F E b mx n a := by
  have rev : ∀ c d, c < F.length → d < F.length → ¬ GG F E c mx n d < 0 → ∃ g, GG F E c mx n d = o6 g ∧ g ≤ 4655851200 * n ∧ gdd mx (GG F E d mx n c) (o6 g) := fun c d hc hd h => by
    obtain ⟨w, g, w1, w2, w3⟩ := GG_ex hF hE hm n d hd hn h
    obtain ⟨w', hw⟩ := wwk_rv hE w d _ w3
    exact ⟨g, w1, w2, (GG_bd hF hE hm w' n c g hc hn hw).2⟩
  by_cases h1 : GG F E a mx n b < 0
  · by_cases h2 : GG F E b mx n a < 0
    · rcases GG_nb (tg := a) (mx := mx) hF hE hm n b hn hb with e | ⟨g, e, eg⟩
      · rcases GG_nb (tg := b) (mx := mx) hF hE hm n a hn ha with e' | ⟨g', e', eg'⟩
        · rw [e, e']
        · rw [e'] at h2; exact absurd h2 (o6_nn (by omega))
      · rw [e] at h1; exact absurd h1 (o6_nn (by omega))
    · obtain ⟨g, _, _, g3⟩ := rev b a hb ha h2
      exact absurd h1 g3.1
  · obtain ⟨g, g1, g2, g3⟩ := rev a b ha hb h1
    obtain ⟨g', k1, k2, k3⟩ := rev b a hb ha g3.1
    rw [k1] at g3
    rw [g1] at k3
    rw [g1, k1]
    congr 1
    by_cases z : mx = 0
    · have p1 := (o6_le (by omega) (by omega)).mp (g3.2.1 z)
      have p2 := (o6_le (by omega) (by omega)).mp (k3.2.1 z)
      omega
    · have p1 := (o6_le (by omega) (by omega)).mp (g3.2.2 z)
      have p2 := (o6_le (by omega) (by omega)).mp (k3.2.2 z)
      omega
theorem GG_st (hF : ∀ q ∈ F, okF q) (hE : ∀ q ∈ E, okS F.length q) (hm : F.length ≤ 10) {f : Nat} (hf : f < F.length) : ∀ n, n ≤ 120 → ¬ GG F E f mx n f < 0 := by
  intro n
  induction n with
  | zero => intro _; rw [GG_0, if_pos rfl]; decide
  | succ n ih =>
    intro hn
    obtain ⟨G, g1, g2⟩ := nb_g (GG_nb hF hE hm n f (by omega) hf) (ih (by omega))
    have hp := (pcn_le (hF _ (gd_mem (d := (0, 0)) hf))).2
    rw [GG_s hE]
    refine ((bs_b E.length 0 _).1 ?_).1
    unfold stv
    rw [g1, if_pos (o6_0le (by omega)), pc_o, o6_add]
    exact o6_nn (by omega)
end WR
theorem bm_cg {v w : Nat → Int64} {mx : Int32} : ∀ d k i y, (∀ j, k ≤ j → j < k + d → v j = w j) → bm v mx d k i y = bm w mx d k i y := by
  intro d
  induction d with
  | zero => intro k i y _; rfl
  | succ d ih =>
    intro k i y h
    have e : ∀ u : Nat → Int64, bm u mx (d + 1) k i y = if tk1 mx (u k) y = true then bm u mx d (k + 1) (o3 k) (u k) else bm u mx d (k + 1) i y := fun _ => rfl
    rw [e v, e w, h k (Nat.le_refl _) (by omega), ih (k + 1) _ _ (fun j h1 h2 => h j (by omega) (by omega)), ih (k + 1) _ _ (fun j h1 h2 => h j (by omega) (by omega))]
theorem t_21e (a1 a2 a3 : Int32) (S : fS) (hR : Rel S) : ∃ r S1 S2, f_X10_waiting a1 a2 a3 S = some (r, S1) ∧ f_X11_waiting a1 a2 a3 S1 = some (r, S2) ∧ Rel S2 := by
  obtain ⟨r, r', S1, S2, h1, h2, h3, h4⟩ := t_21 a1 a2 a3 S hR
  have e : r = r' := by
    rcases h4 with h4 | ⟨F, E, n, f, hF, hE, hm, hl, hn, hf, e1, e2⟩
    · exact h4
    · rw [e1, e2, bm_cg (w := fun g => GG F E f a3 n g) F.length 0 _ _ (fun j _ hj => GG_sy hF hE hm hn (by omega) hf)]
      have hst := GG_st (mx := a3) hF hE hm hf n hn
      obtain ⟨d, hd⟩ : ∃ d, F.length = d + 1 := ⟨F.length - 1, by omega⟩
      rw [hd, Nat.add_sub_cancel]
      have key : ∀ v : Nat → Int64, ¬ v f < 0 → o3 (bc v a3 d 1 0) = bm v a3 (d + 1) 0 (-1) (-1) := fun v hv => by
        have eb : bm v a3 (d + 1) 0 (-1) (-1) = if tk1 a3 (v 0) (-1) = true then bm v a3 d 1 (o3 0) (v 0) else bm v a3 d 1 (-1) (-1) := rfl
        rw [eb]
        by_cases z : tk1 a3 (v 0) (-1) = true
        · rw [if_pos z]; exact (bm_bc d 1 0).symm
        · rw [if_neg z]
          have h0 : v 0 < 0 := by
            refine Decidable.byContradiction fun q => z ?_
            unfold tk1
            rw [decide_eq_true_eq]
            exact ⟨q, Or.inl (by decide)⟩
          have hf0 : f ≠ 0 := fun q => hv (by rw [q]; exact h0)
          exact (bm_eq d 1 ⟨f, by omega, by omega, hv⟩ 0 h0).symm
      exact key _ hst
  rw [← e] at h2
  exact ⟨r, S1, S2, h1, h2, h3⟩
end
