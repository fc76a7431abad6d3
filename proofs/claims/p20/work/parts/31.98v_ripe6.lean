section
/-! ripe(): the class, strictly: keeping, sources, merging -/
def hA (T : fS) (A : Nat → Nat) (c : Nat) : Prop := c ≤ 4000 ∧ T.1 45 5 = o3 c ∧ ∀ j, j < c → T.2 46 j = o6 (A j) ∧ A j < 4398046511104
def snA (A : Nat → Nat) (c x : Nat) : Nat → Nat := fun j => if j = c then x else A j
theorem snA_n {A : Nat → Nat} {c x j : Nat} (h : j ≠ c) : snA A c x j = A j := if_neg h
theorem snA_l {A : Nat → Nat} {c x j : Nat} (h : j < c) : snA A c x j = A j := if_neg (by omega)
theorem snA_e {A : Nat → Nat} {c x : Nat} : snA A c x c = x := if_pos rfl
def eKp (T U : fS) : Prop := (∀ a k, ¬ (a = 45 ∧ k = 5) → U.1 a k = T.1 a k) ∧ (∀ a k, a ≠ 46 → U.2 a k = T.2 a k)
theorem q_keep {T : fS} {A : Nat → Nat} {c st x : Nat} (hT : hA T A c) (hx : x < 4398046511104) : (st < c ∧ A (c - 1) / 32 = x / 32 ∧ f_X3_keep (o3 st) (o6 x) T = some (1, T)) ∨ (¬ (st < c ∧ A (c - 1) / 32 = x / 32) ∧ c < 4000 ∧ ∃ U, f_X3_keep (o3 st) (o6 x) T = some (1, U) ∧ hA U (snA A c x) (c + 1) ∧ eKp T U) ∨ (¬ (st < c ∧ A (c - 1) / 32 = x / 32) ∧ c = 4000 ∧ f_X3_keep (o3 st) (o6 x) T = some (0, T)) ∨ 4000 < st := by
  obtain ⟨h4, hc, hj⟩ := hT
  by_cases hst : 4000 < st
  · exact Or.inr (Or.inr (Or.inr hst))
  have sb : 0 < c → o3 c - (1 : Int32) = o3 (c - 1) := fun h => by rw [show (1 : Int32) = o3 1 from rfl, o3_sub (by omega)]
  have app : c < 4000 → ((sL T 46 4000 (o3 c) (o6 x)).bind fun S3 => (some (pI S3 45 5 ((S3.1 45 5) + (1 : Int32)))).bind fun S6 => some ((1 : Int32), S6)) = some (1, pI (pL T 46 c (o6 x)) 45 5 (o3 (c + 1))) := fun h => by
    rw [sL_o h (by omega), bd_some, bd_some, show (pL T 46 c (o6 x)).1 45 5 = o3 c from hc, o3_s]
  have hU : c < 4000 → hA (pI (pL T 46 c (o6 x)) 45 5 (o3 (c + 1))) (snA A c x) (c + 1) := fun h => ⟨by omega, pI_eq, fun j hj' => by
    by_cases e : j = c
    · rw [e, snA_e]
      refine ⟨?_, hx⟩
      show (pL T 46 c (o6 x)).2 46 c = o6 x
      rw [pL_eq]
    · rw [snA_n e]
      refine ⟨?_, (hj j (by omega)).2⟩
      show (pL T 46 c (o6 x)).2 46 j = o6 (A j)
      rw [pL_ne (by omega)]
      exact (hj j (by omega)).1⟩
  have e1 : st < c ∧ A (c - 1) / 32 = x / 32 → f_X3_keep (o3 st) (o6 x) T = some (1, T) := fun q => by
    have h1 := (hj (c - 1) (by omega)).2
    unfold f_X3_keep
    rw [hc, if_neg (fun z => by have := (o3_le (by omega) (by omega)).mp z; omega), sb (by omega), gL_o (by omega) (by omega), bd_some, (hj (c - 1) (by omega)).1, q5_age (by omega), bd_some, q5_age (by omega), bd_some, if_pos (by rw [q.2])]
  have e2 : ¬ (st < c ∧ A (c - 1) / 32 = x / 32) → f_X3_keep (o3 st) (o6 x) T = if o3 c < (4000 : Int32) then ((sL T 46 4000 (o3 c) (o6 x)).bind fun S3 => (some (pI S3 45 5 ((S3.1 45 5) + (1 : Int32)))).bind fun S6 => some ((1 : Int32), S6)) else some (0, T) := fun q => by
    unfold f_X3_keep
    by_cases h : c ≤ st
    · rw [hc, if_pos ((o3_le (by omega) (by omega)).mpr h)]
    · have h1 := (hj (c - 1) (by omega)).2
      rw [hc, if_neg (fun z => h ((o3_le (by omega) (by omega)).mp z)), sb (by omega), gL_o (by omega) (by omega), bd_some, (hj (c - 1) (by omega)).1, q5_age (by omega), bd_some, q5_age (by omega), bd_some, if_neg (fun z => q ⟨by omega, (o6_inj (by omega) (by omega)).mp z⟩)]
  by_cases q : st < c ∧ A (c - 1) / 32 = x / 32
  · exact Or.inl ⟨q.1, q.2, e1 q⟩
  · by_cases h : c < 4000
    · refine Or.inr (Or.inl ⟨q, h, pI (pL T 46 c (o6 x)) 45 5 (o3 (c + 1)), ?_, hU h, fun a k h => pI_ne h, fun a k h => pL_ne (by omega)⟩)
      rw [e2 q, if_pos (show o3 c < (4000 : Int32) from (o3_lt (b := 4000) (by omega) (by omega)).mpr h), app h]
    · refine Or.inr (Or.inr (Or.inl ⟨q, by omega, ?_⟩))
      rw [e2 q, if_neg (show ¬ o3 c < (4000 : Int32) from fun z => h ((o3_lt (b := 4000) (by omega) (by omega)).mp z))]
def hQ (T : fS) (q : Nat) (h e g : Nat → Nat) : Prop := q ≤ 13 ∧ T.1 45 6 = o3 q ∧ ∀ k, k < q → T.1 48 k = o3 (h k) ∧ T.1 49 k = o3 (e k) ∧ T.2 50 k = o6 (g k) ∧ h k ≤ e k ∧ e k ≤ 4000 ∧ g k < 4398046511104
def hB (T : fS) (bg : Nat → Nat) (w : Nat) : Prop := ∀ j, j ≤ w → T.1 47 j = o3 (bg j) ∧ bg j ≤ 4000
theorem hB_eq {T U : fS} {bg : Nat → Nat} {w : Nat} (h : hB T bg w) (g : ∀ k, U.1 47 k = T.1 47 k) : hB U bg w := fun j hj => ⟨(g j).trans (h j hj).1, (h j hj).2⟩
theorem q_add {T : fS} {i w x q : Nat} {h e g bg : Nat → Nat} (hW : hB T bg w) (hi : i + 1 ≤ w) (hw : w ≤ 170) (hx : x < 4398046511104) (hq : hQ T q h e g) (h13 : q < 13) : (bg (i + 1) ≤ bg i ∧ f_X3_addSource (o3 i) (o6 x) T = some T) ∨ (bg i < bg (i + 1) ∧ ∃ U, f_X3_addSource (o3 i) (o6 x) T = some U ∧ hQ U (q + 1) (snA h q (bg i)) (snA e q (bg (i + 1))) (snA g q x) ∧ eGs T U) := by
  obtain ⟨q1, q2, q3⟩ := id hq
  obtain ⟨s2, s1⟩ := hW i (by omega)
  obtain ⟨t2, t1⟩ := hW (i + 1) hi
  by_cases h2 : bg (i + 1) ≤ bg i
  · refine Or.inl ⟨h2, ?_⟩
    unfold f_X3_addSource
    rw [q2, if_neg (show ¬ (13 : Int32) ≤ o3 q from fun z => by have := (o3_le (a := 13) (by omega) (by omega)).mp z; omega), gI_o (by omega) (by omega), bd_some, o3_s, gI_o (by omega) (by omega), bd_some, s2, t2, if_pos ((o3_le (by omega) (by omega)).mpr h2)]
  · refine Or.inr ⟨by omega, ?_⟩
    have ev : f_X3_addSource (o3 i) (o6 x) T = some (pI (pL (pI (pI T 48 q (o3 (bg i))) 49 q (o3 (bg (i + 1)))) 50 q (o6 x)) 45 6 (o3 (q + 1))) := by
      have e : (pL (pI (pI T 48 q (o3 (bg i))) 49 q (o3 (bg (i + 1)))) 50 q (o6 x)).1 45 6 = o3 q := by
        show (pI (pI T 48 q (o3 (bg i))) 49 q (o3 (bg (i + 1)))).1 45 6 = o3 q
        rw [pI_ne (by omega), pI_ne (by omega), q2]
      unfold f_X3_addSource
      rw [q2, if_neg (show ¬ (13 : Int32) ≤ o3 q from fun z => by have := (o3_le (a := 13) (by omega) (by omega)).mp z; omega), gI_o (by omega) (by omega), bd_some, o3_s, gI_o (by omega) (by omega), bd_some, s2, t2, if_neg (fun z => h2 ((o3_le (by omega) (by omega)).mp z)), bd_some, sI_o (by omega) (by omega), bd_some, gI_o (by omega) (by omega), bd_some, pI_ne (by omega), q2, pI_ne (by omega), t2, sI_o (by omega) (by omega), bd_some, pI_ne (by omega), pI_ne (by omega), q2, sL_o (by omega) (by omega), bd_some, bd_some, e, o3_s]
    refine ⟨_, ev, ⟨by omega, pI_eq, fun k hk => ?_⟩, fun a k x y z => ?_, fun a k x => ?_⟩
    · by_cases e' : k = q
      · rw [e', snA_e, snA_e, snA_e]
        refine ⟨?_, ?_, ?_, by omega, t1, hx⟩
        · rw [pI_ne (by omega)]
          show (pI (pI T 48 q (o3 (bg i))) 49 q (o3 (bg (i + 1)))).1 48 q = o3 (bg i)
          rw [pI_ne (by omega), pI_eq]
        · rw [pI_ne (by omega)]
          show (pI (pI T 48 q (o3 (bg i))) 49 q (o3 (bg (i + 1)))).1 49 q = o3 (bg (i + 1))
          rw [pI_eq]
        · show (pL (pI (pI T 48 q (o3 (bg i))) 49 q (o3 (bg (i + 1)))) 50 q (o6 x)).2 50 q = o6 x
          rw [pL_eq]
      · have hk' : k < q := by omega
        rw [snA_l hk', snA_l hk', snA_l hk']
        obtain ⟨c1, c2, c3, c4, c5, c6⟩ := q3 k hk'
        refine ⟨?_, ?_, ?_, c4, c5, c6⟩
        · rw [pI_ne (by omega)]
          show (pI (pI T 48 q (o3 (bg i))) 49 q (o3 (bg (i + 1)))).1 48 k = o3 (h k)
          rw [pI_ne (by omega), pI_ne (by omega), c1]
        · rw [pI_ne (by omega)]
          show (pI (pI T 48 q (o3 (bg i))) 49 q (o3 (bg (i + 1)))).1 49 k = o3 (e k)
          rw [pI_ne (by omega), pI_ne (by omega), c2]
        · show (pL (pI (pI T 48 q (o3 (bg i))) 49 q (o3 (bg (i + 1)))) 50 q (o6 x)).2 50 k = o6 (g k)
          rw [pL_ne (by omega)]
          exact c3
    · rw [pI_ne (by omega)]
      show (pI (pI T 48 q (o3 (bg i))) 49 q (o3 (bg (i + 1)))).1 a k = T.1 a k
      rw [pI_ne (by omega), pI_ne (by omega)]
    · show (pL (pI (pI T 48 q (o3 (bg i))) 49 q (o3 (bg (i + 1)))) 50 q _).2 a k = T.2 a k
      rw [pL_ne (by omega)]
      rfl
/-- the sources: each of them a step into (t, f); every such step of In whose place is not empty is among them -/
def gaS (F : List (Nat × Nat)) (E : List St5) (bg : Nat → Nat) (t f : Nat) (In : Nat → Nat → Nat → Nat → Prop) (q : Nat) (h e g : Nat → Nat) : Prop := (∀ k, k < q → ∃ t' f' ga gc, inK F E E.length t f t' f' ga gc ∧ h k = bg (t' * F.length + f') ∧ e k = bg (t' * F.length + f' + 1) ∧ g k = ga * 32 + gc) ∧ (∀ t' f' ga gc, In t' f' ga gc → bg (t' * F.length + f') < bg (t' * F.length + f' + 1) → ∃ k, k < q ∧ h k = bg (t' * F.length + f') ∧ e k = bg (t' * F.length + f' + 1) ∧ g k = ga * 32 + gc)
section GS
variable {F : List (Nat × Nat)} {E : List St5} {bg h e g : Nat → Nat} {In In' : Nat → Nat → Nat → Nat → Prop}
theorem gaS_n {t f q : Nat} (hg : gaS F E bg t f In q h e g) (hn : ∀ t' f' ga gc, In' t' f' ga gc → bg (t' * F.length + f') < bg (t' * F.length + f' + 1) → In t' f' ga gc) : gaS F E bg t f In' q h e g := ⟨hg.1, fun t' f' ga gc hi hb => hg.2 t' f' ga gc (hn t' f' ga gc hi hb) hb⟩
theorem gaS_c {t f q t0 f1 ga0 gc0 : Nat} (hg : gaS F E bg t f In q h e g) (hin : inK F E E.length t f t0 f1 ga0 gc0) (hn : ∀ t' f' ga gc, In' t' f' ga gc → In t' f' ga gc ∨ (t' = t0 ∧ f' = f1 ∧ ga = ga0 ∧ gc = gc0)) : gaS F E bg t f In' (q + 1) (snA h q (bg (t0 * F.length + f1))) (snA e q (bg (t0 * F.length + f1 + 1))) (snA g q (ga0 * 32 + gc0)) := by
  refine ⟨fun k hk => ?_, fun t' f' ga gc hi hb => ?_⟩
  · by_cases z : k = q
    · rw [z, snA_e, snA_e, snA_e]
      exact ⟨t0, f1, ga0, gc0, hin, rfl, rfl, rfl⟩
    · rw [snA_n z, snA_n z, snA_n z]
      exact hg.1 k (by omega)
  · rcases hn t' f' ga gc hi with h1 | ⟨h1, h2, h3, h4⟩
    · obtain ⟨k, k1, k2, k3, k4⟩ := hg.2 t' f' ga gc h1 hb
      refine ⟨k, by omega, ?_, ?_, ?_⟩
      · rw [snA_l k1]; exact k2
      · rw [snA_l k1]; exact k3
      · rw [snA_l k1]; exact k4
    · rw [h1, h2, h3, h4]
      exact ⟨q, by omega, snA_e, snA_e, snA_e⟩
theorem eto_fn {k f a b : Nat} (h : eto E k f a) (h' : eto E k f b) : a = b := by
  rcases h.2 with ⟨x, y⟩ | ⟨x, y, z⟩
  · rcases h'.2 with ⟨u, v⟩ | ⟨u, v, w⟩
    · rw [y, v]
    · exact absurd x u
  · rcases h'.2 with ⟨u, v⟩ | ⟨u, v, w⟩
    · exact absurd u x
    · rw [z, w]
theorem q_37 (hE : ∀ q ∈ E, okS F.length q) (hm : F.length ≤ 10) (hl : E.length ≤ 12) {t p w : Nat} (ht : t ≤ 16) (hp : p < F.length) (hw : w ≤ 170) (hw2 : t * F.length ≤ w) {K : fS → Option fS} : ∀ d k nn T q h e g, k + d = E.length → d < nn → twC T 4 F E → hB T bg w → hQ T q h e g → q ≤ k + 1 → gaS F E bg t p (inK F E k t p) q h e g → ∃ U q' h' e' g', lp_X3_gatherSources_37 4 (o3 t) (o3 p) K nn (o3 k) T = K U ∧ hQ U q' h' e' g' ∧ gaS F E bg t p (inK F E E.length t p) q' h' e' g' ∧ eGs T U := by
  intro d
  induction d with
  | zero =>
    intro k nn T q h e g hk hnn b1 hW hq hqk hg
    obtain ⟨nn, rfl⟩ : ∃ z, nn = z + 1 := ⟨nn - 1, by omega⟩
    have hkE : k = E.length := by omega
    refine ⟨T, q, h, e, g, ?_, hq, by rw [hkE] at hg; exact hg, eGs.rf⟩
    rw [lp_X3_gatherSources_37.eq_2, b1.2.1, if_pos ((o3_le (by omega) (by omega)).mpr (by omega))]
  | succ d ih =>
    intro k nn T q h e g hk hnn b1 hW hq hqk hg
    obtain ⟨nn, rfl⟩ : ∃ z, nn = z + 1 := ⟨nn - 1, by omega⟩
    have hkl : k < E.length := by omega
    have hq' := hE _ (gd_mem (d := d5) hkl)
    have z3 : T.1 (4 + 4) k = o3 (E.getD k d5).2.2.1 := (b1.2.2.2 k hkl).2.2.1
    have z4 : T.2 (4 + 5) k = o6 ((E.getD k d5).2.2.2.1 * pz (E.getD k d5).2.2.2) := (b1.2.2.2 k hkl).2.2.2
    have h9 := hq'.2.2.2.2.1
    have h1 := hq'.2.2.2.1
    have skip : (∀ t' f', eto E k p f' → t = t' + ehh E k → ¬ bg (t' * F.length + f') < bg (t' * F.length + f' + 1)) → gaS F E bg t p (inK F E (k + 1) t p) q h e g := fun hn => gaS_n hg (fun t' f' ga gc hi hb => by
      rcases hi with hi | ⟨k', k1, k2, k3, k4, k5⟩
      · exact Or.inl hi
      · by_cases z : k' = k
        · rw [z] at k2 k3; exact absurd hb (hn t' f' k2 k3)
        · exact Or.inr ⟨k', by omega, k2, k3, k4, k5⟩)
    rw [lp_X3_gatherSources_37.eq_2, b1.2.1, if_neg (fun q => by have := (o3_le (by omega) (by omega)).mp q; omega), ch_other b1 hE hm hl hkl (by omega), bd_some, gI_o (by omega) (by omega), bd_some, z3, o3_s]
    rcases oe_or (a := p) hq' hm with ⟨o, o1, o2, o4⟩ | ⟨o2, o4, o5⟩
    · have het : eto E k p o := ⟨hkl, o4⟩
      have hok := eto_ok hE het
      rw [o2, if_neg (o3_nn (by omega))]
      by_cases hlt : t < (E.getD k d5).2.2.1
      · rw [if_pos ((o3_lt (by omega) (by omega)).mpr hlt)]
        exact ih (k + 1) nn T q h e g (by omega) (by omega) b1 hW hq (by omega) (skip (fun t' f' _ y => absurd y (by
          have : ehh E k = (E.getD k d5).2.2.1 := rfl
          omega)))
      · rw [if_neg (fun q => hlt ((o3_lt (by omega) (by omega)).mp q)), gL_o (by omega) (by omega), bd_some, z4, o6_of3 (by omega), o6_mul]
        have hix := idx_le (m := F.length) (t := t) (l := (E.getD k d5).2.2.1) (o := o) h1 (by omega) o1
        have hez : ez E k < 2 ^ 56 ∧ ez E k * 32 + ehh E k < 4398046511104 := by
          obtain ⟨_, _, _, y1, y2⟩ := hok
          omega
        have hs : f_X3_stateOf (o6 ((E.getD k d5).2.2.1 * ((E.getD k d5).2.2.2.1 * pz (E.getD k d5).2.2.2))) (o3 (E.getD k d5).2.2.1) T = some (o6 (ez E k * 32 + ehh E k)) := q5_st hez.1 (by omega)
        rw [hs, bd_some, b1.1, o3_sub (by omega), o3_mul, o3_add]
        have hin : inK F E E.length t p (t - ehh E k) o (ez E k) (ehh E k) := Or.inr ⟨k, hkl, het, by
          have : ehh E k = (E.getD k d5).2.2.1 := rfl
          omega, rfl, rfl⟩
        rcases q_add hW (i := (t - (E.getD k d5).2.2.1) * F.length + o) (x := ez E k * 32 + ehh E k) (by omega) hw hez.2 hq (by omega) with ⟨u0, u1⟩ | ⟨u0, U, u1, u2, u3⟩
        · rw [u1, bd_some]
          exact ih (k + 1) nn T q h e g (by omega) (by omega) b1 hW hq (by omega) (skip (fun t' f' x y => by
            rw [eto_fn x het, show t' = t - (E.getD k d5).2.2.1 by
              have : ehh E k = (E.getD k d5).2.2.1 := rfl
              omega]
            omega))
        · rw [u1, bd_some]
          have hg2 := gaS_c (In' := inK F E (k + 1) t p) hg hin (fun t' f' ga gc hi => by
            rcases hi with hi | ⟨k', k1, k2, k3, k4, k5⟩
            · exact Or.inl (Or.inl hi)
            · by_cases z : k' = k
              · rw [z] at k2 k3 k4 k5
                exact Or.inr ⟨by omega, eto_fn k2 het, k4, k5⟩
              · exact Or.inl (Or.inr ⟨k', by omega, k2, k3, k4, k5⟩))
          obtain ⟨V, q', h', e', g', v1, v2, v3, v4⟩ := ih (k + 1) nn U (q + 1) _ _ _ (by omega) (by omega) (twC_R b1 (eRp_G u3)) (hB_eq hW (fun k => u3.1 _ _ (by omega) (by omega) (by omega))) u2 (by omega) hg2
          exact ⟨V, q', h', e', g', v1, v2, v3, u3.tr v4⟩
    · rw [o2, if_pos (show (-1 : Int32) < 0 by decide)]
      exact ih (k + 1) nn T q h e g (by omega) (by omega) b1 hW hq (by omega) (skip (fun t' f' x _ => by
        rcases x.2 with ⟨x, _⟩ | ⟨_, x, _⟩
        · exact absurd x o4
        · exact absurd x o5))
theorem q_ga (hF : ∀ q ∈ F, okF q) (hE : ∀ q ∈ E, okS F.length q) (hm : F.length ≤ 10) (hl : E.length ≤ 12) {t p w : Nat} (ht : t ≤ 16) (hp : p < F.length) (hw : w ≤ 170) (hw2 : t * F.length ≤ w) {T : fS} (b1 : twC T 4 F E) (hW : hB T bg w) : ∃ U q h e g, f_X3_gatherSources 4 (o3 t) (o3 p) T = some U ∧ hQ U q h e g ∧ gaS F E bg t p (inK F E E.length t p) q h e g ∧ eGs T U := by
  unfold f_X3_gatherSources
  have e0 : eGs T (pI T 45 6 0) := ⟨fun a k x _ _ => pI_ne x, fun _ _ _ => rfl⟩
  have q0 : hQ (pI T 45 6 0) 0 (fun _ => 0) (fun _ => 0) (fun _ => 0) := ⟨by omega, pI_eq, fun k hk => absurd hk (Nat.not_lt_zero _)⟩
  have g0 : gaS F E bg t p (fun _ _ _ _ => False) 0 (fun _ => 0) (fun _ => 0) (fun _ => 0) := ⟨fun k hk => absurd hk (Nat.not_lt_zero _), fun _ _ _ _ hi => hi.elim⟩
  have b2 := twC_R b1 (eRp_G e0)
  have hW2 : hB (pI T 45 6 0) bg w := hB_eq hW (fun k => pI_ne (by omega))
  rw [bd_some]
  by_cases h : t < 1
  · rw [if_pos (show o3 t < (1 : Int32) from (o3_lt (b := 1) (by omega) (by omega)).mpr h)]
    have g1 : gaS F E bg t p (inK F E 0 t p) 0 (fun _ => 0) (fun _ => 0) (fun _ => 0) := gaS_n g0 (fun t' f' ga gc hi _ => by
      rcases hi with ⟨_, x, _⟩ | ⟨k', k1, _⟩
      · omega
      · omega)
    obtain ⟨U, q', h', e', g', u1, u2, u3, u4⟩ := q_37 hE hm hl ht hp hw hw2 (K := fun S23 => some S23) E.length 0 FU _ 0 _ _ _ (by omega) (FU_lt (by omega)) b2 hW2 q0 (by omega) g1
    exact ⟨U, q', h', e', g', u1, u2, u3, e0.tr u4⟩
  · have hix := idx_le (m := F.length) (t := t) (l := 1) (o := p) (by omega) (by omega) hp
    have zf : (pI T 45 6 0).2 (4 + 1) p = o6 (fz F p) := b2.2.2.1 p hp
    have hz := fz_le hF hp
    have hs : f_X3_stateOf (o6 (fz F p)) (0 : Int32) (pI T 45 6 0) = some (o6 (fz F p * 32 + 0)) := q5_st (a := 0) (by omega) (by omega)
    rw [if_neg (show ¬ o3 t < (1 : Int32) from fun z => h ((o3_lt (b := 1) (by omega) (by omega)).mp z)), gL_o (by omega) (by omega), bd_some, zf, hs, bd_some, b2.1, show o3 t - (1 : Int32) = o3 (t - 1) from by rw [show (1 : Int32) = o3 1 from rfl, o3_sub (by omega)], o3_mul, o3_add]
    have hin : inK F E E.length t p (t - 1) p (fz F p) 0 := Or.inl ⟨hp, by omega, rfl, rfl, rfl⟩
    rcases q_add hW2 (i := (t - 1) * F.length + p) (x := fz F p * 32 + 0) (by omega) hw (by omega) q0 (by omega) with ⟨u0, u1⟩ | ⟨u0, V, u1, u2, u3⟩
    · rw [u1, bd_some]
      have g1 : gaS F E bg t p (inK F E 0 t p) 0 (fun _ => 0) (fun _ => 0) (fun _ => 0) := gaS_n g0 (fun t' f' ga gc hi hb => by
        rcases hi with ⟨_, x, y, _⟩ | ⟨k', k1, _⟩
        · rw [y, show t' = t - 1 by omega] at hb
          omega
        · omega)
      obtain ⟨U, q', h', e', g', v1, v2, v3, v4⟩ := q_37 hE hm hl ht hp hw hw2 (K := fun S34 => some S34) E.length 0 FU _ 0 _ _ _ (by omega) (FU_lt (by omega)) b2 hW2 q0 (by omega) g1
      exact ⟨U, q', h', e', g', v1, v2, v3, e0.tr v4⟩
    · rw [u1, bd_some]
      have g1 := gaS_c (In' := inK F E 0 t p) g0 hin (fun t' f' ga gc hi => by
        rcases hi with ⟨_, x, y, z, w⟩ | ⟨k', k1, _⟩
        · exact Or.inr ⟨by omega, y, z, w⟩
        · omega)
      obtain ⟨U, q', h', e', g', v1, v2, v3, v4⟩ := q_37 hE hm hl ht hp hw hw2 (K := fun S34 => some S34) E.length 0 FU V 1 _ _ _ (by omega) (FU_lt (by omega)) (twC_R b2 (eRp_G u3)) (hB_eq hW2 (fun k => u3.1 _ _ (by omega) (by omega) (by omega))) u2 (by omega) g1
      exact ⟨U, q', h', e', g', v1, v2, v3, (e0.tr u3).tr v4⟩
end GS
end
