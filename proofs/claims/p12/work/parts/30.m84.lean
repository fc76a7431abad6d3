section
/-! ripe(): the class goes on -/
def eRp (S T : fS) : Prop := (∀ a k, ¬ (45 ≤ a ∧ a ≤ 50) → T.1 a k = S.1 a k) ∧ (∀ a k, ¬ (45 ≤ a ∧ a ≤ 50) → T.2 a k = S.2 a k)
theorem eRp.rf {S : fS} : eRp S S := ⟨fun _ _ _ => rfl, fun _ _ _ => rfl⟩
theorem eRp.tr {S T U : fS} (h : eRp S T) (g : eRp T U) : eRp S U := ⟨fun a k x => (g.1 a k x).trans (h.1 a k x), fun a k x => (g.2 a k x).trans (h.2 a k x)⟩
def okW (T : fS) (i : Nat) : Prop := ∀ j, j ≤ i → ∃ s, s ≤ 4000 ∧ T.1 47 j = o3 s
def okq (T : fS) : Prop := ∃ q, q ≤ 13 ∧ T.1 45 6 = o3 q ∧ ∀ k, k < q → ∃ a b, a ≤ 4000 ∧ b ≤ 4000 ∧ T.1 48 k = o3 a ∧ T.1 49 k = o3 b
def okr (T : fS) (c : Nat) : Prop := T.1 45 5 = o3 c ∧ c ≤ 4000
theorem okW_eq {T U : fS} {i : Nat} (h : okW T i) (g : ∀ k, U.1 47 k = T.1 47 k) : okW U i := fun j hj => by
  obtain ⟨s, s1, s2⟩ := h j hj
  exact ⟨s, s1, (g j).trans s2⟩
theorem k_keep {T : fS} {c st : Nat} {x : Int64} (hc : okr T c) (hs : st ≤ c) : ∃ r U c', f_X3_keep (o3 st) x T = some (r, U) ∧ okr U c' ∧ c ≤ c' ∧ (∀ a k, ¬ (a = 45 ∧ k = 5) → U.1 a k = T.1 a k) ∧ (∀ a k, a ≠ 46 → U.2 a k = T.2 a k) := by
  obtain ⟨hc, h4⟩ := hc
  have app : c < 4000 → ((sL T 46 4000 (o3 c) x).bind fun S3 => (some (pI S3 45 5 ((S3.1 45 5) + (1 : Int32)))).bind fun S6 => some ((1 : Int32), S6)) = some (1, pI (pL T 46 c x) 45 5 (o3 (c + 1))) := fun h => by
    rw [sL_o h (by omega), bd_some, bd_some, show (pL T 46 c x).1 45 5 = o3 c from hc, o3_s]
  have fin : ∃ r U c', (if o3 c < (4000 : Int32) then ((sL T 46 4000 (o3 c) x).bind fun S3 => (some (pI S3 45 5 ((S3.1 45 5) + (1 : Int32)))).bind fun S6 => some ((1 : Int32), S6)) else some (0, T)) = some (r, U) ∧ okr U c' ∧ c ≤ c' ∧ (∀ a k, ¬ (a = 45 ∧ k = 5) → U.1 a k = T.1 a k) ∧ (∀ a k, a ≠ 46 → U.2 a k = T.2 a k) := by
    by_cases h : c < 4000
    · rw [if_pos (show o3 c < (4000 : Int32) from (o3_lt (b := 4000) (by omega) (by omega)).mpr h), app h]
      exact ⟨1, _, c + 1, rfl, ⟨pI_eq, by omega⟩, by omega, fun a k h => pI_ne h, fun a k h => pL_ne (by omega)⟩
    · rw [if_neg (show ¬ o3 c < (4000 : Int32) from fun q => h ((o3_lt (b := 4000) (by omega) (by omega)).mp q))]
      exact ⟨0, T, c, rfl, ⟨hc, h4⟩, by omega, fun _ _ _ => rfl, fun _ _ _ => rfl⟩
  unfold f_X3_keep f_X3_ageOf
  rw [hc]
  by_cases h : c ≤ st
  · rw [if_pos ((o3_le (by omega) (by omega)).mpr h)]
    exact fin
  · rw [if_neg (fun q => h ((o3_le (by omega) (by omega)).mp q)), show o3 c - (1 : Int32) = o3 (c - 1) from by rw [show (1 : Int32) = o3 1 from rfl, o3_sub (by omega)], gL_o (by omega) (by omega), bd_some, bd_some, bd_some]
    split
    · exact ⟨1, T, c, rfl, ⟨hc, h4⟩, by omega, fun _ _ _ => rfl, fun _ _ _ => rfl⟩
    · exact fin
/-- sources: what stays -/
def eGs (S T : fS) : Prop := (∀ a k, ¬ (a = 45 ∧ k = 6) → a ≠ 48 → a ≠ 49 → T.1 a k = S.1 a k) ∧ (∀ a k, a ≠ 50 → T.2 a k = S.2 a k)
theorem eGs.rf {S : fS} : eGs S S := ⟨fun _ _ _ _ _ => rfl, fun _ _ _ => rfl⟩
theorem eGs.tr {S T U : fS} (h : eGs S T) (g : eGs T U) : eGs S U := ⟨fun a k x y z => (g.1 a k x y z).trans (h.1 a k x y z), fun a k x => (g.2 a k x).trans (h.2 a k x)⟩
theorem eRp_G {S T : fS} (h : eGs S T) : eRp S T := ⟨fun a k x => h.1 a k (by omega) (by omega) (by omega), fun a k x => h.2 a k (by omega)⟩
theorem k_add {T : fS} {i w : Nat} {x : Int64} (hW : okW T w) (hi : i + 1 ≤ w) (hw : w ≤ 170) (hq : okq T) : ∃ U, f_X3_addSource (o3 i) x T = some U ∧ okq U ∧ eGs T U := by
  obtain ⟨q, q1, q2, q3⟩ := id hq
  obtain ⟨s, s1, s2⟩ := hW i (by omega)
  obtain ⟨t, t1, t2⟩ := hW (i + 1) hi
  unfold f_X3_addSource
  rw [q2]
  by_cases h : 13 ≤ q
  · rw [if_pos (show (13 : Int32) ≤ o3 q from (o3_le (a := 13) (by omega) (by omega)).mpr h)]
    exact ⟨T, rfl, hq, eGs.rf⟩
  · rw [if_neg (show ¬ (13 : Int32) ≤ o3 q from fun z => h ((o3_le (a := 13) (by omega) (by omega)).mp z)), gI_o (by omega) (by omega), bd_some, o3_s, gI_o (by omega) (by omega), bd_some, s2, t2]
    by_cases h2 : t ≤ s
    · rw [if_pos ((o3_le (by omega) (by omega)).mpr h2)]
      exact ⟨T, rfl, hq, eGs.rf⟩
    · rw [if_neg (fun z => h2 ((o3_le (by omega) (by omega)).mp z)), bd_some, sI_o (by omega) (by omega), bd_some, gI_o (by omega) (by omega), bd_some, pI_ne (by omega), q2, pI_ne (by omega), t2, sI_o (by omega) (by omega), bd_some, pI_ne (by omega), pI_ne (by omega), q2, sL_o (by omega) (by omega), bd_some, bd_some]
      have e : (pL (pI (pI T 48 q (o3 s)) 49 q (o3 t)) 50 q x).1 45 6 = o3 q := by
        show (pI (pI T 48 q (o3 s)) 49 q (o3 t)).1 45 6 = o3 q
        rw [pI_ne (by omega), pI_ne (by omega), q2]
      rw [e, o3_s]
      refine ⟨_, rfl, ⟨q + 1, by omega, pI_eq, fun k hk => ?_⟩, fun a k x y z => ?_, fun a k x => ?_⟩
      · by_cases e : k = q
        · subst e
          refine ⟨s, t, s1, t1, ?_, ?_⟩
          · rw [pI_ne (by omega)]
            show (pI (pI T 48 k (o3 s)) 49 k (o3 t)).1 48 k = o3 s
            rw [pI_ne (by omega), pI_eq]
          · rw [pI_ne (by omega)]
            show (pI (pI T 48 k (o3 s)) 49 k (o3 t)).1 49 k = o3 t
            rw [pI_eq]
        · obtain ⟨a, b, c1, c2, c3, c4⟩ := q3 k (by omega)
          refine ⟨a, b, c1, c2, ?_, ?_⟩
          · rw [pI_ne (by omega)]
            show (pI (pI T 48 q (o3 s)) 49 q (o3 t)).1 48 k = o3 a
            rw [pI_ne (by omega), pI_ne (by omega), c3]
          · rw [pI_ne (by omega)]
            show (pI (pI T 48 q (o3 s)) 49 q (o3 t)).1 49 k = o3 b
            rw [pI_ne (by omega), pI_ne (by omega), c4]
      · rw [pI_ne (by omega)]
        show (pI (pI T 48 q (o3 s)) 49 q (o3 t)).1 a k = T.1 a k
        rw [pI_ne (by omega), pI_ne (by omega)]
      · show (pL (pI (pI T 48 q (o3 s)) 49 q (o3 t)) 50 q _).2 a k = T.2 a k
        rw [pL_ne (by omega)]
        rfl
section KR
variable {F : List (Nat × Nat)} {E : List St5}
theorem twC_R {S T : fS} (h : twC S 4 F E) (e : eRp S T) : twC T 4 F E := twC_eq h (fun a k _ _ => e.1 a k (by omega)) (fun a k _ _ => e.2 a k (by omega))
theorem idx_le {m t l o : Nat} (hl : 1 ≤ l) (hlt : l ≤ t) (ho : o < m) : (t - l) * m + o + 1 ≤ t * m := by
  obtain ⟨u, rfl⟩ : ∃ u, t = u + l := ⟨t - l, by omega⟩
  rw [Nat.add_sub_cancel, Nat.add_mul]
  have : 1 * m ≤ l * m := Nat.mul_le_mul_right m hl
  omega
theorem k_37 (hE : ∀ q ∈ E, okS F.length q) (hm : F.length ≤ 10) (hl : E.length ≤ 12) {t p w : Nat} (ht : t ≤ 16) (hp : p < F.length) (hw : w ≤ 170) (hw2 : t * F.length ≤ w) {K : fS → Option fS} : ∀ d k nn T, k + d = E.length → d < nn → twC T 4 F E → okW T w → okq T → ∃ U, lp_X3_gatherSources_37 4 (o3 t) (o3 p) K nn (o3 k) T = K U ∧ okq U ∧ eGs T U := by
  intro d
  induction d with
  | zero =>
    intro k nn T hk hnn b1 hW hq
    obtain ⟨nn, rfl⟩ : ∃ z, nn = z + 1 := ⟨nn - 1, by omega⟩
    refine ⟨T, ?_, hq, eGs.rf⟩
    rw [lp_X3_gatherSources_37.eq_2, b1.2.1, if_pos ((o3_le (by omega) (by omega)).mpr (by omega))]
  | succ d ih =>
    intro k nn T hk hnn b1 hW hq
    obtain ⟨nn, rfl⟩ : ∃ z, nn = z + 1 := ⟨nn - 1, by omega⟩
    have hkl : k < E.length := by omega
    have hq' := hE _ (gd_mem (d := d5) hkl)
    have z3 : T.1 (4 + 4) k = o3 (E.getD k d5).2.2.1 := (b1.2.2.2 k hkl).2.2.1
    have h9 := hq'.2.2.2.2.1
    have h1 := hq'.2.2.2.1
    rw [lp_X3_gatherSources_37.eq_2, b1.2.1, if_neg (fun q => by have := (o3_le (by omega) (by omega)).mp q; omega), ch_other b1 hE hm hl hkl (by omega), bd_some, gI_o (by omega) (by omega), bd_some, z3, o3_s]
    rcases oe_or (a := p) hq' hm with ⟨o, o1, o2, _⟩ | ⟨o2, _⟩
    · rw [o2, if_neg (o3_nn (by omega))]
      by_cases h : t < (E.getD k d5).2.2.1
      · rw [if_pos ((o3_lt (by omega) (by omega)).mpr h)]
        exact ih (k + 1) nn T (by omega) (by omega) b1 hW hq
      · rw [if_neg (fun q => h ((o3_lt (by omega) (by omega)).mp q)), gL_o (by omega) (by omega), bd_some]
        unfold f_X3_stateOf
        have hix := idx_le (m := F.length) (t := t) (l := (E.getD k d5).2.2.1) (o := o) h1 (by omega) o1
        rw [bd_some, b1.1, o3_sub (by omega), o3_mul, o3_add]
        obtain ⟨U, u1, u2, u3⟩ := k_add (x := ((Int32.toInt64 (o3 (E.getD k d5).2.2.1) * T.2 (4 + 5) k) <<< (Int32.toInt64 (5 : Int32) &&& 63)) ||| (Int32.toInt64 (o3 (E.getD k d5).2.2.1))) hW (i := (t - (E.getD k d5).2.2.1) * F.length + o) (by omega) hw hq
        rw [u1, bd_some]
        obtain ⟨V, v1, v2, v3⟩ := ih (k + 1) nn U (by omega) (by omega) (twC_R b1 (eRp_G u3)) (okW_eq hW (fun k => u3.1 _ _ (by omega) (by omega) (by omega))) u2
        exact ⟨V, v1, v2, u3.tr v3⟩
    · rw [o2, if_pos (show (-1 : Int32) < 0 by decide)]
      exact ih (k + 1) nn T (by omega) (by omega) b1 hW hq
theorem k_ga (hE : ∀ q ∈ E, okS F.length q) (hm : F.length ≤ 10) (hl : E.length ≤ 12) {t p w : Nat} (ht : t ≤ 16) (hp : p < F.length) (hw : w ≤ 170) (hw2 : t * F.length ≤ w) {T : fS} (b1 : twC T 4 F E) (hW : okW T w) : ∃ U, f_X3_gatherSources 4 (o3 t) (o3 p) T = some U ∧ okq U ∧ eGs T U := by
  unfold f_X3_gatherSources
  have e0 : eGs T (pI T 45 6 0) := ⟨fun a k x _ _ => pI_ne x, fun _ _ _ => rfl⟩
  have q0 : okq (pI T 45 6 0) := ⟨0, by omega, pI_eq, fun k hk => absurd hk (Nat.not_lt_zero _)⟩
  have b2 := twC_R b1 (eRp_G e0)
  have hW2 : okW (pI T 45 6 0) w := okW_eq hW (fun k => pI_ne (by omega))
  rw [bd_some]
  by_cases h : t < 1
  · rw [if_pos (show o3 t < (1 : Int32) from (o3_lt (b := 1) (by omega) (by omega)).mpr h)]
    obtain ⟨U, u1, u2, u3⟩ := k_37 hE hm hl ht hp hw hw2 (K := fun S23 => some S23) E.length 0 FU _ (by omega) (FU_lt (by omega)) b2 hW2 q0
    exact ⟨U, u1, u2, e0.tr u3⟩
  · have hix := idx_le (m := F.length) (t := t) (l := 1) (o := p) (by omega) (by omega) hp
    rw [if_neg (show ¬ o3 t < (1 : Int32) from fun z => h ((o3_lt (b := 1) (by omega) (by omega)).mp z)), gL_o (by omega) (by omega), bd_some]
    unfold f_X3_stateOf
    rw [bd_some, b2.1, show (1 : Int32) = o3 1 from rfl, o3_sub (by omega), o3_mul, o3_add]
    obtain ⟨V, v1, v2, v3⟩ := k_add (x := ((pI T 45 6 0).2 (4 + 1) p <<< (Int32.toInt64 (5 : Int32) &&& 63)) ||| (Int32.toInt64 (0 : Int32))) hW2 (i := (t - 1) * F.length + p) (by omega) hw q0
    rw [v1, bd_some]
    obtain ⟨U, u1, u2, u3⟩ := k_37 hE hm hl ht hp hw hw2 (K := fun S34 => some S34) E.length 0 FU V (by omega) (FU_lt (by omega)) (twC_R b2 (eRp_G v3)) (okW_eq hW2 (fun k => v3.1 _ _ (by omega) (by omega) (by omega))) v2
    exact ⟨U, u1, u2, (e0.tr v3).tr u3⟩
end KR
def vls (T : fS) (q : Nat) (r : Int32) : Prop := r = -1 ∨ ∃ k a b, k < q ∧ r = o3 k ∧ T.1 48 k = o3 a ∧ T.1 49 k = o3 b ∧ a < b ∧ b ≤ 4000
theorem k_least {T : fS} {q : Nat} (q1 : q ≤ 13) (q2 : T.1 45 6 = o3 q) (q3 : ∀ k, k < q → ∃ a b, a ≤ 4000 ∧ b ≤ 4000 ∧ T.1 48 k = o3 a ∧ T.1 49 k = o3 b) : ∃ r, f_X3_leastSource T = some r ∧ vls T q r := by
  have key : ∀ d k nn (p1 : Int32) (p2 : Int64), k + d = q → d < nn → vls T q p1 → ∃ r, lp_X3_leastSource_7 T (fun u20 => some u20) nn p1 p2 (o3 k) = some r ∧ vls T q r := by
    intro d
    induction d with
    | zero =>
      intro k nn p1 p2 hk hnn hv
      obtain ⟨nn, rfl⟩ : ∃ z, nn = z + 1 := ⟨nn - 1, by omega⟩
      rw [lp_X3_leastSource_7.eq_2, q2, if_pos ((o3_le (by omega) (by omega)).mpr (by omega))]
      exact ⟨p1, rfl, hv⟩
    | succ d ih =>
      intro k nn p1 p2 hk hnn hv
      obtain ⟨nn, rfl⟩ : ∃ z, nn = z + 1 := ⟨nn - 1, by omega⟩
      obtain ⟨a, b, a1, b1, a2, b2⟩ := q3 k (by omega)
      rw [lp_X3_leastSource_7.eq_2, q2, if_neg (fun q => by have := (o3_le (by omega) (by omega)).mp q; omega), gI_o (by omega) (by omega), bd_some, gI_o (by omega) (by omega), bd_some, a2, b2, o3_s]
      by_cases h : a < b
      · rw [if_pos ((o3_lt (by omega) (by omega)).mpr h), bd_some, gL_o (by omega) (by omega), bd_some, gL_o (by omega) (by omega), bd_some]
        have hk' : vls T q (o3 k) := Or.inr ⟨k, a, b, by omega, rfl, a2, b2, h, b1⟩
        split
        · exact ih (k + 1) nn _ _ (by omega) (by omega) hk'
        · split
          · exact ih (k + 1) nn _ _ (by omega) (by omega) hv
          · exact ih (k + 1) nn _ _ (by omega) (by omega) hk'
      · rw [if_neg (fun z => h ((o3_lt (by omega) (by omega)).mp z))]
        exact ih (k + 1) nn _ _ (by omega) (by omega) hv
  exact key q 0 FU (-1) 0 (by omega) (FU_lt (by omega)) (Or.inl rfl)
/-- merging: what stays -/
def eMg (S T : fS) : Prop := (∀ a k, ¬ (a = 45 ∧ k = 5) → a ≠ 48 → T.1 a k = S.1 a k) ∧ (∀ a k, a ≠ 46 → T.2 a k = S.2 a k)
theorem eMg.rf {S : fS} : eMg S S := ⟨fun _ _ _ _ => rfl, fun _ _ _ => rfl⟩
theorem eMg.tr {S T U : fS} (h : eMg S T) (g : eMg T U) : eMg S U := ⟨fun a k x y => (g.1 a k x y).trans (h.1 a k x y), fun a k x => (g.2 a k x).trans (h.2 a k x)⟩
theorem eRp_M {S T : fS} (h : eMg S T) : eRp S T := ⟨fun a k x => h.1 a k (by omega) (by omega), fun a k x => h.2 a k (by omega)⟩
theorem k_merge {st : Nat} : ∀ d k nn T c, k + d = 52001 → d < nn → okr T c → st ≤ c → okq T → ∃ r U c', lp_X3_merge_2 (o3 st) (fun S25 => some ((0 : Int32), S25)) nn (o3 k) T = some (r, U) ∧ okr U c' ∧ eMg T U := by
  intro d
  induction d with
  | zero =>
    intro k nn T c hk hnn hc hs hq
    obtain ⟨nn, rfl⟩ : ∃ z, nn = z + 1 := ⟨nn - 1, by omega⟩
    rw [lp_X3_merge_2.eq_2, if_pos (show (52000 : Int32) < o3 k from (o3_lt (a := 52000) (by omega) (by omega)).mpr (by omega))]
    exact ⟨0, T, c, rfl, hc, eMg.rf⟩
  | succ d ih =>
    intro k nn T c hk hnn hc hs hq
    obtain ⟨nn, rfl⟩ : ∃ z, nn = z + 1 := ⟨nn - 1, by omega⟩
    obtain ⟨q, q1, q2, q3⟩ := id hq
    obtain ⟨r, r1, r2⟩ := k_least q1 q2 q3
    rw [lp_X3_merge_2.eq_2, if_neg (show ¬ (52000 : Int32) < o3 k from fun z => by have := (o3_lt (a := 52000) (by omega) (by omega)).mp z; omega), r1, bd_some, o3_s]
    rcases r2 with r2 | ⟨i, a, b, i1, i2, i3, i4, i5, i6⟩
    · rw [r2, if_neg (show ¬ (0 : Int32) ≤ -1 by decide)]
      exact ⟨1, T, c, rfl, hc, eMg.rf⟩
    · rw [i2, if_pos (o3_0le (by omega)), gI_o (by omega) (by omega), bd_some, bd_some, sI_o (by omega) (by omega), bd_some, i3, o3_s, gL_o (by omega) (by omega), bd_some, gL_o (by omega) (by omega), bd_some]
      have e1 : eMg T (pI T 48 i (o3 (a + 1))) := ⟨fun a k _ y => pI_ne (by omega), fun _ _ _ => rfl⟩
      have hc1 : okr (pI T 48 i (o3 (a + 1))) c := ⟨(pI_ne (by omega)).trans hc.1, hc.2⟩
      obtain ⟨r', U, c', u1, u2, u3, u4, u5⟩ := k_keep (x := (pI T 48 i (o3 (a + 1))).2 46 a + (pI T 48 i (o3 (a + 1))).2 50 i) hc1 hs
      have e2 : eMg (pI T 48 i (o3 (a + 1))) U := ⟨fun a k x _ => u4 a k x, u5⟩
      rw [u1, bd_some]
      by_cases z : r' = 0
      · rw [if_pos z]
        exact ⟨0, U, c', rfl, u2, e1.tr e2⟩
      · rw [if_neg z]
        have hqU : okq U := ⟨q, q1, by rw [u4 _ _ (by omega), pI_ne (by omega), q2], fun j hj => by
          rw [u4 48 j (by omega), u4 49 j (by omega), pI_ne (a := 48) (b := 49) (by omega)]
          by_cases e : j = i
          · subst e
            exact ⟨a + 1, b, by omega, i6, pI_eq, i4⟩
          · obtain ⟨a', b', w1, w2, w3, w4⟩ := q3 j hj
            exact ⟨a', b', w1, w2, by rw [pI_ne (by omega)]; exact w3, w4⟩⟩
        obtain ⟨r'', V, c'', v1, v2, v3⟩ := ih (k + 1) nn U c' (by omega) (by omega) u2 (by omega) hqU
        exact ⟨r'', V, c'', v1, v2, (e1.tr e2).tr v3⟩
end
