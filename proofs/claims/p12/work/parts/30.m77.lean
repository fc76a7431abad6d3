section
theorem bs_mem {v : Nat → Int64} {mx : Int32} : ∀ d k x, bs v mx d k x = x ∨ ∃ j, k ≤ j ∧ j < k + d ∧ bs v mx d k x = v j := by
  intro d
  induction d with
  | zero => intro k x; exact Or.inl rfl
  | succ d ih =>
    intro k x
    have e : bs v mx (d + 1) k x = bs v mx d (k + 1) (bt mx (v k) x) := rfl
    have hb : bt mx (v k) x = v k ∨ bt mx (v k) x = x := by
      unfold bt
      split
      · exact Or.inr rfl
      · split
        · exact Or.inl rfl
        · split
          · split
            · exact Or.inr rfl
            · exact Or.inl rfl
          · split
            · exact Or.inr rfl
            · exact Or.inl rfl
    rcases ih (k + 1) (bt mx (v k) x) with h | ⟨j, j1, j2, j3⟩
    · rcases hb with h' | h'
      · exact Or.inr ⟨k, Nat.le_refl _, by omega, by rw [e, h, h']⟩
      · exact Or.inl (by rw [e, h, h'])
    · exact Or.inr ⟨j, by omega, by omega, by rw [e, j3]⟩
/-- the first one of that worth -/
def pf (v : Nat → Int64) (q : Int64) : Nat → Nat → Option Nat
  | 0, _ => none
  | d + 1, k => if v k = q then some k else pf v q d (k + 1)
theorem pf_ex {v : Nat → Int64} {q : Int64} : ∀ d k, (∃ j, k ≤ j ∧ j < k + d ∧ v j = q) → ∃ j, pf v q d k = some j ∧ j < k + d := by
  intro d
  induction d with
  | zero => intro k ⟨j, h1, h2, _⟩; omega
  | succ d ih =>
    intro k ⟨j, h1, h2, h3⟩
    have e : pf v q (d + 1) k = if v k = q then some k else pf v q d (k + 1) := rfl
    rw [e]
    by_cases h : v k = q
    · rw [if_pos h]; exact ⟨k, rfl, by omega⟩
    · rw [if_neg h]
      have : j ≠ k := fun z => h (z ▸ h3)
      obtain ⟨i, i1, i2⟩ := ih (k + 1) ⟨j, by omega, by omega, h3⟩
      exact ⟨i, i1, by omega⟩
section PM3
variable {F : List (Nat × Nat)} {E : List St5} {tg : Nat} {mx : Int32} {n : Nat}
theorem pn_57 {p1 p4 p5 : Int32} (htg : tg < 2147483648) (hn : n ≤ 120) {K : fS → Option (Int64 × fS)} : ∀ d k nn (S : fS), k + d = 10 → d < nn → (∀ j, j < k → S.2 162 (10 * n + j) = if j = tg then 0 else -1) → ∃ T, lp_X11_plan_57 p1 (o3 tg) (o3 n) p4 p5 K nn (o3 k) S = K T ∧ (∀ j, j < 10 → T.2 162 (10 * n + j) = if j = tg then 0 else -1) ∧ e162 S T := by
  intro d
  induction d with
  | zero =>
    intro k nn S hk hnn hj
    obtain ⟨nn, rfl⟩ : ∃ z, nn = z + 1 := ⟨nn - 1, by omega⟩
    rw [lp_X11_plan_57.eq_2, if_pos (show (10 : Int32) ≤ o3 k from (o3_le (a := 10) (by omega) (by omega)).mpr (by omega))]
    exact ⟨S, rfl, fun j h => hj j (by omega), e162.rf⟩
  | succ d ih =>
    intro k nn S hk hnn hj
    obtain ⟨nn, rfl⟩ : ∃ z, nn = z + 1 := ⟨nn - 1, by omega⟩
    have key : ∀ x, x = (if k = tg then (0 : Int64) else -1) → ∃ T, lp_X11_plan_57 p1 (o3 tg) (o3 n) p4 p5 K nn (o3 (k + 1)) (pL S 162 (10 * n + k) x) = K T ∧ (∀ j, j < 10 → T.2 162 (10 * n + j) = if j = tg then 0 else -1) ∧ e162 S T := fun x hx => by
      obtain ⟨T, t1, t2, t3⟩ := ih (k + 1) nn (pL S 162 (10 * n + k) x) (by omega) (by omega) (fun j h => by
        by_cases e : j = k
        · subst e; rw [pL_eq, hx]
        · rw [pL_ne (by omega)]; exact hj j (by omega))
      exact ⟨T, t1, t2, e162_p.tr t3⟩
    rw [lp_X11_plan_57.eq_2, if_neg (show ¬ (10 : Int32) ≤ o3 k from fun q => by have := (o3_le (a := 10) (by omega) (by omega)).mp q; omega), show (10 : Int32) = o3 10 from rfl, o3_mul, o3_add, sL_o (by omega) (by omega), sL_o (by omega) (by omega), bd_some, bd_some, o3_s]
    by_cases e : k = tg
    · rw [if_pos ((o3_inj (by omega) htg).mpr e)]
      exact key 0 (by rw [if_pos e])
    · rw [if_neg (fun q => e ((o3_inj (by omega) htg).mp q))]
      exact key (-1) (by rw [if_neg e])
theorem tbM_s {S : fS} {t : Nat} (hT : tbM F E tg mx n S (t + 1)) (hj : ∀ f, f < F.length → S.2 162 (10 * t + f) = GG F E tg mx (n - t) f) : tbM F E tg mx n S t := fun j f h1 h2 h3 => by
  by_cases e : j = t
  · rw [e]; exact hj f h3
  · exact hT j f (by omega) h2 h3
theorem pn_108 {p1 p5 : Int32} (hF : ∀ q ∈ F, okF q) (hE : ∀ q ∈ E, okS F.length q) (hm : F.length ≤ 10) (hl : E.length ≤ 12) (hn : n ≤ 120) {t : Nat} (ht : t < n) {K : fS → Option (Int64 × fS)} : ∀ d k nn (S : fS), k + d = F.length → d < nn → twM (S.1 157) F E → tbM F E tg mx n S (t + 1) → (∀ f, f < k → S.2 162 (10 * t + f) = GG F E tg mx (n - t) f) → ∃ T, lp_X11_plan_108 p1 (o3 n) mx p5 (o3 t) K nn (o3 k) S = K T ∧ tbM F E tg mx n T t ∧ e162 S T := by
  intro d
  induction d with
  | zero =>
    intro k nn S hk hnn m1 hT hj
    obtain ⟨nn, rfl⟩ : ∃ z, nn = z + 1 := ⟨nn - 1, by omega⟩
    rw [lp_X11_plan_108.eq_2, show gI S 157 158 0 = some (o3 F.length) from (gI_o (k := 0) (by omega) (by omega)).trans (congrArg some m1.1), bd_some, if_pos ((o3_le (by omega) (by omega)).mpr (by omega))]
    exact ⟨S, rfl, tbM_s hT (fun f hf => hj f (by omega)), e162.rf⟩
  | succ d ih =>
    intro k nn S hk hnn m1 hT hj
    obtain ⟨nn, rfl⟩ : ∃ z, nn = z + 1 := ⟨nn - 1, by omega⟩
    rw [lp_X11_plan_108.eq_2, show gI S 157 158 0 = some (o3 F.length) from (gI_o (k := 0) (by omega) (by omega)).trans (congrArg some m1.1), bd_some, if_neg (fun q => by have := (o3_le (by omega) (by omega)).mp q; omega), mg_best m1 hF hE hT hn ht (by omega) hm hl, bd_some, show (10 : Int32) = o3 10 from rfl, o3_mul, o3_add, sL_o (by omega) (by omega), bd_some, o3_s]
    obtain ⟨T, t1, t2, t3⟩ := ih (k + 1) nn (pL S 162 (10 * t + k) (GG F E tg mx (n - t) k)) (by omega) (by omega) m1 (fun j f h1 h2 h3 => by rw [pL_ne (by omega)]; exact hT j f h1 h2 h3) (fun f hf => by
      by_cases e : f = k
      · subst e; rw [pL_eq]
      · rw [pL_ne (by omega)]; exact hj f (by omega))
    exact ⟨T, t1, t2, e162_p.tr t3⟩
theorem pn_100 {p1 p5 : Int32} (hF : ∀ q ∈ F, okF q) (hE : ∀ q ∈ E, okS F.length q) (hm : F.length ≤ 10) (hl : E.length ≤ 12) (hn : n ≤ 120) {K : fS → Option (Int64 × fS)} : ∀ t nn (S : fS), t ≤ n → t < nn → twM (S.1 157) F E → tbM F E tg mx n S t → ∃ T, lp_X11_plan_100 p1 (o3 n) mx p5 K nn (o3 t - 1) S = K T ∧ tbM F E tg mx n T 0 ∧ e162 S T := by
  intro t
  induction t with
  | zero =>
    intro nn S htn hnn m1 hT
    obtain ⟨nn, rfl⟩ : ∃ z, nn = z + 1 := ⟨nn - 1, by omega⟩
    rw [lp_X11_plan_100.eq_2, if_pos (show o3 0 - 1 < (0 : Int32) by decide)]
    exact ⟨S, rfl, hT, e162.rf⟩
  | succ t ih =>
    intro nn S htn hnn m1 hT
    obtain ⟨nn, rfl⟩ : ∃ z, nn = z + 1 := ⟨nn - 1, by omega⟩
    rw [lp_X11_plan_100.eq_2, show o3 (t + 1) - 1 = o3 t from by rw [show (1 : Int32) = o3 1 from rfl, o3_sub (by omega)]; rfl, if_neg (o3_nn (by omega))]
    obtain ⟨T1, a1, a2, a3⟩ := pn_108 (tg := tg) (mx := mx) (p1 := p1) (p5 := p5) hF hE hm hl hn (t := t) (by omega) (K := fun S42 => lp_X11_plan_100 p1 (o3 n) mx p5 K nn (o3 t + (-1 : Int32)) S42) F.length 0 FU S (by omega) (FU_lt (by omega)) m1 hT (fun f hf => absurd hf (Nat.not_lt_zero _))
    obtain ⟨T, t1, t2, t3⟩ := ih nn T1 (by omega) (by omega) (by rw [a3.1]; exact m1) a2
    refine ⟨T, a1.trans ?_, t2, a3.tr t3⟩
    rw [show o3 t + (-1 : Int32) = o3 t - 1 from (Int32.sub_eq_add_neg _ _).symm]
    exact t1
theorem pn_218 {K : Int32 → fS → Option (Int64 × fS)} {S : fS} {f : Nat} {q : Int64} {i : Nat} (hby : ∀ k, k < E.length → f_X11_by (o3 f) 0 (o3 k) (o3 n) S = some (gsv E (GG F E tg mx) n f k)) : ∀ d k nn, k + d ≤ E.length → d < nn → pf (gsv E (GG F E tg mx) n f) q d k = some i → lp_X11_plan_218 (o3 n) (o3 f) q K nn (o3 k) S = K (o3 i) S := by
  intro d
  induction d with
  | zero => intro k nn _ _ h; exact nomatch h
  | succ d ih =>
    intro k nn hk hnn h
    obtain ⟨nn, rfl⟩ : ∃ z, nn = z + 1 := ⟨nn - 1, by omega⟩
    have e : pf (gsv E (GG F E tg mx) n f) q (d + 1) k = if gsv E (GG F E tg mx) n f k = q then some k else pf (gsv E (GG F E tg mx) n f) q d (k + 1) := rfl
    rw [e] at h
    rw [lp_X11_plan_218.eq_2, hby k (by omega), bd_some, o3_s]
    by_cases z : gsv E (GG F E tg mx) n f k = q
    · rw [if_pos z] at h ⊢
      obtain rfl := Option.some.inj h
      rfl
    · rw [if_neg z] at h ⊢
      exact ih (k + 1) nn (by omega) (by omega) h
theorem cf_34 {S : fS} {f : Nat} {q : Int64} {i : Nat} (hE2 : S.1 4 7 = o3 E.length) (hl : E.length ≤ 12) (hby : ∀ k, k < E.length → f_X1_gainByStair 4 (o3 n) (o3 f) (o3 k) S = some (gsv E (GG F E tg mx) n f k)) : ∀ d k nn, k + d ≤ E.length → d < nn → pf (gsv E (GG F E tg mx) n f) q d k = some i → lp_X1_firstStep_34 4 (o3 n) (o3 f) q S (fun _ => some (-2)) nn (o3 k) = some (o3 i) := by
  intro d
  induction d with
  | zero => intro k nn _ _ h; exact nomatch h
  | succ d ih =>
    intro k nn hk hnn h
    obtain ⟨nn, rfl⟩ : ∃ z, nn = z + 1 := ⟨nn - 1, by omega⟩
    have e : pf (gsv E (GG F E tg mx) n f) q (d + 1) k = if gsv E (GG F E tg mx) n f k = q then some k else pf (gsv E (GG F E tg mx) n f) q d (k + 1) := rfl
    rw [e] at h
    rw [lp_X1_firstStep_34.eq_2, hE2, if_neg (fun q => by have := (o3_le (by omega) (by omega)).mp q; omega), hby k (by omega), bd_some, o3_s]
    by_cases z : gsv E (GG F E tg mx) n f k = q
    · rw [if_pos z] at h ⊢
      obtain rfl := Option.some.inj h
      rfl
    · rw [if_neg z] at h ⊢
      exact ih (k + 1) nn (by omega) (by omega) h
end PM3
/-- what measuring leaves alike -/
theorem meas_rel {S S1 S2 : fS} (hR : Rel S) (e1 : e44 S S1) (e2 : e162 S1 S2) : Rel S2 := by
  obtain ⟨n, s, L, M, hT, hS, hL, hM⟩ := hR
  have k1 : ∀ a k, S2.1 a k = S.1 a k := fun a k => by rw [e2.1, e1.1]
  have k2 : ∀ a k, a ≠ 44 → a ≠ 162 → S2.2 a k = S.2 a k := fun a k x y => (e2.2 a k y).trans (e1.2 a k x)
  refine ⟨n, s, L, M, ?_, ?_, ?_, ?_⟩
  · exact rTp_eq hT (k1 _ _) (k1 _ _) (fun k => k1 _ _) (fun k => k1 _ _)
  · exact rSc_eq hS (fun a k _ _ => k1 a k) (fun a k _ _ => k2 a k (by omega) (by omega)) (by rw [k1 3 3]; exact hS.2.1.2.2.2.2) (fun k => k1 _ _) (fun a k _ => k2 a k (by omega) (by omega))
  · exact rRu_eq hL (k1 _ _) (k1 _ _) (fun a k _ _ _ => k1 a k) (fun a k _ => k1 a k)
  · exact rIm_eq hM (fun a k _ _ => k1 a k) (fun a k _ _ => k2 a k (by omega) (by omega)) (fun k => k1 _ _) (fun k => k2 _ k (by omega) (by omega)) (fun k => k1 _ _)
theorem t_16 (a1 a2 a3 a4 a5 : Int32) (S : fS) (hR : Rel S) : ∃ r S1 S2, f_X10_plan a1 a2 a3 a4 a5 S = some (r, S1) ∧ f_X11_plan a1 a2 a3 a4 a5 S1 = some (r, S2) ∧ Rel S2 := by
  have hR0 := hR
  obtain ⟨n', s, L, M, hT, ⟨⟨n1, n2, n3, n4, n5, n6⟩, ⟨b1, b2, b3, b4, b5⟩, ⟨m1, m2, m3, m4⟩, d⟩, hL, hM⟩ := hR
  have h8 := n5.1
  have i1 : f_X10_isFrom a3 0 120 S = some (if ((0 : Nat) : Int) ≤ a3.toInt ∧ a3.toInt ≤ ((120 : Nat) : Int) then 1 else 0) := from_c (a := 0) (b := 120) (by omega) (by omega)
  have i2 : f_X10_isFrom a5 0 2 S = some (if ((0 : Nat) : Int) ≤ a5.toInt ∧ a5.toInt ≤ ((2 : Nat) : Int) then 1 else 0) := from_c (a := 0) (b := 2) (by omega) (by omega)
  have j1 : ∀ T : fS, f_X11_in (Int32.toInt64 a3) 0 120 T = some (if ((0 : Nat) : Int) ≤ a3.toInt ∧ a3.toInt ≤ ((120 : Nat) : Int) then 1 else 0) := fun T => in_c (a := 0) (b := 120) (by omega) (by omega)
  have j2 : ∀ T : fS, f_X11_in (Int32.toInt64 a5) 0 2 T = some (if ((0 : Nat) : Int) ≤ a5.toInt ∧ a5.toInt ≤ ((2 : Nat) : Int) then 1 else 0) := fun T => in_c (a := 0) (b := 2) (by omega) (by omega)
  have no : f_X10_plan a1 a2 a3 a4 a5 S = some (-1, S) → f_X11_plan a1 a2 a3 a4 a5 S = some (-1, S) → ∃ r S1 S2, f_X10_plan a1 a2 a3 a4 a5 S = some (r, S1) ∧ f_X11_plan a1 a2 a3 a4 a5 S1 = some (r, S2) ∧ Rel S2 := fun h g => ⟨-1, S, S, h, g, hR0⟩
  by_cases h1 : ¬ (0 ≤ a1.toInt ∧ a1.toInt < s.2.2.1.1)
  · refine no ?_ ?_
    · unfold f_X10_plan f_X10_isStanding; rw [ci_thing b3.1 (by omega), bd_some, if_neg h1, if_pos rfl, bd_some, if_pos rfl]
    · unfold f_X11_plan; rw [mi_thing m2.1 (by omega), bd_some, if_neg h1, if_pos rfl]
  have h1 := Decidable.not_not.mp h1
  obtain ⟨th, e1, e2⟩ := o3_ex h1.1
  have hth : th < s.2.2.1.1 := by omega
  have cStand : f_X10_isStanding (o3 th) S = some (if s.2.2.1.2.2.1 th < 0 then 0 else 1) := by
    unfold f_X10_isStanding f_X0_isStanding
    rw [ci_thing b3.1 (by omega), bd_some, ← e1, if_pos h1, if_neg (show ¬ (1 : Int32) = 0 by decide), e1, gI_o (by omega) (by omega), bd_some, show S.1 (11 + 1) th = _ from (b3.2.2 th hth).1]
    by_cases z : s.2.2.1.2.2.1 th < 0
    · rw [if_pos z, if_pos z, bd_some, if_pos rfl]
    · rw [if_neg z, if_neg z, bd_some, if_neg (by decide)]
  have mTh : ∀ T : fS, T.1 = S.1 → f_X11_thingOf (o3 th) 0 T = some (s.2.2.1.2.2.1 th) := fun T hTT => (mw_thing (a := 0) (by omega) (by omega)).trans (congrArg some (by rw [hTT]; exact (m2.2.2 th hth).1))
  have mIs : ∀ T : fS, T.1 = S.1 → f_X11_isThing (o3 th) T = some 1 := fun T hTT => by rw [mi_thing (m := s.2.2.1.1) (by rw [hTT]; exact m2.1) (by omega), ← e1, if_pos h1]
  by_cases h0 : s.2.2.1.2.2.1 th < 0
  · refine no ?_ ?_
    · unfold f_X10_plan; rw [e1, cStand, if_pos h0, bd_some, if_pos rfl]
    · unfold f_X11_plan; rw [e1, mIs S rfl, bd_some, if_neg (show ¬ (1 : Int32) = 0 by decide), mTh S rfl, bd_some, if_pos h0]
  obtain ⟨f, f1, f2⟩ := okT_nn (n5.2.2 th hth).1 n1 h0
  by_cases h2 : ¬ (0 ≤ a2.toInt ∧ a2.toInt < s.1.length)
  · refine no ?_ ?_
    · unfold f_X10_plan; rw [e1, cStand, if_neg h0, bd_some, if_neg (show ¬ (1 : Int32) = 0 by decide), ci_floor b1.1 (by omega), bd_some, if_neg h2, if_pos rfl]
    · unfold f_X11_plan; rw [e1, mIs S rfl, bd_some, if_neg (show ¬ (1 : Int32) = 0 by decide), mTh S rfl, bd_some, if_neg h0, mi_floor m1.1 (by omega), bd_some, if_neg h2, if_pos rfl]
  have h2 := Decidable.not_not.mp h2
  by_cases h3 : ¬ (((0 : Nat) : Int) ≤ a3.toInt ∧ a3.toInt ≤ ((120 : Nat) : Int))
  · refine no ?_ ?_
    · unfold f_X10_plan; rw [e1, cStand, if_neg h0, bd_some, if_neg (show ¬ (1 : Int32) = 0 by decide), ci_floor b1.1 (by omega), bd_some, if_pos h2, if_neg (show ¬ (1 : Int32) = 0 by decide), i1, bd_some, if_neg h3, if_pos rfl]
    · unfold f_X11_plan; rw [e1, mIs S rfl, bd_some, if_neg (show ¬ (1 : Int32) = 0 by decide), mTh S rfl, bd_some, if_neg h0, mi_floor m1.1 (by omega), bd_some, if_pos h2, if_neg (show ¬ (1 : Int32) = 0 by decide), j1, bd_some, if_neg h3, if_pos rfl]
  have h3 := Decidable.not_not.mp h3
  by_cases h5 : ¬ (((0 : Nat) : Int) ≤ a5.toInt ∧ a5.toInt ≤ ((2 : Nat) : Int))
  · refine no ?_ ?_
    · unfold f_X10_plan; rw [e1, cStand, if_neg h0, bd_some, if_neg (show ¬ (1 : Int32) = 0 by decide), ci_floor b1.1 (by omega), bd_some, if_pos h2, if_neg (show ¬ (1 : Int32) = 0 by decide), i1, bd_some, if_pos h3, if_neg (show ¬ (1 : Int32) = 0 by decide), i2, bd_some, if_neg h5, if_pos rfl]
    · unfold f_X11_plan; rw [e1, mIs S rfl, bd_some, if_neg (show ¬ (1 : Int32) = 0 by decide), mTh S rfl, bd_some, if_neg h0, mi_floor m1.1 (by omega), bd_some, if_pos h2, if_neg (show ¬ (1 : Int32) = 0 by decide), j1, bd_some, if_pos h3, if_neg (show ¬ (1 : Int32) = 0 by decide), j2, bd_some, if_neg h5, if_pos rfl]
  have h5 := Decidable.not_not.mp h5
  obtain ⟨tg, e3, e4⟩ := o3_ex h2.1
  have htg : tg < s.1.length := by omega
  obtain ⟨n, e5, e6⟩ := o3_ex (x := a3) (by omega)
  have hn : n ≤ 120 := by omega
  obtain ⟨S1, c1, c2, c3⟩ := c_meas (mx := a4) b1 n4 n1 n2 hn htg
  obtain ⟨ag, g1, g2⟩ := age_o n5 hth
  have hnb := GG_nb (tg := tg) (mx := a4) n3 n4 n1 n f hn f1
  have gc : gL S1 16 8 (o3 th) = some (o6 ag) := (gL_o (by omega) (by omega)).trans (congrArg some ((c3.2 16 th (by omega)).trans (((b3.2.2 th hth).2.2.2.2).trans g1)))
  /- the reference's table -/
  have mtab : ∀ K : fS → Option (Int64 × fS), ∃ T, lp_X11_plan_57 (o3 th) (o3 tg) (o3 n) a4 a5 (fun S29 => lp_X11_plan_100 (o3 th) (o3 n) a4 a5 K FU (o3 n - (1 : Int32)) S29) FU (0 : Int32) S1 = K T ∧ tbM s.1 s.2.1 tg a4 n T 0 ∧ e162 S1 T := fun K => by
    obtain ⟨T1, t1, t2, t3⟩ := pn_57 (tg := tg) (n := n) (p1 := o3 th) (p4 := a4) (p5 := a5) (by omega) hn (K := fun S29 => lp_X11_plan_100 (o3 th) (o3 n) a4 a5 K FU (o3 n - (1 : Int32)) S29) 10 0 FU S1 (by omega) (FU_lt (by omega)) (fun j hj => absurd hj (Nat.not_lt_zero _))
    obtain ⟨T, u1, u2, u3⟩ := pn_100 (F := s.1) (E := s.2.1) (tg := tg) (mx := a4) (n := n) (p1 := o3 th) (p5 := a5) n3 n4 n1 n2 hn (K := K) n FU T1 (Nat.le_refl _) (FU_lt (by omega)) (by rw [t3.1, c3.1]; exact m1) (fun j g h1 h2 h3 => by
      have : j = n := by omega
      subst this
      rw [t2 g (by omega), Nat.sub_self, GG_0])
    exact ⟨T, t1.trans u1, u2, t3.tr u3⟩
  have mPre : ∀ K' : fS → Option (Int64 × fS), K' = (fun S44 => (f_X11_thingOf (o3 th) (0 : Int32) S44).bind fun q46 =>
  (gL S44 162 1210 q46).bind fun a49 =>
  if (0 : Int64) ≤ a49 then (if (2 : Int32) ≤ a5 then (if o3 n = (0 : Int32) then (some ((-4 : Int64), S44)) else
  (lp_X11_plan_218 (o3 n) q46 a49 (fun u59 S60 => if (0 : Int32) ≤ u59 then (some ((Int32.toInt64 u59), S60)) else
  (some ((-3 : Int64), S60))) FU (-1 : Int32) S44)) else
  ((gL S44 158 8 (o3 th)).bind fun a63 =>
  (f_X11_lowest (a63 + a49) (232792560 : Int64) a5 S44).bind fun q66 =>
  some (q66, S44))) else
  (some ((-2 : Int64), S44))) → f_X11_plan a1 a2 a3 a4 a5 S1 = lp_X11_plan_57 (o3 th) (o3 tg) (o3 n) a4 a5 (fun S29 => lp_X11_plan_100 (o3 th) (o3 n) a4 a5 K' FU (o3 n - (1 : Int32)) S29) FU (0 : Int32) S1 := fun K' hK => by
    subst hK
    unfold f_X11_plan
    rw [e1, mIs S1 c3.1, bd_some, if_neg (show ¬ (1 : Int32) = 0 by decide), mTh S1 c3.1, bd_some, if_neg h0, mi_floor (m := s.1.length) (by rw [c3.1]; exact m1.1) (by omega), bd_some, if_pos h2, if_neg (show ¬ (1 : Int32) = 0 by decide), j1, bd_some, if_pos h3, if_neg (show ¬ (1 : Int32) = 0 by decide), j2, bd_some, if_pos h5, if_neg (show ¬ (1 : Int32) = 0 by decide), e3, e5]
  obtain ⟨S2, t1, t2, t3⟩ := mtab _
  have mFin := (mPre _ rfl).trans t1
  clear mPre mtab
  have e157 : S2.1 = S.1 := t3.1.trans c3.1
  have g162 : gL S2 162 1210 (o3 f) = some (GG s.1 s.2.1 tg a4 n f) := by
    have := t2 0 f (by omega) (by omega) f1
    rw [show 10 * 0 + f = f by omega, Nat.sub_zero] at this
    exact (gL_o (by omega) (by omega)).trans (congrArg some this)
  have gm : gL S2 158 8 (o3 th) = some (o6 ag) := (gL_o (by omega) (by omega)).trans (congrArg some ((t3.2 158 th (by omega)).trans ((c3.2 158 th (by omega)).trans (((m2.2.2 th hth).2.2.2.2).trans g1))))
  rw [mTh S2 e157, bd_some, f2, g162, bd_some] at mFin
  have hrel := meas_rel hR0 c3 t3
  have cFin : f_X10_plan a1 a2 a3 a4 a5 S = (if (0 : Int64) ≤ GG s.1 s.2.1 tg a4 n f then (if a5 = (2 : Int32) then ((f_X1_firstStep 4 (o3 n) (o3 f) S1).bind fun q34 => some ((Int32.toInt64 q34), S1)) else ((gL S1 16 8 (o3 th)).bind fun a28 => (f_X10_lowest (a28 + GG s.1 s.2.1 tg a4 n f) (232792560 : Int64) a5 S1).bind fun q31 => some (q31, S1))) else (some ((-2 : Int64), S1))) := by
    unfold f_X10_plan
    rw [e1, cStand, if_neg h0, bd_some, if_neg (show ¬ (1 : Int32) = 0 by decide), ci_floor b1.1 (by omega), bd_some, if_pos h2, if_neg (show ¬ (1 : Int32) = 0 by decide), i1, bd_some, if_pos h3, if_neg (show ¬ (1 : Int32) = 0 by decide), i2, bd_some, if_pos h5, if_neg (show ¬ (1 : Int32) = 0 by decide), gI_o (by omega) (by omega), bd_some, show S.1 12 th = s.2.2.1.2.2.1 th from (b3.2.2 th hth).1, f2, e3, e5, c1, bd_some, cg_of c2 (Nat.le_refl _) hn f1 n1, bd_some]
  rw [cFin]
  rcases hnb with e | ⟨g, q1, q2⟩
  · rw [e] at mFin ⊢
    rw [if_neg (show ¬ (0 : Int64) ≤ -1 by decide)] at mFin ⊢
    exact ⟨-2, S1, S2, rfl, mFin, hrel⟩
  · have hpos : (0 : Int64) ≤ GG s.1 s.2.1 tg a4 n f := by rw [q1]; exact o6_0le (by omega)
    rw [if_pos hpos] at mFin ⊢
    by_cases z2 : a5 = 2
    · rw [if_pos (show (2 : Int32) ≤ a5 by rw [z2]; decide)] at mFin
      rw [if_pos z2]
      unfold f_X1_firstStep
      by_cases zn : n = 0
      · rw [if_pos (show o3 n = (0 : Int32) by rw [zn]; rfl)] at mFin ⊢
        exact ⟨_, S1, S2, rfl, mFin, hrel⟩
      · have zn' : ¬ o3 n = (0 : Int32) := fun q => zn ((o3_inj (b := 0) (by omega) (by omega)).mp q)
        rw [if_neg zn'] at mFin ⊢
        obtain ⟨h, hh⟩ : ∃ h, n = h + 1 := ⟨n - 1, by omega⟩
        have b1' : twC S1 4 s.1 s.2.1 := twC_44 b1 c3
        have c2' : tbC s.1 s.2.1 tg a4 S1 h := fun j g h1 h2 => c2 j g (by omega) h2
        have hT' : tbM s.1 s.2.1 tg a4 n S2 (0 + 1) := fun j g h1 h2 h3 => t2 j g (by omega) h2 h3
        have m1' : twM (S2.1 157) s.1 s.2.1 := by rw [e157]; exact m1
        obtain ⟨fu, hfu⟩ : ∃ z, FU = z + 1 := ⟨FU - 1, by have := FU_lt (d := 1) (by omega); omega⟩
        have hfu2 : s.2.1.length < fu := by have := FU_lt (d := s.2.1.length + 1) (by omega); omega
        have hst : stv (GG s.1 s.2.1 tg a4 (n - 0 - 1) f) (pc (s.1.getD f (0, 0))) = stv (GG s.1 s.2.1 tg a4 h f) (pc (s.1.getD f (0, 0))) := by rw [show n - 0 - 1 = h by omega]
        have mby : f_X11_by (o3 f) 0 (-1) (o3 n) S2 = some (stv (GG s.1 s.2.1 tg a4 h f) (pc (s.1.getD f (0, 0)))) := (mg_stay (t := 0) m1' n3 hT' hn (by omega) f1 n1).trans (congrArg some hst)
        rw [hfu, lp_X11_plan_218.eq_2, mby, bd_some] at mFin
        rw [cg_of c2 (Nat.le_refl _) hn f1 n1, bd_some]
        have hcs : f_X1_gainByStaying 4 (o3 n) (o3 f) S1 = some (stv (GG s.1 s.2.1 tg a4 h f) (pc (s.1.getD f (0, 0)))) := by rw [hh]; exact cg_stay b1' c2' (by omega) f1 n1
        rw [hcs, bd_some]
        by_cases zs : stv (GG s.1 s.2.1 tg a4 h f) (pc (s.1.getD f (0, 0))) = GG s.1 s.2.1 tg a4 n f
        · rw [if_pos zs] at mFin ⊢
          rw [if_neg (show ¬ (0 : Int32) ≤ -1 by decide)] at mFin
          exact ⟨_, S1, S2, rfl, mFin, hrel⟩
        · rw [if_neg zs] at mFin ⊢
          rw [show (-1 : Int32) + 1 = o3 0 from rfl] at mFin
          have hmem : ∃ j, 0 ≤ j ∧ j < 0 + s.2.1.length ∧ gsv s.2.1 (GG s.1 s.2.1 tg a4) n f j = GG s.1 s.2.1 tg a4 n f := by
            have hg : GG s.1 s.2.1 tg a4 n f = bs (gsv s.2.1 (GG s.1 s.2.1 tg a4) n f) a4 s.2.1.length 0 (stv (GG s.1 s.2.1 tg a4 h f) (pc (s.1.getD f (0, 0)))) := by rw [hh]; exact GG_s n4
            rcases bs_mem (v := gsv s.2.1 (GG s.1 s.2.1 tg a4) n f) (mx := a4) s.2.1.length 0 (stv (GG s.1 s.2.1 tg a4 h f) (pc (s.1.getD f (0, 0)))) with w | ⟨j, w1, w2, w3⟩
            · exact absurd (w.symm.trans hg.symm) zs
            · exact ⟨j, w1, w2, by rw [hg]; exact w3.symm⟩
          obtain ⟨i, p1, p2⟩ := pf_ex s.2.1.length 0 hmem
          have hc34 : lp_X1_firstStep_34 4 (o3 n) (o3 f) (GG s.1 s.2.1 tg a4 n f) S1 (fun _ => some (-2)) FU (0 : Int32) = some (o3 i) := cf_34 (F := s.1) (E := s.2.1) (tg := tg) (mx := a4) b1'.2.1 n2 (fun k hk => by rw [hh]; exact cg_stair b1' n4 c2' (by omega) f1 n1 n2 hk) s.2.1.length 0 FU (by omega) (FU_lt (by omega)) p1
          rw [hc34, bd_some]
          rw [pn_218 (F := s.1) (E := s.2.1) (tg := tg) (mx := a4) (n := n) (S := S2) (f := f) (q := GG s.1 s.2.1 tg a4 n f) (i := i) (fun k hk => (mg_stair (t := 0) m1' n4 hT' hn (by omega) f1 n1 n2 hk).trans (by rw [Nat.sub_zero])) s.2.1.length 0 fu (by omega) hfu2 p1, if_pos (o3_0le (by omega))] at mFin
          exact ⟨_, S1, S2, rfl, mFin, hrel⟩
    · have z2' : ¬ (2 : Int32) ≤ a5 := fun q => z2 (ni_eq.mpr (by have q := ni_le.mp q; rw [show (2 : Int32).toInt = 2 from rfl] at q ⊢; omega))
      rw [if_neg z2', gm, bd_some, q1, o6_add, show (232792560 : Int64) = o6 232792560 from rfl, m_low (by omega) (by omega) (by omega), bd_some] at mFin
      rw [if_neg z2, gc, bd_some, q1, o6_add, show (232792560 : Int64) = o6 232792560 from rfl, c_low (by omega) (by omega) (by omega), bd_some]
      exact ⟨_, S1, S2, rfl, mFin, hrel⟩
end
