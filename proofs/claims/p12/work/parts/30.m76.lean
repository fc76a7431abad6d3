section
/-! plan(): both tables, the answers -/
section PC2
variable {F : List (Nat × Nat)} {E : List St5} {tg : Nat} {mx : Int32}
def e44 (S T : fS) : Prop := T.1 = S.1 ∧ ∀ a k, a ≠ 44 → T.2 a k = S.2 a k
theorem e44.rf {S : fS} : e44 S S := ⟨rfl, fun _ _ _ => rfl⟩
theorem e44.tr {S T U : fS} (h : e44 S T) (g : e44 T U) : e44 S U := ⟨g.1.trans h.1, fun a k n => (g.2 a k n).trans (h.2 a k n)⟩
theorem e44_p {S : fS} {k : Nat} {x : Int64} : e44 S (pL S 44 k x) := ⟨rfl, fun a j h => pL_ne (by omega)⟩
theorem twC_44 {S T : fS} (h : twC S 4 F E) (e : e44 S T) : twC T 4 F E := twC_eq h (fun a k _ _ => by rw [e.1]) (fun a k _ _ => e.2 a k (by omega))
theorem me_3 {p3 p4 : Int32} (htg : tg < 2147483648) {K : fS → Option fS} : ∀ d k nn (S : fS), k + d = 10 → d < nn → (∀ j, j < k → S.2 44 j = if j = tg then 0 else -1) → ∃ T, lp_X1_measure_3 4 (o3 tg) p3 p4 K nn (o3 k) S = K T ∧ (∀ j, j < 10 → T.2 44 j = if j = tg then 0 else -1) ∧ e44 S T := by
  intro d
  induction d with
  | zero =>
    intro k nn S hk hnn hj
    obtain ⟨nn, rfl⟩ : ∃ z, nn = z + 1 := ⟨nn - 1, by omega⟩
    rw [lp_X1_measure_3.eq_2, if_pos (show (10 : Int32) ≤ o3 k from (o3_le (a := 10) (by omega) (by omega)).mpr (by omega))]
    exact ⟨S, rfl, fun j h => hj j (by omega), e44.rf⟩
  | succ d ih =>
    intro k nn S hk hnn hj
    obtain ⟨nn, rfl⟩ : ∃ z, nn = z + 1 := ⟨nn - 1, by omega⟩
    have key : ∀ x, x = (if k = tg then (0 : Int64) else -1) → ∃ T, lp_X1_measure_3 4 (o3 tg) p3 p4 K nn (o3 (k + 1)) (pL S 44 k x) = K T ∧ (∀ j, j < 10 → T.2 44 j = if j = tg then 0 else -1) ∧ e44 S T := fun x hx => by
      obtain ⟨T, t1, t2, t3⟩ := ih (k + 1) nn (pL S 44 k x) (by omega) (by omega) (fun j h => by
        by_cases e : j = k
        · subst e; rw [pL_eq, hx]
        · rw [pL_ne (by omega)]; exact hj j (by omega))
      exact ⟨T, t1, t2, e44_p.tr t3⟩
    rw [lp_X1_measure_3.eq_2, if_neg (show ¬ (10 : Int32) ≤ o3 k from fun q => by have := (o3_le (a := 10) (by omega) (by omega)).mp q; omega), sL_o (by omega) (by omega), sL_o (by omega) (by omega), bd_some, bd_some, o3_s]
    by_cases e : k = tg
    · rw [if_pos ((o3_inj (by omega) htg).mpr e)]
      exact key 0 (by rw [if_pos e])
    · rw [if_neg (fun q => e ((o3_inj (by omega) htg).mp q))]
      exact key (-1) (by rw [if_neg e])
theorem me_55 (hE : ∀ q ∈ E, okS F.length q) (hm : F.length ≤ 10) (hl : E.length ≤ 12) {p3 : Int32} {h : Nat} (h120 : h + 1 ≤ 120) {K : fS → Option fS} : ∀ d k nn (S : fS), k + d = F.length → d < nn → twC S 4 F E → tbC F E tg mx S h → (∀ f, f < k → S.2 44 (10 * (h + 1) + f) = GG F E tg mx (h + 1) f) → ∃ T, lp_X1_measure_55 4 p3 mx (o3 (h + 1)) K nn (o3 k) S = K T ∧ tbC F E tg mx T (h + 1) ∧ e44 S T := by
  intro d
  induction d with
  | zero =>
    intro k nn S hk hnn b1 hT hj
    obtain ⟨nn, rfl⟩ : ∃ z, nn = z + 1 := ⟨nn - 1, by omega⟩
    rw [lp_X1_measure_55.eq_2, b1.1, if_pos ((o3_le (by omega) (by omega)).mpr (by omega))]
    refine ⟨S, rfl, fun j f h1 h2 => ?_, e44.rf⟩
    by_cases e : j = h + 1
    · rw [e]; exact hj f (by omega)
    · exact hT j f (by omega) h2
  | succ d ih =>
    intro k nn S hk hnn b1 hT hj
    obtain ⟨nn, rfl⟩ : ∃ z, nn = z + 1 := ⟨nn - 1, by omega⟩
    rw [lp_X1_measure_55.eq_2, b1.1, if_neg (fun q => by have := (o3_le (by omega) (by omega)).mp q; omega), cg_best b1 hE hT h120 (by omega) hm hl, bd_some, show (10 : Int32) = o3 10 from rfl, o3_mul, o3_add, sL_o (by omega) (by omega), bd_some, o3_s]
    obtain ⟨T, t1, t2, t3⟩ := ih (k + 1) nn (pL S 44 ((h + 1) * 10 + k) (GG F E tg mx (h + 1) k)) (by omega) (by omega) (twC_44 b1 e44_p) (fun j f h1 h2 => by rw [pL_ne (by omega)]; exact hT j f h1 h2) (fun f hf => by
      by_cases e : f = k
      · subst e; rw [show 10 * (h + 1) + f = (h + 1) * 10 + f by omega, pL_eq]
      · rw [pL_ne (by omega)]; exact hj f (by omega))
    exact ⟨T, t1, t2, e44_p.tr t3⟩
theorem me_39 (hE : ∀ q ∈ E, okS F.length q) (hm : F.length ≤ 10) (hl : E.length ≤ 12) {n : Nat} (hn : n ≤ 120) {K : fS → Option fS} : ∀ d h nn (S : fS), h + d = n → d < nn → twC S 4 F E → tbC F E tg mx S h → ∃ T, lp_X1_measure_39 4 (o3 n) mx K nn (o3 (h + 1)) S = K T ∧ tbC F E tg mx T n ∧ e44 S T := by
  intro d
  induction d with
  | zero =>
    intro h nn S hk hnn b1 hT
    obtain ⟨nn, rfl⟩ : ∃ z, nn = z + 1 := ⟨nn - 1, by omega⟩
    rw [lp_X1_measure_39.eq_2, if_pos ((o3_lt (by omega) (by omega)).mpr (by omega))]
    rw [show h = n by omega] at hT
    exact ⟨S, rfl, hT, e44.rf⟩
  | succ d ih =>
    intro h nn S hk hnn b1 hT
    obtain ⟨nn, rfl⟩ : ∃ z, nn = z + 1 := ⟨nn - 1, by omega⟩
    rw [lp_X1_measure_39.eq_2, if_neg (fun q => by have := (o3_lt (by omega) (by omega)).mp q; omega), if_neg (show ¬ (120 : Int32) < o3 (h + 1) from fun q => by have := (o3_lt (a := 120) (by omega) (by omega)).mp q; omega)]
    obtain ⟨T1, a1, a2, a3⟩ := me_55 (p3 := o3 n) hE hm hl (h := h) (by omega) (K := fun S20 => lp_X1_measure_39 4 (o3 n) mx K nn (o3 (h + 1) + 1) S20) F.length 0 FU S (by omega) (FU_lt (by omega)) b1 hT (fun f hf => absurd hf (Nat.not_lt_zero _))
    obtain ⟨T, t1, t2, t3⟩ := ih (h + 1) nn T1 (by omega) (by omega) (twC_44 b1 a3) a2
    refine ⟨T, a1.trans ?_, t2, a3.tr t3⟩
    rw [o3_s]
    exact t1
theorem c_meas {S : fS} (b1 : twC S 4 F E) (hE : ∀ q ∈ E, okS F.length q) (hm : F.length ≤ 10) (hl : E.length ≤ 12) {n : Nat} (hn : n ≤ 120) (htg : tg < F.length) : ∃ T, f_X1_measure 4 (o3 tg) (o3 n) mx S = some T ∧ tbC F E tg mx T n ∧ e44 S T := by
  obtain ⟨T1, a1, a2, a3⟩ := me_3 (tg := tg) (p3 := o3 n) (p4 := mx) (by omega) (K := fun S9 => lp_X1_measure_39 4 (o3 n) mx (fun S22 => some S22) FU (1 : Int32) S9) 10 0 FU S (by omega) (FU_lt (by omega)) (fun j hj => absurd hj (Nat.not_lt_zero _))
  obtain ⟨T, t1, t2, t3⟩ := me_39 (tg := tg) (mx := mx) hE hm hl hn (K := fun S22 => some S22) n 0 FU T1 (by omega) (FU_lt (by omega)) (twC_44 b1 a3) (fun j f h1 h2 => by
    have : j = 0 := by omega
    subst this
    rw [show 10 * 0 + f = f by omega, a2 f (by omega), GG_0])
  exact ⟨T, a1.trans t1, t2, a3.tr t3⟩
end PC2
section PM2
variable {F : List (Nat × Nat)} {E : List St5} {tg : Nat} {mx : Int32} {n : Nat}
/-- the reference's table, whole from hour t on, of n hours -/
def tbM (F : List (Nat × Nat)) (E : List St5) (tg : Nat) (mx : Int32) (n : Nat) (S : fS) (t : Nat) : Prop := ∀ j f, t ≤ j → j ≤ n → f < F.length → S.2 162 (10 * j + f) = GG F E tg mx (n - j) f
def e162 (S T : fS) : Prop := T.1 = S.1 ∧ ∀ a k, a ≠ 162 → T.2 a k = S.2 a k
theorem e162.rf {S : fS} : e162 S S := ⟨rfl, fun _ _ _ => rfl⟩
theorem e162.tr {S T U : fS} (h : e162 S T) (g : e162 T U) : e162 S U := ⟨g.1.trans h.1, fun a k n => (g.2 a k n).trans (h.2 a k n)⟩
theorem e162_p {S : fS} {k : Nat} {x : Int64} : e162 S (pL S 162 k x) := ⟨rfl, fun a j h => pL_ne (by omega)⟩
theorem mg_stay {S : fS} {t f : Nat} (m1 : twM (S.1 157) F E) (hF : ∀ q ∈ F, okF q) (hT : tbM F E tg mx n S (t + 1)) (hn : n ≤ 120) (ht : t < n) (hf : f < F.length) (hm : F.length ≤ 10) : f_X11_by (o3 f) (o3 t) (-1) (o3 n) S = some (stv (GG F E tg mx (n - t - 1) f) (pc (F.getD f (0, 0)))) := by
  unfold f_X11_by stv
  rw [if_neg (show ¬ (0 : Int32) ≤ -1 by decide), if_neg (show ¬ (0 : Int32) ≤ -1 by decide), if_neg (o3_nn (by omega)), o3_s, if_neg (fun q => by have := (o3_lt (by omega) (by omega)).mp q; omega), show (10 : Int32) = o3 10 from rfl, o3_mul, o3_add, gL_o (by omega) (by omega), bd_some, hT (t + 1) f (Nat.le_refl _) (by omega) hf, show n - (t + 1) = n - t - 1 by omega, bd_some, if_neg (show ¬ (0 : Int32) ≤ -1 by decide), mp_floor m1 hF hm hf, bd_some, show Int32.toInt64 1 = (1 : Int64) from rfl, show (1 : Int64) * pc (F.getD f (0, 0)) = pc (F.getD f (0, 0)) from Int64.one_mul _]
  split <;> rfl
theorem mg_stair {S : fS} {t f k : Nat} (m1 : twM (S.1 157) F E) (hE : ∀ q ∈ E, okS F.length q) (hT : tbM F E tg mx n S (t + 1)) (hn : n ≤ 120) (ht : t < n) (hf : f < F.length) (hm : F.length ≤ 10) (hl : E.length ≤ 12) (hk : k < E.length) : f_X11_by (o3 f) (o3 t) (o3 k) (o3 n) S = some (gsv E (GG F E tg mx) (n - t) f k) := by
  obtain ⟨s1, s2, s3, s4, s5, s6⟩ := hE _ (gd_mem (d := d5) hk)
  obtain ⟨u1, u2, u3, u4, u5⟩ := mh_stair m1 hl hk
  have u3 : f_X11_stairOf (o3 k) 2 S = some (o3 (E.getD k d5).2.2.1) := u3
  unfold f_X11_by gsv
  rw [if_pos (o3_0le (by omega)), u3, bd_some, if_pos (o3_0le (by omega)), mh_other m1 hE hm hl hk (by omega), bd_some, o3_add]
  rcases oe_or (a := f) (hE _ (gd_mem (d := d5) hk)) hm with ⟨o, o1, o2, _⟩ | ⟨o2, _⟩
  · rw [o2, if_neg (o3_nn (by omega)), if_neg (o3_m1 (by omega)), o3_nat (by omega)]
    by_cases h2 : n - t < (E.getD k d5).2.2.1
    · rw [if_pos ((o3_lt (by omega) (by omega)).mpr (by omega)), if_pos h2]
    · rw [if_neg (fun q => by have := (o3_lt (by omega) (by omega)).mp q; omega), if_neg h2, show (10 : Int32) = o3 10 from rfl, o3_mul, o3_add, gL_o (by omega) (by omega), bd_some, hT _ _ (by omega) (by omega) o1, show n - (t + (E.getD k d5).2.2.1) = n - t - (E.getD k d5).2.2.1 by omega, bd_some, if_pos (o3_0le (by omega)), mp_stair m1 hE hl hk, bd_some, o6_of3 (by omega)]
      split <;> rfl
  · rw [o2, if_pos (by decide), if_pos rfl]
theorem mg_pick {x y : Int64} {S : fS} {β : Type} {A : Int64 → Option β} : (if x < (0 : Int64) then A y else ((f_X11_isBetter x y mx S).bind fun q9 => if q9 = (0 : Int32) then A y else A x)) = A (bt mx x y) := by
  unfold f_X11_isBetter bt
  by_cases h1 : x < 0
  · simp only [if_pos h1]
  · simp only [if_neg h1]
    by_cases h2 : y < 0
    · rw [if_pos h2, bd_some, if_neg (by decide), if_pos h2]
    · rw [if_neg h2, if_neg h2]
      by_cases h3 : mx = 0
      · rw [if_pos h3, if_pos h3]
        by_cases h4 : y ≤ x
        · rw [if_pos h4, if_pos h4, bd_some, if_pos rfl]
        · rw [if_neg h4, if_neg h4, bd_some, if_neg (by decide)]
      · rw [if_neg h3, if_neg h3]
        by_cases h4 : x ≤ y
        · rw [if_pos h4, if_pos h4, bd_some, if_pos rfl]
        · rw [if_neg h4, if_neg h4, bd_some, if_neg (by decide)]
theorem bt_m1 {x : Int64} (h : x < 0 → x = -1) : bt mx x (-1) = x := by
  unfold bt
  by_cases h1 : x < 0
  · rw [if_pos h1, h h1]
  · rw [if_neg h1, if_pos (by decide)]
theorem stv_m1 {g p : Int64} (hp : 0 ≤ g → ¬ g + p < 0) : stv g p < 0 → stv g p = -1 := by
  unfold stv
  split
  · intro h; rename_i hg; exact absurd h (hp hg)
  · intro _; rfl
theorem mg_best {S : fS} {t f : Nat} (m1 : twM (S.1 157) F E) (hF : ∀ q ∈ F, okF q) (hE : ∀ q ∈ E, okS F.length q) (hT : tbM F E tg mx n S (t + 1)) (hn : n ≤ 120) (ht : t < n) (hf : f < F.length) (hm : F.length ≤ 10) (hl : E.length ≤ 12) : f_X11_bestFrom (o3 f) (o3 t) (o3 n) mx S = some (GG F E tg mx (n - t) f) := by
  have hg1 : gI S 157 158 1 = some (o3 E.length) := (gI_o (k := 1) (by omega) (by omega)).trans (congrArg some m1.2.1)
  have key : ∀ d k nn x, k + d = E.length → d < nn → lp_X11_bestFrom_8 (o3 f) (o3 t) (o3 n) mx S (fun u13 => some u13) nn x (o3 k) = some (bs (gsv E (GG F E tg mx) (n - t) f) mx d k x) := by
    intro d
    induction d with
    | zero =>
      intro k nn x hk hnn
      obtain ⟨nn, rfl⟩ : ∃ z, nn = z + 1 := ⟨nn - 1, by omega⟩
      rw [lp_X11_bestFrom_8.eq_2, hg1, bd_some, if_pos ((o3_le (by omega) (by omega)).mpr (by omega))]
      rfl
    | succ d ih =>
      intro k nn x hk hnn
      obtain ⟨nn, rfl⟩ : ∃ z, nn = z + 1 := ⟨nn - 1, by omega⟩
      rw [lp_X11_bestFrom_8.eq_2, hg1, bd_some, if_neg (fun q => by have := (o3_le (by omega) (by omega)).mp q; omega), mg_stair m1 hE hT hn ht hf hm hl (by omega), bd_some, o3_s]
      refine (mg_pick (A := fun z => lp_X11_bestFrom_8 (o3 f) (o3 t) (o3 n) mx S (fun u13 => some u13) nn z (o3 (k + 1)))).trans ?_
      exact ih (k + 1) nn _ (by omega) (by omega)
  unfold f_X11_bestFrom
  obtain ⟨fu, hfu⟩ : ∃ z, FU = z + 1 := ⟨FU - 1, by have := FU_lt (d := 1) (by omega); omega⟩
  have hfu2 : E.length < fu := by have := FU_lt (d := E.length + 1) (by omega); omega
  rw [hfu, lp_X11_bestFrom_8.eq_2, hg1, bd_some, if_neg (show ¬ o3 E.length ≤ (-1 : Int32) from fun q => by have q := ni_le.mp q; rw [o3_int (by omega), show (-1 : Int32).toInt = -1 from rfl] at q; omega), mg_stay m1 hF hT hn ht hf hm, bd_some, show (-1 : Int32) + 1 = o3 0 from rfl]
  refine (mg_pick (A := fun z => lp_X11_bestFrom_8 (o3 f) (o3 t) (o3 n) mx S (fun u13 => some u13) fu z (o3 0))).trans ?_
  have hs : stv (GG F E tg mx (n - t - 1) f) (pc (F.getD f (0, 0))) < 0 → stv (GG F E tg mx (n - t - 1) f) (pc (F.getD f (0, 0))) = -1 := by
    refine stv_m1 (fun hg => ?_)
    have hp := pcn_le (hF _ (gd_mem (d := (0, 0)) hf))
    rcases GG_nb (tg := tg) (mx := mx) hF hE hm (n - t - 1) f (by omega) hf with e | ⟨g, e1, e2⟩
    · rw [e] at hg; exact absurd hg (by decide)
    · rw [e1, pc_o, o6_add]; exact o6_nn (by omega)
  rw [bt_m1 hs, key E.length 0 fu _ (by omega) hfu2]
  obtain ⟨h, e⟩ : ∃ h, n - t = h + 1 := ⟨n - t - 1, by omega⟩
  rw [e, GG_s hE, show h + 1 - 1 = h by omega]
end PM2
end
