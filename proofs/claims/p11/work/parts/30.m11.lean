section
/-! waiting() -/
/-- is the new one taken? -/
def tk1 (mx : Int32) (x y : Int64) : Bool := decide (¬ x < 0 ∧ (y < 0 ∨ (mx = 0 ∧ ¬ y ≤ x) ∨ (¬ mx = 0 ∧ ¬ x ≤ y)))
theorem c_tk {mx : Int32} {x y : Int64} {S : fS} : f_X1_isBetter x y mx S = some (if tk1 mx x y = true then 1 else 0) := by
  unfold f_X1_isBetter tk1
  by_cases h1 : x < 0
  · rw [if_pos h1, if_pos h1, if_neg (by rw [decide_eq_true_eq]; exact fun q => q.1 h1)]
  · rw [if_neg h1]
    by_cases h2 : y < 0
    · rw [if_neg (show ¬ (0 : Int64) ≤ y by rw [nl_lt] at h2; rw [nl_le]; omega), if_neg h1, if_pos (by rw [decide_eq_true_eq]; exact ⟨h1, Or.inl h2⟩)]
    · rw [if_pos (show (0 : Int64) ≤ y by rw [nl_lt] at h2; rw [nl_le]; omega)]
      by_cases h3 : mx = 0
      · rw [if_pos h3]
        by_cases h4 : y ≤ x
        · rw [if_pos h4, if_neg (by rw [decide_eq_true_eq]; rintro ⟨_, q | q | q⟩; exact h2 q; exact q.2 h4; exact q.1 h3)]
        · rw [if_neg h4, if_pos (by rw [decide_eq_true_eq]; exact ⟨h1, Or.inr (Or.inl ⟨h3, h4⟩)⟩)]
      · rw [if_neg h3]
        by_cases h4 : x ≤ y
        · rw [if_pos h4, if_neg (by rw [decide_eq_true_eq]; rintro ⟨_, q | q | q⟩; exact h2 q; exact h3 q.1; exact q.2 h4)]
        · rw [if_neg h4, if_pos (by rw [decide_eq_true_eq]; exact ⟨h1, Or.inr (Or.inr ⟨h3, h4⟩)⟩)]
theorem m_tk {mx : Int32} {x y : Int64} {S : fS} {β : Type} {A B : Option β} : (if x < (0 : Int64) then A else ((f_X11_isBetter x y mx S).bind fun q49 => if q49 = (0 : Int32) then A else B)) = if tk1 mx x y = true then B else A := by
  unfold f_X11_isBetter tk1
  by_cases h1 : x < 0
  · rw [if_pos h1, if_neg (by rw [decide_eq_true_eq]; exact fun q => q.1 h1)]
  · rw [if_neg h1]
    by_cases h2 : y < 0
    · rw [if_pos h2, bd_some, if_neg (by decide), if_pos (by rw [decide_eq_true_eq]; exact ⟨h1, Or.inl h2⟩)]
    · rw [if_neg h2]
      by_cases h3 : mx = 0
      · rw [if_pos h3]
        by_cases h4 : y ≤ x
        · rw [if_pos h4, bd_some, if_pos rfl, if_neg (by rw [decide_eq_true_eq]; rintro ⟨_, q | q | q⟩; exact h2 q; exact q.2 h4; exact q.1 h3)]
        · rw [if_neg h4, bd_some, if_neg (by decide), if_pos (by rw [decide_eq_true_eq]; exact ⟨h1, Or.inr (Or.inl ⟨h3, h4⟩)⟩)]
      · rw [if_neg h3]
        by_cases h4 : x ≤ y
        · rw [if_pos h4, bd_some, if_pos rfl, if_neg (by rw [decide_eq_true_eq]; rintro ⟨_, q | q | q⟩; exact h2 q; exact h3 q.1; exact q.2 h4)]
        · rw [if_neg h4, bd_some, if_neg (by decide), if_pos (by rw [decide_eq_true_eq]; exact ⟨h1, Or.inr (Or.inr ⟨h3, h4⟩)⟩)]
/-- the class's choice: from floor k on, i held -/
def bc (v : Nat → Int64) (mx : Int32) : Nat → Nat → Nat → Nat
  | 0, _, i => i
  | d + 1, k, i => bc v mx d (k + 1) (if tk1 mx (v k) (v i) = true then k else i)
/-- the reference's choice: floor held (or -1) and its worth -/
def bm (v : Nat → Int64) (mx : Int32) : Nat → Nat → Int32 → Int64 → Int32
  | 0, _, i, _ => i
  | d + 1, k, i, y => if tk1 mx (v k) y = true then bm v mx d (k + 1) (o3 k) (v k) else bm v mx d (k + 1) i y
theorem bm_bc {v : Nat → Int64} {mx : Int32} : ∀ d k i, bm v mx d k (o3 i) (v i) = o3 (bc v mx d k i) := by
  intro d
  induction d with
  | zero => intro k i; rfl
  | succ d ih =>
    intro k i
    show (if tk1 mx (v k) (v i) = true then bm v mx d (k + 1) (o3 k) (v k) else bm v mx d (k + 1) (o3 i) (v i)) = o3 (bc v mx d (k + 1) (if tk1 mx (v k) (v i) = true then k else i))
    by_cases h : tk1 mx (v k) (v i) = true
    · rw [if_pos h, if_pos h]; exact ih (k + 1) k
    · rw [if_neg h, if_neg h]; exact ih (k + 1) i
theorem tk_m1 {mx : Int32} {x y z : Int64} (hy : y < 0) (hz : z < 0) : tk1 mx x y = tk1 mx x z := by
  unfold tk1
  by_cases h1 : x < 0
  · rw [decide_eq_false (fun q => q.1 h1), decide_eq_false (fun q => q.1 h1)]
  · rw [decide_eq_true (show ¬ x < 0 ∧ _ from ⟨h1, Or.inl hy⟩), decide_eq_true (show ¬ x < 0 ∧ _ from ⟨h1, Or.inl hz⟩)]
/-- where some floor can be come to, both choose alike -/
theorem bm_eq {v : Nat → Int64} {mx : Int32} : ∀ d k, (∃ j, k ≤ j ∧ j < k + d ∧ ¬ v j < 0) → ∀ i, v i < 0 → bm v mx d k (-1) (-1) = o3 (bc v mx d k i) := by
  intro d
  induction d with
  | zero => intro k ⟨j, h1, h2, _⟩; omega
  | succ d ih =>
    intro k ⟨j, h1, h2, h3⟩ i hi
    show (if tk1 mx (v k) (-1) = true then bm v mx d (k + 1) (o3 k) (v k) else bm v mx d (k + 1) (-1) (-1)) = o3 (bc v mx d (k + 1) (if tk1 mx (v k) (v i) = true then k else i))
    rw [tk_m1 (y := -1) (z := v i) (by decide) hi]
    by_cases h : tk1 mx (v k) (v i) = true
    · rw [if_pos h, if_pos h]; exact bm_bc d (k + 1) k
    · rw [if_neg h, if_neg h]
      have hk : v k < 0 := by
        refine Decidable.byContradiction fun q => h ?_
        unfold tk1
        rw [decide_eq_true_eq]
        exact ⟨q, Or.inl hi⟩
      have : j ≠ k := fun z => h3 (z ▸ hk)
      exact ih (k + 1) ⟨j, by omega, by omega, h3⟩ i hi
section WT
variable {F : List (Nat × Nat)} {E : List St5} {tg : Nat} {mx : Int32} {n : Nat}
theorem c_bf {S : fS} (b1 : twC S 4 F E) (hT : tbC F E tg mx S n) (hn : n ≤ 120) (hm : F.length ≤ 10) (h1 : 0 < F.length) : f_X1_bestFloor 4 (o3 n) mx S = some (o3 (bc (fun f => GG F E tg mx n f) mx (F.length - 1) 1 0)) := by
  have key : ∀ d k nn i, k + d = F.length → d < nn → i < F.length → lp_X1_bestFloor_6 4 (o3 n) mx S (fun u12 => some u12) nn (o3 i) (o3 k) = some (o3 (bc (fun f => GG F E tg mx n f) mx d k i)) := by
    intro d
    induction d with
    | zero =>
      intro k nn i hk hnn hi
      obtain ⟨nn, rfl⟩ : ∃ z, nn = z + 1 := ⟨nn - 1, by omega⟩
      rw [lp_X1_bestFloor_6.eq_2, b1.1, if_pos ((o3_le (by omega) (by omega)).mpr (by omega))]
      rfl
    | succ d ih =>
      intro k nn i hk hnn hi
      obtain ⟨nn, rfl⟩ : ∃ z, nn = z + 1 := ⟨nn - 1, by omega⟩
      have he : bc (fun f => GG F E tg mx n f) mx (d + 1) k i = bc (fun f => GG F E tg mx n f) mx d (k + 1) (if tk1 mx (GG F E tg mx n k) (GG F E tg mx n i) = true then k else i) := rfl
      rw [lp_X1_bestFloor_6.eq_2, b1.1, if_neg (fun q => by have := (o3_le (by omega) (by omega)).mp q; omega), cg_of hT (Nat.le_refl _) hn (by omega) hm, bd_some, cg_of hT (Nat.le_refl _) hn hi hm, bd_some, c_tk, bd_some, o3_s, he]
      by_cases h : tk1 mx (GG F E tg mx n k) (GG F E tg mx n i) = true
      · rw [if_pos h, if_pos h, if_neg (by decide)]
        exact ih (k + 1) nn k (by omega) (by omega) (by omega)
      · rw [if_neg h, if_neg h, if_pos rfl]
        exact ih (k + 1) nn i (by omega) (by omega) hi
  exact key (F.length - 1) 1 FU 0 (by omega) (FU_lt (by omega)) h1
theorem wn_56 {p1 p3 p4 : Int32} {p5 : Int64} (htg : tg < 2147483648) (hn : n ≤ 120) {K : fS → Option (Int32 × fS)} : ∀ d k nn (S : fS), k + d = 10 → d < nn → (∀ j, j < k → S.2 162 (10 * n + j) = if j = tg then 0 else -1) → ∃ T, lp_X11_waiting_56 p1 (o3 n) p3 p4 p5 (o3 tg) K nn (o3 k) S = K T ∧ (∀ j, j < 10 → T.2 162 (10 * n + j) = if j = tg then 0 else -1) ∧ e162 S T := by
  intro d
  induction d with
  | zero =>
    intro k nn S hk hnn hj
    obtain ⟨nn, rfl⟩ : ∃ z, nn = z + 1 := ⟨nn - 1, by omega⟩
    rw [lp_X11_waiting_56.eq_2, if_pos (show (10 : Int32) ≤ o3 k from (o3_le (a := 10) (by omega) (by omega)).mpr (by omega))]
    exact ⟨S, rfl, fun j h => hj j (by omega), e162.rf⟩
  | succ d ih =>
    intro k nn S hk hnn hj
    obtain ⟨nn, rfl⟩ : ∃ z, nn = z + 1 := ⟨nn - 1, by omega⟩
    have key : ∀ x, x = (if k = tg then (0 : Int64) else -1) → ∃ T, lp_X11_waiting_56 p1 (o3 n) p3 p4 p5 (o3 tg) K nn (o3 (k + 1)) (pL S 162 (10 * n + k) x) = K T ∧ (∀ j, j < 10 → T.2 162 (10 * n + j) = if j = tg then 0 else -1) ∧ e162 S T := fun x hx => by
      obtain ⟨T, t1, t2, t3⟩ := ih (k + 1) nn (pL S 162 (10 * n + k) x) (by omega) (by omega) (fun j h => by
        by_cases e : j = k
        · subst e; rw [pL_eq, hx]
        · rw [pL_ne (by omega)]; exact hj j (by omega))
      exact ⟨T, t1, t2, e162_p.tr t3⟩
    rw [lp_X11_waiting_56.eq_2, if_neg (show ¬ (10 : Int32) ≤ o3 k from fun q => by have := (o3_le (a := 10) (by omega) (by omega)).mp q; omega), show (10 : Int32) = o3 10 from rfl, o3_mul, o3_add, sL_o (by omega) (by omega), sL_o (by omega) (by omega), bd_some, bd_some, o3_s]
    by_cases e : k = tg
    · rw [if_pos ((o3_inj (by omega) htg).mpr e)]
      exact key 0 (by rw [if_pos e])
    · rw [if_neg (fun q => e ((o3_inj (by omega) htg).mp q))]
      exact key (-1) (by rw [if_neg e])
theorem wn_108 {p1 p4 p7 : Int32} {p5 : Int64} (hF : ∀ q ∈ F, okF q) (hE : ∀ q ∈ E, okS F.length q) (hm : F.length ≤ 10) (hl : E.length ≤ 12) (hn : n ≤ 120) {t : Nat} (ht : t < n) {K : fS → Option (Int32 × fS)} : ∀ d k nn (S : fS), k + d = F.length → d < nn → twM (S.1 157) F E → tbM F E tg mx n S (t + 1) → (∀ f, f < k → S.2 162 (10 * t + f) = GG F E tg mx (n - t) f) → ∃ T, lp_X11_waiting_108 p1 (o3 n) mx p4 p5 p7 (o3 t) K nn (o3 k) S = K T ∧ tbM F E tg mx n T t ∧ e162 S T := by
  intro d
  induction d with
  | zero =>
    intro k nn S hk hnn m1 hT hj
    obtain ⟨nn, rfl⟩ : ∃ z, nn = z + 1 := ⟨nn - 1, by omega⟩
    rw [lp_X11_waiting_108.eq_2, show gI S 157 158 0 = some (o3 F.length) from (gI_o (k := 0) (by omega) (by omega)).trans (congrArg some m1.1), bd_some, if_pos ((o3_le (by omega) (by omega)).mpr (by omega))]
    exact ⟨S, rfl, tbM_s hT (fun f hf => hj f (by omega)), e162.rf⟩
  | succ d ih =>
    intro k nn S hk hnn m1 hT hj
    obtain ⟨nn, rfl⟩ : ∃ z, nn = z + 1 := ⟨nn - 1, by omega⟩
    rw [lp_X11_waiting_108.eq_2, show gI S 157 158 0 = some (o3 F.length) from (gI_o (k := 0) (by omega) (by omega)).trans (congrArg some m1.1), bd_some, if_neg (fun q => by have := (o3_le (by omega) (by omega)).mp q; omega), mg_best m1 hF hE hT hn ht (by omega) hm hl, bd_some, show (10 : Int32) = o3 10 from rfl, o3_mul, o3_add, sL_o (by omega) (by omega), bd_some, o3_s]
    obtain ⟨T, t1, t2, t3⟩ := ih (k + 1) nn (pL S 162 (10 * t + k) (GG F E tg mx (n - t) k)) (by omega) (by omega) m1 (fun j f h1 h2 h3 => by rw [pL_ne (by omega)]; exact hT j f h1 h2 h3) (fun f hf => by
      by_cases e : f = k
      · subst e; rw [pL_eq]
      · rw [pL_ne (by omega)]; exact hj f (by omega))
    exact ⟨T, t1, t2, e162_p.tr t3⟩
theorem wn_100 {p1 p4 p7 : Int32} {p5 : Int64} (hF : ∀ q ∈ F, okF q) (hE : ∀ q ∈ E, okS F.length q) (hm : F.length ≤ 10) (hl : E.length ≤ 12) (hn : n ≤ 120) {K : fS → Option (Int32 × fS)} : ∀ t nn (S : fS), t ≤ n → t < nn → twM (S.1 157) F E → tbM F E tg mx n S t → ∃ T, lp_X11_waiting_100 p1 (o3 n) mx p4 p5 p7 K nn (o3 t - 1) S = K T ∧ tbM F E tg mx n T 0 ∧ e162 S T := by
  intro t
  induction t with
  | zero =>
    intro nn S htn hnn m1 hT
    obtain ⟨nn, rfl⟩ : ∃ z, nn = z + 1 := ⟨nn - 1, by omega⟩
    rw [lp_X11_waiting_100.eq_2, if_pos (show o3 0 - 1 < (0 : Int32) by decide)]
    exact ⟨S, rfl, hT, e162.rf⟩
  | succ t ih =>
    intro nn S htn hnn m1 hT
    obtain ⟨nn, rfl⟩ : ∃ z, nn = z + 1 := ⟨nn - 1, by omega⟩
    rw [lp_X11_waiting_100.eq_2, show o3 (t + 1) - 1 = o3 t from by rw [show (1 : Int32) = o3 1 from rfl, o3_sub (by omega)]; rfl, if_neg (o3_nn (by omega))]
    obtain ⟨T1, a1, a2, a3⟩ := wn_108 (tg := tg) (mx := mx) (p1 := p1) (p4 := p4) (p5 := p5) (p7 := p7) hF hE hm hl hn (t := t) (by omega) (K := fun S38 => lp_X11_waiting_100 p1 (o3 n) mx p4 p5 p7 K nn (o3 t + (-1 : Int32)) S38) F.length 0 FU S (by omega) (FU_lt (by omega)) m1 hT (fun f hf => absurd hf (Nat.not_lt_zero _))
    obtain ⟨T, t1, t2, t3⟩ := ih nn T1 (by omega) (by omega) (by rw [a3.1]; exact m1) a2
    refine ⟨T, a1.trans ?_, t2, a3.tr t3⟩
    rw [show o3 t + (-1 : Int32) = o3 t - 1 from (Int32.sub_eq_add_neg _ _).symm]
    exact t1
theorem wn_42 {th f0 : Nat} (hth : th < 8) (hF : ∀ q ∈ F, okF q) (hE : ∀ q ∈ E, okS F.length q) (hm : F.length ≤ 10) (hl : E.length ≤ 12) (hn : n ≤ 120) (hf0 : f0 < F.length) : ∀ d k nn (S : fS) (i : Int32) (y : Int64), k + d = F.length → d < nn → twM (S.1 157) F E → S.1 157 (90 + 4 * th) = o3 f0 → ∃ T, lp_X11_waiting_42 (o3 th) (o3 n) mx (fun u53 S54 => some (u53, S54)) nn i y (o3 k) S = some (bm (fun p => GG F E p mx n f0) mx d k i y, T) ∧ e162 S T := by
  intro d
  induction d with
  | zero =>
    intro k nn S i y hk hnn m1 hp
    obtain ⟨nn, rfl⟩ : ∃ z, nn = z + 1 := ⟨nn - 1, by omega⟩
    rw [lp_X11_waiting_42.eq_2, show gI S 157 158 0 = some (o3 F.length) from (gI_o (k := 0) (by omega) (by omega)).trans (congrArg some m1.1), bd_some, if_pos ((o3_le (by omega) (by omega)).mpr (by omega))]
    exact ⟨S, rfl, e162.rf⟩
  | succ d ih =>
    intro k nn S i y hk hnn m1 hp
    obtain ⟨nn, rfl⟩ : ∃ z, nn = z + 1 := ⟨nn - 1, by omega⟩
    rw [lp_X11_waiting_42.eq_2, show gI S 157 158 0 = some (o3 F.length) from (gI_o (k := 0) (by omega) (by omega)).trans (congrArg some m1.1), bd_some, if_neg (fun q => by have := (o3_le (by omega) (by omega)).mp q; omega), o3_s]
    obtain ⟨T1, t1, t2, t3⟩ := wn_56 (tg := k) (n := n) (p1 := o3 th) (p3 := mx) (p4 := i) (p5 := y) (by omega) hn (K := fun S25 => lp_X11_waiting_100 (o3 th) (o3 n) mx i y (o3 k) (fun S40 => (f_X11_thingOf (o3 th) (0 : Int32) S40).bind fun q42 => (gL S40 162 1210 q42).bind fun a45 => if a45 < (0 : Int64) then (lp_X11_waiting_42 (o3 th) (o3 n) mx (fun u53 S54 => some (u53, S54)) nn i y (o3 (k + 1)) S40) else ((f_X11_isBetter a45 y mx S40).bind fun q49 => if q49 = (0 : Int32) then (lp_X11_waiting_42 (o3 th) (o3 n) mx (fun u53 S54 => some (u53, S54)) nn i y (o3 (k + 1)) S40) else (lp_X11_waiting_42 (o3 th) (o3 n) mx (fun u53 S54 => some (u53, S54)) nn (o3 k) a45 (o3 (k + 1)) S40))) FU (o3 n - (1 : Int32)) S25) 10 0 FU S (by omega) (FU_lt (by omega)) (fun j hj => absurd hj (Nat.not_lt_zero _))
    obtain ⟨T2, u1, u2, u3⟩ := wn_100 (F := F) (E := E) (tg := k) (mx := mx) (n := n) (p1 := o3 th) (p4 := i) (p5 := y) (p7 := o3 k) hF hE hm hl hn (K := fun S40 => (f_X11_thingOf (o3 th) (0 : Int32) S40).bind fun q42 => (gL S40 162 1210 q42).bind fun a45 => if a45 < (0 : Int64) then (lp_X11_waiting_42 (o3 th) (o3 n) mx (fun u53 S54 => some (u53, S54)) nn i y (o3 (k + 1)) S40) else ((f_X11_isBetter a45 y mx S40).bind fun q49 => if q49 = (0 : Int32) then (lp_X11_waiting_42 (o3 th) (o3 n) mx (fun u53 S54 => some (u53, S54)) nn i y (o3 (k + 1)) S40) else (lp_X11_waiting_42 (o3 th) (o3 n) mx (fun u53 S54 => some (u53, S54)) nn (o3 k) a45 (o3 (k + 1)) S40))) n FU T1 (Nat.le_refl _) (FU_lt (by omega)) (by rw [t3.1]; exact m1) (fun j g h1 h2 h3 => by
      have : j = n := by omega
      subst this
      rw [t2 g (by omega), Nat.sub_self, GG_0])
    have e12 := t3.tr u3
    have m1' : twM (T2.1 157) F E := by rw [e12.1]; exact m1
    have hp' : T2.1 157 (90 + 4 * th) = o3 f0 := by rw [e12.1]; exact hp
    have g162 : gL T2 162 1210 (o3 f0) = some (GG F E k mx n f0) := by
      have := u2 0 f0 (by omega) (by omega) hf0
      rw [show 10 * 0 + f0 = f0 by omega, Nat.sub_zero] at this
      exact (gL_o (by omega) (by omega)).trans (congrArg some this)
    have hb : bm (fun p => GG F E p mx n f0) mx (d + 1) k i y = if tk1 mx (GG F E k mx n f0) y = true then bm (fun p => GG F E p mx n f0) mx d (k + 1) (o3 k) (GG F E k mx n f0) else bm (fun p => GG F E p mx n f0) mx d (k + 1) i y := rfl
    have step : lp_X11_waiting_56 (o3 th) (o3 n) mx i y (o3 k) (fun S25 => lp_X11_waiting_100 (o3 th) (o3 n) mx i y (o3 k) (fun S40 => (f_X11_thingOf (o3 th) (0 : Int32) S40).bind fun q42 => (gL S40 162 1210 q42).bind fun a45 => if a45 < (0 : Int64) then (lp_X11_waiting_42 (o3 th) (o3 n) mx (fun u53 S54 => some (u53, S54)) nn i y (o3 (k + 1)) S40) else ((f_X11_isBetter a45 y mx S40).bind fun q49 => if q49 = (0 : Int32) then (lp_X11_waiting_42 (o3 th) (o3 n) mx (fun u53 S54 => some (u53, S54)) nn i y (o3 (k + 1)) S40) else (lp_X11_waiting_42 (o3 th) (o3 n) mx (fun u53 S54 => some (u53, S54)) nn (o3 k) a45 (o3 (k + 1)) S40))) FU (o3 n - (1 : Int32)) S25) FU (0 : Int32) S = if tk1 mx (GG F E k mx n f0) y = true then lp_X11_waiting_42 (o3 th) (o3 n) mx (fun u53 S54 => some (u53, S54)) nn (o3 k) (GG F E k mx n f0) (o3 (k + 1)) T2 else lp_X11_waiting_42 (o3 th) (o3 n) mx (fun u53 S54 => some (u53, S54)) nn i y (o3 (k + 1)) T2 := by
      refine (t1.trans u1).trans ?_
      rw [show f_X11_thingOf (o3 th) 0 T2 = some (o3 f0) from (mw_thing (a := 0) hth (by omega)).trans (congrArg some hp'), bd_some, g162, bd_some, m_tk]
    rw [step, hb]
    by_cases h : tk1 mx (GG F E k mx n f0) y = true
    · rw [if_pos h, if_pos h]
      obtain ⟨T, w1, w2⟩ := ih (k + 1) nn T2 (o3 k) (GG F E k mx n f0) (by omega) (by omega) m1' hp'
      exact ⟨T, w1, e12.tr w2⟩
    · rw [if_neg h, if_neg h]
      obtain ⟨T, w1, w2⟩ := ih (k + 1) nn T2 i y (by omega) (by omega) m1' hp'
      exact ⟨T, w1, e12.tr w2⟩
end WT
end
section
/-- waiting: both answer; what each answers -/
theorem t_21 (a1 a2 a3 : Int32) (S : fS) (hR : Rel S) : ∃ r r' S1 S2, f_X10_waiting a1 a2 a3 S = some (r, S1) ∧ f_X11_waiting a1 a2 a3 S1 = some (r', S2) ∧ Rel S2 ∧ (r = r' ∨ ∃ (F : List (Nat × Nat)) (E : List St5) (n f : Nat), (∀ q ∈ F, okF q) ∧ (∀ q ∈ E, okS F.length q) ∧ F.length ≤ 10 ∧ E.length ≤ 12 ∧ n ≤ 120 ∧ f < F.length ∧ r = o3 (bc (fun g => GG F E f a3 n g) a3 (F.length - 1) 1 0) ∧ r' = bm (fun p => GG F E p a3 n f) a3 F.length 0 (-1) (-1)) := by
  have hR0 := hR
  obtain ⟨n', s, L, M, hT, ⟨⟨n1, n2, n3, n4, n5, n6⟩, ⟨b1, b2, b3, b4, b5⟩, ⟨m1, m2, m3, m4⟩, d⟩, hL, hM⟩ := hR
  have h8 := n5.1
  have i1 : f_X10_isFrom a2 0 120 S = some (if ((0 : Nat) : Int) ≤ a2.toInt ∧ a2.toInt ≤ ((120 : Nat) : Int) then 1 else 0) := from_c (a := 0) (b := 120) (by omega) (by omega)
  have j1 : ∀ T : fS, f_X11_in (Int32.toInt64 a2) 0 120 T = some (if ((0 : Nat) : Int) ≤ a2.toInt ∧ a2.toInt ≤ ((120 : Nat) : Int) then 1 else 0) := fun T => in_c (a := 0) (b := 120) (by omega) (by omega)
  have no : f_X10_waiting a1 a2 a3 S = some (-1, S) → f_X11_waiting a1 a2 a3 S = some (-1, S) → ∃ r r' S1 S2, f_X10_waiting a1 a2 a3 S = some (r, S1) ∧ f_X11_waiting a1 a2 a3 S1 = some (r', S2) ∧ Rel S2 ∧ (r = r' ∨ ∃ (F : List (Nat × Nat)) (E : List St5) (n f : Nat), (∀ q ∈ F, okF q) ∧ (∀ q ∈ E, okS F.length q) ∧ F.length ≤ 10 ∧ E.length ≤ 12 ∧ n ≤ 120 ∧ f < F.length ∧ r = o3 (bc (fun g => GG F E f a3 n g) a3 (F.length - 1) 1 0) ∧ r' = bm (fun p => GG F E p a3 n f) a3 F.length 0 (-1) (-1)) := fun h g => ⟨-1, -1, S, S, h, g, hR0, Or.inl rfl⟩
  by_cases h1 : ¬ (0 ≤ a1.toInt ∧ a1.toInt < s.2.2.1.1)
  · refine no ?_ ?_
    · unfold f_X10_waiting f_X10_isStanding; rw [ci_thing b3.1 (by omega), bd_some, if_neg h1, if_pos rfl, bd_some, if_pos rfl]
    · unfold f_X11_waiting; rw [mi_thing m2.1 (by omega), bd_some, if_neg h1, if_pos rfl]
  have h1 := Decidable.not_not.mp h1
  obtain ⟨th, e1, e2⟩ := o3_ex h1.1
  have hth : th < s.2.2.1.1 := by omega
  have cStand : f_X10_isStanding (o3 th) S = some (if s.2.2.1.2.2.1 th < 0 then 0 else 1) := by
    unfold f_X10_isStanding f_X0_isStanding
    rw [ci_thing b3.1 (by omega), bd_some, ← e1, if_pos h1, if_neg (show ¬ (1 : Int32) = 0 by decide), e1, gI_o (by omega) (by omega), bd_some, show S.1 (11 + 1) th = _ from (b3.2.2 th hth).1]
    by_cases z : s.2.2.1.2.2.1 th < 0
    · rw [if_pos z, if_pos z, bd_some, if_pos rfl]
    · rw [if_neg z, if_neg z, bd_some, if_neg (by decide)]
  have mTh : ∀ T : fS, T.1 = S.1 → f_X11_thingOf (o3 th) 0 T = some (s.2.2.1.2.2.1 th) := fun T hTT => (mw_thing (a := 0) (by omega) (by omega)).trans (congrArg some (by rw [hTT]; exact (m2.2.2 th hth).1))
  have mIs : ∀ T : fS, T.1 = S.1 → f_X11_isThing (o3 th) T = some 1 := fun T hTT => by rw [mi_thing (m := s.2.2.1.1) (by rw [hTT]; exact m2.1) (by omega), ← e1, if_pos h1]
  by_cases h0 : s.2.2.1.2.2.1 th < 0
  · refine no ?_ ?_
    · unfold f_X10_waiting; rw [e1, cStand, if_pos h0, bd_some, if_pos rfl]
    · unfold f_X11_waiting; rw [e1, mIs S rfl, bd_some, if_neg (show ¬ (1 : Int32) = 0 by decide), mTh S rfl, bd_some, if_pos h0]
  obtain ⟨f, f1, f2⟩ := okT_nn (n5.2.2 th hth).1 n1 h0
  by_cases h3 : ¬ (((0 : Nat) : Int) ≤ a2.toInt ∧ a2.toInt ≤ ((120 : Nat) : Int))
  · refine no ?_ ?_
    · unfold f_X10_waiting; rw [e1, cStand, if_neg h0, bd_some, if_neg (show ¬ (1 : Int32) = 0 by decide), i1, bd_some, if_neg h3, if_pos rfl]
    · unfold f_X11_waiting; rw [e1, mIs S rfl, bd_some, if_neg (show ¬ (1 : Int32) = 0 by decide), mTh S rfl, bd_some, if_neg h0, j1, bd_some, if_neg h3, if_pos rfl]
  have h3 := Decidable.not_not.mp h3
  obtain ⟨n, e5, e6⟩ := o3_ex (x := a2) (by omega)
  have hn : n ≤ 120 := by omega
  obtain ⟨S1, c1, c2, c3⟩ := c_meas (mx := a3) b1 n4 n1 n2 hn f1
  have hp : S1.1 157 (90 + 4 * th) = o3 f := by
    rw [c3.1]
    exact ((m2.2.2 th hth).1).trans f2
  obtain ⟨S2, w1, w2⟩ := wn_42 (F := s.1) (E := s.2.1) (mx := a3) (n := n) (th := th) (f0 := f) (by omega) n3 n4 n1 n2 hn f1 s.1.length 0 FU S1 (-1) (-1) (by omega) (FU_lt (by omega)) (by rw [c3.1]; exact m1) hp
  refine ⟨_, _, S1, S2, ?_, ?_, meas_rel hR0 c3 w2, Or.inr ⟨s.1, s.2.1, n, f, n3, n4, n1, n2, hn, f1, rfl, rfl⟩⟩
  · unfold f_X10_waiting
    rw [e1, cStand, if_neg h0, bd_some, if_neg (show ¬ (1 : Int32) = 0 by decide), i1, bd_some, if_pos h3, if_neg (show ¬ (1 : Int32) = 0 by decide), gI_o (by omega) (by omega), bd_some, show S.1 12 th = s.2.2.1.2.2.1 th from (b3.2.2 th hth).1, f2, e5, c1, bd_some, c_bf (twC_44 b1 c3) c2 hn n1 (by omega), bd_some]
  · unfold f_X11_waiting
    rw [e1, mIs S1 c3.1, bd_some, if_neg (show ¬ (1 : Int32) = 0 by decide), mTh S1 c3.1, bd_some, if_neg h0, j1, bd_some, if_pos h3, if_neg (show ¬ (1 : Int32) = 0 by decide), e5]
    exact w1
end
section
/-! needed() -/
/-- a set of floors, spread along one stair; along all but one; so many rounds -/
def nst (q : St5) (s : Nat → Bool) : Nat → Bool := if s q.1 = true ∨ s q.2.1 = true then fun j => s j || decide (j = q.1) || decide (j = q.2.1) else s
def nro (E : List St5) (v : Nat) : Nat → Nat → (Nat → Bool) → (Nat → Bool)
  | 0, _, s => s
  | d + 1, k, s => nro E v d (k + 1) (if k = v then s else nst (E.getD k d5) s)
def nit (E : List St5) (v : Nat) : Nat → (Nat → Bool) → (Nat → Bool)
  | 0, s => s
  | r + 1, s => nit E v r (nro E v E.length 0 s)
theorem nst_le {q : St5} {s : Nat → Bool} {j : Nat} (h : s j = true) : nst q s j = true := by
  unfold nst
  split
  · show (s j || decide (j = q.1) || decide (j = q.2.1)) = true
    rw [h]; rfl
  · exact h
theorem nst_in {m : Nat} {q : St5} {s : Nat → Bool} (hq : okS m q) (hs : ∀ j, s j = true → j < m) : ∀ j, nst q s j = true → j < m := by
  intro j h
  unfold nst at h
  split at h
  · replace h : (s j || decide (j = q.1) || decide (j = q.2.1)) = true := h
    rw [Bool.or_eq_true, Bool.or_eq_true, decide_eq_true_eq, decide_eq_true_eq] at h
    rcases h with (h | h) | h
    · exact hs j h
    · rw [h]; exact hq.1
    · rw [h]; exact hq.2.1
  · exact hs j h
section NE
variable {E : List St5} {v m : Nat}
theorem nro_le : ∀ d k (s : Nat → Bool) j, s j = true → nro E v d k s j = true := by
  intro d
  induction d with
  | zero => intro k s j h; exact h
  | succ d ih =>
    intro k s j h
    refine ih (k + 1) _ j ?_
    split
    · exact h
    · exact nst_le h
theorem nro_in (hE : ∀ q ∈ E, okS m q) : ∀ d k (s : Nat → Bool), k + d ≤ E.length → (∀ j, s j = true → j < m) → ∀ j, nro E v d k s j = true → j < m := by
  intro d
  induction d with
  | zero => intro k s _ h; exact h
  | succ d ih =>
    intro k s hk h
    refine ih (k + 1) _ (by omega) ?_
    split
    · exact h
    · exact nst_in (hE _ (gd_mem (by omega))) h
/-- how many of the first ones are in -/
def ct (s : Nat → Bool) : Nat → Nat
  | 0 => 0
  | k + 1 => ct s k + (if s k = true then 1 else 0)
theorem ct_le {s : Nat → Bool} : ∀ k, ct s k ≤ k := by
  intro k
  induction k with
  | zero => exact Nat.le_refl 0
  | succ k ih =>
    show ct s k + (if s k = true then 1 else 0) ≤ k + 1
    split <;> omega
theorem ct_mo {s t : Nat → Bool} (h : ∀ j, s j = true → t j = true) : ∀ k, ct s k ≤ ct t k := by
  intro k
  induction k with
  | zero => exact Nat.le_refl 0
  | succ k ih =>
    show ct s k + (if s k = true then 1 else 0) ≤ ct t k + (if t k = true then 1 else 0)
    by_cases z : s k = true
    · rw [if_pos z, if_pos (h k z)]; omega
    · rw [if_neg z]; split <;> omega
theorem ct_st {s t : Nat → Bool} (h : ∀ j, s j = true → t j = true) : ∀ k, ct t k ≤ ct s k → ∀ j, j < k → t j = true → s j = true := by
  intro k
  induction k with
  | zero => intro _ j hj; omega
  | succ k ih =>
    intro hc j hj ht
    have hc : ct t k + (if t k = true then 1 else 0) ≤ ct s k + (if s k = true then 1 else 0) := hc
    have hm := ct_mo h k
    by_cases z : s k = true
    · rw [if_pos z, if_pos (h k z)] at hc
      by_cases e : j = k
      · rw [e]; exact z
      · exact ih (by omega) j (by omega) ht
    · rw [if_neg z] at hc
      by_cases e : j = k
      · subst e
        rw [if_pos ht] at hc
        omega
      · exact ih (by omega) j (by omega) ht
theorem nit_fx {s : Nat → Bool} (h : nro E v E.length 0 s = s) : ∀ r, nit E v r s = s := by
  intro r
  induction r with
  | zero => rfl
  | succ r ih => show nit E v r (nro E v E.length 0 s) = s; rw [h]; exact ih
theorem nit_ad : ∀ a b (s : Nat → Bool), nit E v (a + b) s = nit E v b (nit E v a s) := by
  intro a
  induction a with
  | zero => intro b s; rw [Nat.zero_add]; rfl
  | succ a ih => intro b s; rw [show a + 1 + b = (a + b) + 1 by omega]; exact ih b _
theorem nit_cl (hE : ∀ q ∈ E, okS m q) : ∀ r (s : Nat → Bool), (∀ j, s j = true → j < m) → m ≤ ct s m + r → nro E v E.length 0 (nit E v r s) = nit E v r s := by
  intro r
  have one : ∀ (s : Nat → Bool), (∀ j, s j = true → j < m) → ct (nro E v E.length 0 s) m ≤ ct s m → nro E v E.length 0 s = s := fun s hs hc => by
    refine funext fun j => ?_
    have h1 := nro_le (E := E) (v := v) E.length 0 s j
    have h2 : nro E v E.length 0 s j = true → s j = true := fun q => ct_st (fun j => nro_le (E := E) (v := v) E.length 0 s j) m hc j (nro_in hE E.length 0 s (by omega) hs j q) q
    cases e : s j with
    | true => exact h1 e
    | false =>
      cases e2 : nro E v E.length 0 s j with
      | true => rw [h2 e2] at e; exact e
      | false => rfl
  induction r with
  | zero =>
    intro s hs hc
    exact one s hs (by have := ct_le (s := nro E v E.length 0 s) m; omega)
  | succ r ih =>
    intro s hs hc
    show nro E v E.length 0 (nit E v r (nro E v E.length 0 s)) = nit E v r (nro E v E.length 0 s)
    by_cases z : ct (nro E v E.length 0 s) m ≤ ct s m
    · have := one s hs z
      rw [this, nit_fx this, this]
    · exact ih _ (nro_in hE E.length 0 s (by omega) hs) (by omega)
theorem nit_10 (hE : ∀ q ∈ E, okS m q) (hm : m ≤ 10) {s : Nat → Bool} (hs : ∀ j, s j = true → j < m) : nit E v 10 s = nit E v m s := by
  rw [show (10 : Nat) = m + (10 - m) by omega, nit_ad, nit_fx (nit_cl hE m s hs (by omega))]
/-- bits -/
def bi (x : Int32) (s : Nat → Bool) : Prop := ∀ j, j < 10 → x.toBitVec.getLsbD j = s j
theorem sh_tp : ∀ a, a < 10 → ((1 : Int32) <<< (o3 a &&& 31)).toBitVec = BitVec.twoPow 32 a := by decide
theorem tp_g {a j : Nat} (ha : a < 10) : (BitVec.twoPow 32 a).getLsbD j = decide (j = a) := by
  rw [BitVec.getLsbD_twoPow, decide_eq_true (show a < 32 by omega), Bool.true_and]
  by_cases h : a = j
  · rw [decide_eq_true h, decide_eq_true h.symm]
  · rw [decide_eq_false h, decide_eq_false (fun q => h q.symm)]
theorem bi_or {x : Int32} {s : Nat → Bool} {a b : Nat} (ha : a < 10) (hb : b < 10) (h : bi x s) : bi (x ||| (((1 : Int32) <<< (o3 a &&& 31)) ||| ((1 : Int32) <<< (o3 b &&& 31)))) (fun j => s j || decide (j = a) || decide (j = b)) := by
  intro j hj
  rw [Int32.toBitVec_or, Int32.toBitVec_or, sh_tp a ha, sh_tp b hb, BitVec.getLsbD_or, BitVec.getLsbD_or, tp_g ha, tp_g hb, h j hj]; exact (Bool.or_assoc _ _ _).symm
theorem bi_and {x y : Int32} {s : Nat → Bool} (h : bi x s) (hy : ∀ j, y.toBitVec.getLsbD j = true → j < 10) : x &&& y = 0 ↔ ∀ j, y.toBitVec.getLsbD j = true → s j = false := by
  rw [← Int32.toBitVec_inj, Int32.toBitVec_and]
  constructor
  · intro q j hj
    have := congrArg (fun z => BitVec.getLsbD z j) q
    replace this : (x.toBitVec &&& y.toBitVec).getLsbD j = (0#32).getLsbD j := this
    rw [BitVec.getLsbD_and, hj, Bool.and_true, BitVec.getLsbD_zero, h j (hy j hj)] at this
    exact this
  · intro q
    refine BitVec.eq_of_getLsbD_eq fun j hj => ?_
    show (x.toBitVec &&& y.toBitVec).getLsbD j = (0#32).getLsbD j
    rw [BitVec.getLsbD_and, BitVec.getLsbD_zero]
    cases e : y.toBitVec.getLsbD j with
    | false => rw [Bool.and_false]
    | true => rw [Bool.and_true, h j (hy j e), q j e]
theorem bi_2 {x : Int32} {s : Nat → Bool} {a b : Nat} (ha : a < 10) (hb : b < 10) (h : bi x s) : x &&& (((1 : Int32) <<< (o3 a &&& 31)) ||| ((1 : Int32) <<< (o3 b &&& 31))) = 0 ↔ ¬ (s a = true ∨ s b = true) := by
  have e : ∀ j, (((1 : Int32) <<< (o3 a &&& 31)) ||| ((1 : Int32) <<< (o3 b &&& 31))).toBitVec.getLsbD j = (decide (j = a) || decide (j = b)) := fun j => by rw [Int32.toBitVec_or, sh_tp a ha, sh_tp b hb, BitVec.getLsbD_or, tp_g ha, tp_g hb]
  rw [bi_and h (fun j q => by
    rw [e, Bool.or_eq_true, decide_eq_true_eq, decide_eq_true_eq] at q
    omega)]
  constructor
  · intro q w
    rcases w with w | w
    · rw [q a (by rw [e, decide_eq_true rfl]; rfl)] at w; exact nomatch w
    · rw [q b (by rw [e, decide_eq_true (show b = b from rfl), Bool.or_true])] at w; exact nomatch w
  · intro q j hj
    rw [e, Bool.or_eq_true, decide_eq_true_eq, decide_eq_true_eq] at hj
    cases w : s j with
    | false => rfl
    | true => exact absurd (hj.imp (fun z => z ▸ w) (fun z => z ▸ w)) q
theorem bi_1 {x : Int32} {s : Nat → Bool} {a : Nat} (ha : a < 10) (h : bi x s) : x &&& ((1 : Int32) <<< (o3 a &&& 31)) = 0 ↔ ¬ s a = true := by
  have e : ∀ j, ((1 : Int32) <<< (o3 a &&& 31)).toBitVec.getLsbD j = decide (j = a) := fun j => by rw [sh_tp a ha, tp_g ha]
  rw [bi_and h (fun j q => by
    rw [e, decide_eq_true_eq] at q
    omega)]
  constructor
  · intro q w
    rw [q a (by rw [e, decide_eq_true rfl])] at w; exact nomatch w
  · intro q j hj
    rw [e, decide_eq_true_eq] at hj
    cases w : s j with
    | false => rfl
    | true => exact absurd (hj ▸ w) q
theorem bi_s {a : Nat} (ha : a < 10) : bi ((1 : Int32) <<< (o3 a &&& 31)) (fun j => decide (j = a)) := fun j _ => by rw [sh_tp a ha, tp_g ha]
variable {F : List (Nat × Nat)}
theorem cn_22 {S : fS} {p3 : Int32} (b1 : twC S 4 F E) (hE : ∀ q ∈ E, okS F.length q) (hm : F.length ≤ 10) (hl : E.length ≤ 12) (hv : v < E.length) {K : Int32 → Option Int32} : ∀ d k nn x s, k + d = E.length → d < nn → bi x s → ∃ y, bi y (nro E v d k s) ∧ lp_X8_isWayAround_22 4 (o3 v) p3 S K nn x (o3 k) = K y := by
  intro d
  induction d with
  | zero =>
    intro k nn x s hk hnn h
    obtain ⟨nn, rfl⟩ : ∃ z, nn = z + 1 := ⟨nn - 1, by omega⟩
    refine ⟨x, h, ?_⟩
    rw [lp_X8_isWayAround_22.eq_2, b1.2.1, if_pos ((o3_le (by omega) (by omega)).mpr (by omega))]
  | succ d ih =>
    intro k nn x s hk hnn h
    obtain ⟨nn, rfl⟩ : ∃ z, nn = z + 1 := ⟨nn - 1, by omega⟩
    have hq := hE _ (gd_mem (d := d5) (show k < E.length by omega))
    have h1 := hq.1
    have h2 := hq.2.1
    obtain ⟨z1, z2, _, _⟩ := b1.2.2.2 k (by omega)
    rw [lp_X8_isWayAround_22.eq_2, b1.2.1, if_neg (fun q => by have := (o3_le (by omega) (by omega)).mp q; omega), gI_o (by omega) (by omega), bd_some, z1, gI_o (by omega) (by omega), bd_some, z2, o3_s]
    have hn : nro E v (d + 1) k s = nro E v d (k + 1) (if k = v then s else nst (E.getD k d5) s) := rfl
    rw [hn]
    by_cases e : k = v
    · rw [if_pos ((o3_inj (by omega) (by omega)).mpr e), if_pos e]
      exact ih (k + 1) nn x s (by omega) (by omega) h
    · rw [if_neg (fun q => e ((o3_inj (by omega) (by omega)).mp q)), if_neg e]
      unfold nst
      by_cases w : s (E.getD k d5).1 = true ∨ s (E.getD k d5).2.1 = true
      · rw [if_neg (fun q => (bi_2 (by omega) (by omega) h).mp q w), if_pos w]
        exact ih (k + 1) nn _ _ (by omega) (by omega) (bi_or (by omega) (by omega) h)
      · rw [if_pos ((bi_2 (by omega) (by omega) h).mpr w), if_neg w]
        exact ih (k + 1) nn x s (by omega) (by omega) h
theorem cn_11 {S : fS} (b1 : twC S 4 F E) (hE : ∀ q ∈ E, okS F.length q) (hm : F.length ≤ 10) (hl : E.length ≤ 12) (hv : v < E.length) {K : Int32 → Option Int32} : ∀ d k nn x s, k + d = F.length → d < nn → bi x s → ∃ y, bi y (nit E v d s) ∧ lp_X8_isWayAround_11 4 (o3 v) S K nn x (o3 k) = K y := by
  intro d
  induction d with
  | zero =>
    intro k nn x s hk hnn h
    obtain ⟨nn, rfl⟩ : ∃ z, nn = z + 1 := ⟨nn - 1, by omega⟩
    refine ⟨x, h, ?_⟩
    rw [lp_X8_isWayAround_11.eq_2, b1.1, if_pos ((o3_le (by omega) (by omega)).mpr (by omega))]
  | succ d ih =>
    intro k nn x s hk hnn h
    obtain ⟨nn, rfl⟩ : ∃ z, nn = z + 1 := ⟨nn - 1, by omega⟩
    rw [lp_X8_isWayAround_11.eq_2, b1.1, if_neg (fun q => by have := (o3_le (by omega) (by omega)).mp q; omega)]
    obtain ⟨y, y1, y2⟩ := cn_22 (p3 := o3 k) b1 hE hm hl hv (K := fun u14 => lp_X8_isWayAround_11 4 (o3 v) S K nn u14 (o3 k + (1 : Int32))) E.length 0 FU x s (by omega) (FU_lt (by omega)) h
    obtain ⟨y', w1, w2⟩ := ih (k + 1) nn y _ (by omega) (by omega) y1
    refine ⟨y', w1, y2.trans ?_⟩
    rw [o3_s]
    exact w2
/-- is there a way around? -/
def wA (F : List (Nat × Nat)) (E : List St5) (v : Nat) : Int32 := if nit E v F.length (fun j => decide (j = (E.getD v d5).1)) (E.getD v d5).2.1 = true then 1 else 0
theorem c_wa {S : fS} (b1 : twC S 4 F E) (hE : ∀ q ∈ E, okS F.length q) (hm : F.length ≤ 10) (hl : E.length ≤ 12) (hv : v < E.length) : f_X8_isWayAround 4 (o3 v) S = some (wA F E v) := by
  have hq := hE _ (gd_mem (d := d5) hv)
  have h1 := hq.1
  have h2 := hq.2.1
  obtain ⟨z1, z2, _, _⟩ := b1.2.2.2 v hv
  unfold f_X8_isWayAround wA
  rw [gI_o (by omega) (by omega), bd_some, z1]
  obtain ⟨y, y1, y2⟩ := cn_11 b1 hE hm hl hv (K := fun u16 => (gI S (4 + 3) 12 (o3 v)).bind fun a18 => if (u16 &&& ((1 : Int32) <<< (a18 &&& 31))) = (0 : Int32) then (some (0 : Int32)) else (some (1 : Int32))) F.length 0 FU _ _ (by omega) (FU_lt (by omega)) (bi_s (a := (E.getD v d5).1) (by omega))
  refine y2.trans ?_
  show (gI S (4 + 3) 12 (o3 v)).bind _ = _
  rw [gI_o (by omega) (by omega), bd_some, z2]
  by_cases w : nit E v F.length (fun j => decide (j = (E.getD v d5).1)) (E.getD v d5).2.1 = true
  · rw [if_neg (fun q => (bi_1 (by omega) y1).mp q w), if_pos w]
  · rw [if_pos ((bi_1 (by omega) y1).mpr w), if_neg w]
/-- the reference's row of booleans -/
def bo (S : fS) (s : Nat → Bool) : Prop := ∀ j, j < 10 → S.1 163 j = if s j = true then 1 else 0
def e163 (S T : fS) : Prop := T.2 = S.2 ∧ ∀ a k, a ≠ 163 → T.1 a k = S.1 a k
theorem e163.rf {S : fS} : e163 S S := ⟨rfl, fun _ _ _ => rfl⟩
theorem e163.tr {S T U : fS} (h : e163 S T) (g : e163 T U) : e163 S U := ⟨g.1.trans h.1, fun a k n => (g.2 a k n).trans (h.2 a k n)⟩
theorem e163_p {S : fS} {k : Nat} {x : Int32} : e163 S (pI S 163 k x) := ⟨rfl, fun a j h => pI_ne (by omega)⟩
theorem twM_163 {S T : fS} (m1 : twM (S.1 157) F E) (h : e163 S T) : twM (T.1 157) F E := by
  rw [show T.1 157 = S.1 157 from funext fun k => h.2 157 k (by omega)]; exact m1
theorem bo_p {S : fS} {s : Nat → Bool} {a b : Nat} (h : bo S s) : bo (pI (pI S 163 a 1) 163 b 1) (fun j => s j || decide (j = a) || decide (j = b)) := by
  intro j hj
  show _ = if (s j || decide (j = a) || decide (j = b)) = true then (1 : Int32) else 0
  by_cases e : j = b
  · rw [e, pI_eq, decide_eq_true (show b = b from rfl), Bool.or_true, if_pos rfl]
  · rw [pI_ne (by omega), decide_eq_false e, Bool.or_false]
    by_cases e : j = a
    · rw [e, pI_eq, decide_eq_true (show a = a from rfl), Bool.or_true, if_pos rfl]
    · rw [pI_ne (by omega), decide_eq_false e, Bool.or_false]
      exact h j hj
theorem nar1 : vp_nar .boolean (1 : Int32) = 1 := by decide
theorem nar0 : vp_nar .boolean (0 : Int32) = 0 := by decide
theorem mn_45 {p2 : Int32} (hE : ∀ q ∈ E, okS F.length q) (hm : F.length ≤ 10) (hl : E.length ≤ 12) (hv : v < E.length) {K : fS → Option (Int32 × fS)} : ∀ d k nn (S : fS) s, k + d = E.length → d < nn → twM (S.1 157) F E → bo S s → ∃ T, lp_X11_isSpare_45 (o3 v) p2 K nn (o3 k) S = K T ∧ bo T (nro E v d k s) ∧ e163 S T := by
  intro d
  induction d with
  | zero =>
    intro k nn S s hk hnn m1 h
    obtain ⟨nn, rfl⟩ : ∃ z, nn = z + 1 := ⟨nn - 1, by omega⟩
    refine ⟨S, ?_, h, e163.rf⟩
    rw [lp_X11_isSpare_45.eq_2, show gI S 157 158 1 = some (o3 E.length) from (gI_o (k := 1) (by omega) (by omega)).trans (congrArg some m1.2.1), bd_some, if_pos ((o3_le (by omega) (by omega)).mpr (by omega))]
  | succ d ih =>
    intro k nn S s hk hnn m1 h
    obtain ⟨nn, rfl⟩ : ∃ z, nn = z + 1 := ⟨nn - 1, by omega⟩
    have hq := hE _ (gd_mem (d := d5) (show k < E.length by omega))
    have h1 := hq.1
    have h2 := hq.2.1
    have h1' : (E.getD k d5).1 < 10 := by omega
    have h2' : (E.getD k d5).2.1 < 10 := by omega
    have z1 : ∀ T : fS, e163 S T → f_X11_stairOf (o3 k) 0 T = some (o3 (E.getD k d5).1) := fun T hT => (m_stairOf (k := 0) (by omega) (by omega)).trans (congrArg some ((twM_163 m1 hT).2.2.2 k (by omega)).1)
    have z2 : ∀ T : fS, e163 S T → f_X11_stairOf (o3 k) 1 T = some (o3 (E.getD k d5).2.1) := fun T hT => (m_stairOf (k := 1) (by omega) (by omega)).trans (congrArg some ((twM_163 m1 hT).2.2.2 k (by omega)).2.1)
    rw [lp_X11_isSpare_45.eq_2, show gI S 157 158 1 = some (o3 E.length) from (gI_o (k := 1) (by omega) (by omega)).trans (congrArg some m1.2.1), bd_some, if_neg (fun q => by have := (o3_le (by omega) (by omega)).mp q; omega), o3_s]
    have hn : nro E v (d + 1) k s = nro E v d (k + 1) (if k = v then s else nst (E.getD k d5) s) := rfl
    rw [hn]
    by_cases e : k = v
    · rw [if_pos ((o3_inj (by omega) (by omega)).mpr e), if_pos e]
      exact ih (k + 1) nn S s (by omega) (by omega) m1 h
    · rw [if_neg (fun q => e ((o3_inj (by omega) (by omega)).mp q)), if_neg e, z1 S e163.rf, bd_some, gI_o h1' (by omega), bd_some, h _ h1', z2 S e163.rf, bd_some, gI_o h2' (by omega), bd_some, h _ h2', bd_some, nar1, sI_o h1' (by omega), bd_some, z2 _ e163_p, bd_some, sI_o h2' (by omega), bd_some]
      obtain ⟨T, t1, t2, t3⟩ := ih (k + 1) nn _ _ (by omega) (by omega) (twM_163 m1 (e163_p.tr e163_p)) (bo_p (a := (E.getD k d5).1) (b := (E.getD k d5).2.1) h)
      have e13 := (e163_p.tr e163_p).tr t3
      unfold nst
      by_cases w1 : s (E.getD k d5).1 = true
      · rw [if_pos w1, if_neg (show ¬ (1 : Int32) = 0 by decide), if_pos (Or.inl w1)]
        exact ⟨T, t1, t2, e13⟩
      · rw [if_neg w1, if_pos rfl]
        by_cases w2 : s (E.getD k d5).2.1 = true
        · rw [if_pos w2, if_neg (show ¬ (1 : Int32) = 0 by decide), if_pos (Or.inr w2)]
          exact ⟨T, t1, t2, e13⟩
        · rw [if_neg w2, if_pos rfl, if_neg (fun q => q.elim w1 w2)]
          exact ih (k + 1) nn S s (by omega) (by omega) m1 h
theorem mn_37 (hE : ∀ q ∈ E, okS F.length q) (hm : F.length ≤ 10) (hl : E.length ≤ 12) (hv : v < E.length) {K : fS → Option (Int32 × fS)} : ∀ d k nn (S : fS) s, k + d = 10 → d < nn → twM (S.1 157) F E → bo S s → ∃ T, lp_X11_isSpare_37 (o3 v) K nn (o3 k) S = K T ∧ bo T (nit E v d s) ∧ e163 S T := by
  intro d
  induction d with
  | zero =>
    intro k nn S s hk hnn m1 h
    obtain ⟨nn, rfl⟩ : ∃ z, nn = z + 1 := ⟨nn - 1, by omega⟩
    refine ⟨S, ?_, h, e163.rf⟩
    rw [lp_X11_isSpare_37.eq_2, if_pos (show (10 : Int32) ≤ o3 k from (o3_le (a := 10) (by omega) (by omega)).mpr (by omega))]
  | succ d ih =>
    intro k nn S s hk hnn m1 h
    obtain ⟨nn, rfl⟩ : ∃ z, nn = z + 1 := ⟨nn - 1, by omega⟩
    rw [lp_X11_isSpare_37.eq_2, if_neg (show ¬ (10 : Int32) ≤ o3 k from fun q => by have := (o3_le (a := 10) (by omega) (by omega)).mp q; omega)]
    obtain ⟨T, t1, t2, t3⟩ := mn_45 (p2 := o3 k) hE hm hl hv (K := fun S58 => lp_X11_isSpare_37 (o3 v) K nn (o3 k + (1 : Int32)) S58) E.length 0 FU S s (by omega) (FU_lt (by omega)) m1 h
    obtain ⟨U, u1, u2, u3⟩ := ih (k + 1) nn T _ (by omega) (by omega) (twM_163 m1 t3) t2
    refine ⟨U, t1.trans ?_, u2, t3.tr u3⟩
    rw [o3_s]
    exact u1
theorem mn_2 (hE : ∀ q ∈ E, okS F.length q) (hm : F.length ≤ 10) (hl : E.length ≤ 12) (hv : v < E.length) {K : fS → Option (Int32 × fS)} : ∀ d k nn (S : fS), k + d = 10 → d < nn → twM (S.1 157) F E → (∀ j, j < k → S.1 163 j = if decide (j = (E.getD v d5).1) = true then 1 else 0) → ∃ T, lp_X11_isSpare_2 (o3 v) K nn (o3 k) S = K T ∧ bo T (fun j => decide (j = (E.getD v d5).1)) ∧ e163 S T := by
  intro d
  induction d with
  | zero =>
    intro k nn S hk hnn m1 h
    obtain ⟨nn, rfl⟩ : ∃ z, nn = z + 1 := ⟨nn - 1, by omega⟩
    refine ⟨S, ?_, fun j hj => h j (by omega), e163.rf⟩
    rw [lp_X11_isSpare_2.eq_2, if_pos (show (10 : Int32) ≤ o3 k from (o3_le (a := 10) (by omega) (by omega)).mpr (by omega))]
  | succ d ih =>
    intro k nn S hk hnn m1 h
    obtain ⟨nn, rfl⟩ : ∃ z, nn = z + 1 := ⟨nn - 1, by omega⟩
    have h1 := (hE _ (gd_mem (d := d5) hv)).1
    rw [lp_X11_isSpare_2.eq_2, if_neg (show ¬ (10 : Int32) ≤ o3 k from fun q => by have := (o3_le (a := 10) (by omega) (by omega)).mp q; omega), show f_X11_stairOf (o3 v) 0 S = some (o3 (E.getD v d5).1) from (m_stairOf (k := 0) (by omega) (by omega)).trans (congrArg some (m1.2.2.2 v hv).1), bd_some, nar1, nar0, sI_o (by omega) (by omega), sI_o (by omega) (by omega), bd_some, bd_some, o3_s]
    have key : ∀ x, x = (if decide (k = (E.getD v d5).1) = true then (1 : Int32) else 0) → ∃ T, lp_X11_isSpare_2 (o3 v) K nn (o3 (k + 1)) (pI S 163 k x) = K T ∧ bo T (fun j => decide (j = (E.getD v d5).1)) ∧ e163 S T := fun x hx => by
      obtain ⟨T, t1, t2, t3⟩ := ih (k + 1) nn (pI S 163 k x) (by omega) (by omega) (twM_163 m1 e163_p) (fun j hj => by
        by_cases e : j = k
        · rw [e, pI_eq, hx]
        · rw [pI_ne (by omega)]; exact h j (by omega))
      exact ⟨T, t1, t2, e163_p.tr t3⟩
    by_cases e : k = (E.getD v d5).1
    · rw [if_pos ((o3_inj (by omega) (by omega)).mpr e)]
      exact key 1 (by rw [decide_eq_true e, if_pos rfl])
    · rw [if_neg (fun q => e ((o3_inj (by omega) (by omega)).mp q))]
      exact key 0 (by rw [decide_eq_false e, if_neg (by decide)])
theorem m_sp {S : fS} (m1 : twM (S.1 157) F E) (hE : ∀ q ∈ E, okS F.length q) (hm : F.length ≤ 10) (hl : E.length ≤ 12) (hv : v < E.length) : ∃ T, f_X11_isSpare (o3 v) S = some (wA F E v, T) ∧ e163 S T := by
  have h1 := (hE _ (gd_mem (d := d5) hv)).1
  have h2 := (hE _ (gd_mem (d := d5) hv)).2.1
  unfold f_X11_isSpare
  obtain ⟨T, t1, t2, t3⟩ := mn_2 hE hm hl hv (K := fun S12 => lp_X11_isSpare_37 (o3 v) (fun S60 => (f_X11_stairOf (o3 v) (1 : Int32) S60).bind fun q62 => (gI S60 163 10 q62).bind fun a65 => (bZ a65).bind fun z68 => some (z68, S60)) FU (0 : Int32) S12) 10 0 FU S (by omega) (FU_lt (by omega)) m1 (fun j hj => absurd hj (Nat.not_lt_zero _))
  obtain ⟨U, u1, u2, u3⟩ := mn_37 hE hm hl hv (K := fun S60 => (f_X11_stairOf (o3 v) (1 : Int32) S60).bind fun q62 => (gI S60 163 10 q62).bind fun a65 => (bZ a65).bind fun z68 => some (z68, S60)) 10 0 FU T _ (by omega) (FU_lt (by omega)) (twM_163 m1 t3) t2
  have e2 := t3.tr u3
  refine ⟨U, (t1.trans u1).trans ?_, e2⟩
  show (f_X11_stairOf (o3 v) 1 U).bind _ = _
  rw [show f_X11_stairOf (o3 v) 1 U = some (o3 (E.getD v d5).2.1) from (m_stairOf (k := 1) (by omega) (by omega)).trans (congrArg some ((twM_163 m1 e2).2.2.2 v hv).2.1), bd_some, gI_o (by omega) (by omega), bd_some, u2 _ (by omega), nit_10 hE hm (fun j hj => by rw [decide_eq_true_eq] at hj; omega)]
  unfold wA bZ
  by_cases w : nit E v F.length (fun j => decide (j = (E.getD v d5).1)) (E.getD v d5).2.1 = true
  · rw [if_pos w, if_pos (Or.inr rfl), bd_some]
  · rw [if_neg w, if_pos (Or.inl rfl), bd_some]
end NE
def nd (F : List (Nat × Nat)) (E : List St5) : Nat → Nat → Int32 → Int32
  | 0, _, x => x
  | d + 1, k, x => nd F E d (k + 1) (if wA F E k = 0 then x ||| ((1 : Int32) <<< (o3 k &&& 31)) else x)
theorem t_26 (S : fS) (hR : Rel S) : ∃ r S2, f_X10_needed S = some r ∧ f_X11_needed S = some (r, S2) ∧ Rel S2 := by
  obtain ⟨n', s, L, M, hT, hS, hL, hM⟩ := hR
  have hS0 := hS
  obtain ⟨⟨n1, n2, n3, n4, n5, n6⟩, ⟨b1, b2, b3, b4, b5⟩, ⟨m1, m2, m3, m4⟩, d⟩ := hS
  have hc : ∀ d k nn x, k + d = s.2.1.length → d < nn → lp_X10_needed_4 S (fun u6 => some u6) nn x (o3 k) = some (nd s.1 s.2.1 d k x) := by
    intro d
    induction d with
    | zero =>
      intro k nn x hk hnn
      obtain ⟨nn, rfl⟩ : ∃ z, nn = z + 1 := ⟨nn - 1, by omega⟩
      rw [lp_X10_needed_4.eq_2, b1.2.1, if_pos ((o3_le (by omega) (by omega)).mpr (by omega))]
      rfl
    | succ d ih =>
      intro k nn x hk hnn
      obtain ⟨nn, rfl⟩ : ∃ z, nn = z + 1 := ⟨nn - 1, by omega⟩
      rw [lp_X10_needed_4.eq_2, b1.2.1, if_neg (fun q => by have := (o3_le (by omega) (by omega)).mp q; omega), c_wa b1 n4 n1 n2 (by omega), bd_some, o3_s]
      show _ = some (nd s.1 s.2.1 d (k + 1) (if wA s.1 s.2.1 k = 0 then x ||| ((1 : Int32) <<< (o3 k &&& 31)) else x))
      by_cases w : wA s.1 s.2.1 k = 0
      · rw [if_pos w, if_pos w]; exact ih (k + 1) nn _ (by omega) (by omega)
      · rw [if_neg w, if_neg w]; exact ih (k + 1) nn _ (by omega) (by omega)
  have hm : ∀ d k nn x (T : fS), k + d = s.2.1.length → d < nn → twM (T.1 157) s.1 s.2.1 → ∃ U, lp_X11_needed_4 (fun u9 S10 => some (u9, S10)) nn x (o3 k) T = some (nd s.1 s.2.1 d k x, U) ∧ e163 T U := by
    intro d
    induction d with
    | zero =>
      intro k nn x T hk hnn m1
      obtain ⟨nn, rfl⟩ : ∃ z, nn = z + 1 := ⟨nn - 1, by omega⟩
      rw [lp_X11_needed_4.eq_2, show gI T 157 158 1 = some (o3 s.2.1.length) from (gI_o (k := 1) (by omega) (by omega)).trans (congrArg some m1.2.1), bd_some, if_pos ((o3_le (by omega) (by omega)).mpr (by omega))]
      exact ⟨T, rfl, e163.rf⟩
    | succ d ih =>
      intro k nn x T hk hnn m1
      obtain ⟨nn, rfl⟩ : ∃ z, nn = z + 1 := ⟨nn - 1, by omega⟩
      obtain ⟨U, u1, u2⟩ := m_sp m1 n4 n1 n2 (v := k) (by omega)
      rw [lp_X11_needed_4.eq_2, show gI T 157 158 1 = some (o3 s.2.1.length) from (gI_o (k := 1) (by omega) (by omega)).trans (congrArg some m1.2.1), bd_some, if_neg (fun q => by have := (o3_le (by omega) (by omega)).mp q; omega), u1, bd_some, o3_s, Int32.or_zero]
      have hnd : nd s.1 s.2.1 (d + 1) k x = nd s.1 s.2.1 d (k + 1) (if wA s.1 s.2.1 k = 0 then x ||| ((1 : Int32) <<< (o3 k &&& 31)) else x) := rfl
      rw [hnd]
      obtain ⟨V, v1, v2⟩ := ih (k + 1) nn (if wA s.1 s.2.1 k = 0 then x ||| ((1 : Int32) <<< (o3 k &&& 31)) else x) U (by omega) (by omega) (twM_163 m1 u2)
      refine ⟨V, ?_, u2.tr v2⟩
      by_cases w : wA s.1 s.2.1 k = 0
      · rw [if_pos w] at v1 ⊢; rw [if_pos w]; exact v1
      · rw [if_neg w] at v1 ⊢; rw [if_neg w]; exact v1
  obtain ⟨U, u1, u2⟩ := hm s.2.1.length 0 FU 0 S (by omega) (FU_lt (by omega)) m1
  refine ⟨_, U, hc s.2.1.length 0 FU 0 (by omega) (FU_lt (by omega)), u1, n', s, L, M, ?_, ?_, ?_, ?_⟩
  · exact rTp_eq hT (u2.2 _ _ (by omega)) (u2.2 _ _ (by omega)) (fun k => u2.2 _ _ (by omega)) (fun k => u2.2 _ _ (by omega))
  · exact rSc_eq hS0 (fun a k _ _ => u2.2 a k (by omega)) (fun a k _ _ => by rw [u2.1]) (by rw [u2.2 3 3 (by omega)]; exact hS0.2.1.2.2.2.2) (fun k => u2.2 _ _ (by omega)) (fun a k _ => by rw [u2.1])
  · exact rRu_eq hL (u2.2 _ _ (by omega)) (u2.2 _ _ (by omega)) (fun a k _ _ _ => u2.2 a k (by omega)) (fun a k _ => u2.2 a k (by omega))
  · exact rIm_eq hM (fun a k _ _ => u2.2 a k (by omega)) (fun a k _ _ => by rw [u2.1]) (fun k => u2.2 _ _ (by omega)) (fun k => by rw [u2.1]) (fun k => u2.2 _ _ (by omega))
end
section
/-! meetings(): the class goes on -/
theorem and31 (y : Int64) : ∃ x, x < 2147483648 ∧ Int64.toInt32 (y &&& 2147483647) = o3 x := by
  have h1 : (y &&& 2147483647).toBitVec.toNat < 2147483648 := by
    rw [Int64.toBitVec_and, BitVec.toNat_and]
    have : (2147483647 : Int64).toBitVec.toNat = 2147483647 := by decide
    rw [this]
    exact Nat.lt_of_le_of_lt Nat.and_le_right (by omega)
  have h2 : (y &&& 2147483647).toInt = ((y &&& 2147483647).toBitVec.toNat : Int) := BitVec.toInt_eq_toNat_of_lt (by omega)
  generalize y &&& 2147483647 = w at h1 h2
  refine ⟨w.toBitVec.toNat, h1, ?_⟩
  rw [← o6_to3 h1]
  exact congrArg Int64.toInt32 (nl_eq.mpr (by rw [h2, o6_int (by omega)]))
theorem c_draw {S : fS} : ∃ a x, a < 2147483648 ∧ x < 2147483648 ∧ f_X6_draw 3 S = some (o3 a, pI S 3 3 (o3 x)) := by
  obtain ⟨x, x1, x2⟩ := and31 ((((Int32.toInt64 (S.1 3 3)) * (1103515245 : Int64)) + (12345 : Int64)))
  unfold f_X6_draw
  rw [x2, bd_some, pI_eq, show (65536 : Int32) = o3 65536 from rfl, o3_dI x1 (by omega) (by omega), bd_some]
  exact ⟨x / 65536, x, by omega, x1, rfl⟩
def eMt (S T : fS) : Prop := (∀ a k, ¬ (31 ≤ a ∧ a ≤ 36) → ¬ (a = 3 ∧ k = 3) → T.1 a k = S.1 a k) ∧ (∀ a k, ¬ (31 ≤ a ∧ a ≤ 36) → T.2 a k = S.2 a k)
theorem eMt.rf {S : fS} : eMt S S := ⟨fun _ _ _ _ => rfl, fun _ _ _ => rfl⟩
theorem eMt.tr {S T U : fS} (h : eMt S T) (g : eMt T U) : eMt S U := ⟨fun a k x y => (g.1 a k x y).trans (h.1 a k x y), fun a k x => (g.2 a k x).trans (h.2 a k x)⟩
theorem eMt_G {S T : fS} (h : ∀ p, eG 31 p S T) : eMt S T := ⟨fun a k x _ => (h (a + 1)).1 a k (by omega) (by omega) (by omega), fun a k x => (h a).2 a k (by omega) (by omega)⟩
theorem eMt_p {S : fS} {x : Int32} : eMt S (pI S 3 3 x) := ⟨fun a k _ y => pI_ne y, fun _ _ _ => rfl⟩
def mI (F : List (Nat × Nat)) (E : List St5) (n h : Nat) (T : fS) : Prop := twC T 4 F E ∧ 0 ≤ (T.1 3 3).toInt ∧ ∃ C : Cw, C.1 = n ∧ C.2.1 = h ∧ okD F.length E C ∧ cwC T 31 C
theorem oe_ok {m : Nat} {E : List St5} {C : Cw} {th s f : Nat} (hC : okD m E C) (hE : ∀ q ∈ E, okS m q) (hs : s < E.length) (h : oeI (E.getD s d5) f ≠ -1) : okD m E (cOff C th s (oeI (E.getD s d5) f)) := by
  have hq := hE _ (gd_mem (d := d5) hs)
  refine cOff_ok (D := fun x _ => if x = f then (E.getD s d5).2.2.1 else 0) (b := 0) hC hE hs ?_
  by_cases e : (E.getD s d5).1 = f
  · refine Or.inl ⟨e, ?_, ?_⟩
    · show (if (E.getD s d5).2.1 = f then (E.getD s d5).2.2.1 else 0) < 99999
      have := hq.2.2.2.2.1
      split <;> omega
    · show (E.getD s d5).2.2.1 + (if (E.getD s d5).2.1 = f then (E.getD s d5).2.2.1 else 0) = if f = f then (E.getD s d5).2.2.1 else 0
      rw [if_pos rfl, if_neg (fun z => hq.2.2.1 (e.trans z.symm))]; rfl
  · by_cases e2 : (E.getD s d5).2.1 = f
    · refine Or.inr ⟨e, e2, ?_, ?_⟩
      · show (if (E.getD s d5).1 = f then (E.getD s d5).2.2.1 else 0) < 99999
        rw [if_neg e]; omega
      · show (E.getD s d5).2.2.1 + (if (E.getD s d5).1 = f then (E.getD s d5).2.2.1 else 0) = if f = f then (E.getD s d5).2.2.1 else 0
        rw [if_pos rfl, if_neg e]; rfl
    · exfalso
      apply h
      unfold oeI
      rw [if_neg e, if_neg e2]
section CMT
variable {F : List (Nat × Nat)} {E : List St5}
theorem mI_p {n h : Nat} {T : fS} {x : Nat} (hx : x < 2147483648) (hI : mI F E n h T) : mI F E n h (pI T 3 3 (o3 x)) := by
  obtain ⟨a, b, C, c1, c2, c3, c4⟩ := hI
  refine ⟨twC_eq a (fun a k _ _ => pI_ne (by omega)) (fun _ _ _ _ => rfl), by rw [pI_eq, o3_int hx]; omega, C, c1, c2, c3, cwC_eq c4 (fun a k _ _ => pI_ne (by omega)) (fun _ => rfl)⟩
theorem cm_at {S : fS} (hT : twC S 4 F E) (hE : ∀ q ∈ E, okS F.length q) (hm : F.length ≤ 10) (hl : E.length ≤ 12) {f : Nat} (hf : f < F.length) : ∃ c, c ≤ 12 ∧ f_X8_stairsAt 4 (o3 f) S = some (o3 c) := by
  have key : ∀ d k nn c, k + d = E.length → d < nn → ∃ c', c' ≤ c + d ∧ lp_X8_stairsAt_4 4 (o3 f) S (fun u6 => some u6) nn (o3 c) (o3 k) = some (o3 c') := by
    intro d
    induction d with
    | zero =>
      intro k nn c hk hnn
      obtain ⟨nn, rfl⟩ : ∃ z, nn = z + 1 := ⟨nn - 1, by omega⟩
      rw [lp_X8_stairsAt_4.eq_2, hT.2.1, if_pos ((o3_le (by omega) (by omega)).mpr (by omega))]
      exact ⟨c, by omega, rfl⟩
    | succ d ih =>
      intro k nn c hk hnn
      obtain ⟨nn, rfl⟩ : ∃ z, nn = z + 1 := ⟨nn - 1, by omega⟩
      rw [lp_X8_stairsAt_4.eq_2, hT.2.1, if_neg (fun q => by have := (o3_le (by omega) (by omega)).mp q; omega), ch_other hT hE hm hl (by omega) (by omega), bd_some, o3_s, o3_s, show (0 : Int32) = o3 0 from rfl, o3_add]
      split
      · obtain ⟨c', c1, c2⟩ := ih (k + 1) nn (c + 1) (by omega) (by omega)
        exact ⟨c', by omega, c2⟩
      · obtain ⟨c', c1, c2⟩ := ih (k + 1) nn (c + 0) (by omega) (by omega)
        exact ⟨c', by omega, c2⟩
  obtain ⟨c, c1, c2⟩ := key E.length 0 FU 0 (by omega) (FU_lt (by omega))
  exact ⟨c, by omega, c2⟩
theorem cm_pl {S : fS} (hT : twC S 4 F E) (hE : ∀ q ∈ E, okS F.length q) (hm : F.length ≤ 10) (hl : E.length ≤ 12) {f : Nat} (hf : f < F.length) {v : Int32} : f_X8_stairInPlace 4 (o3 f) v S = some (-1) ∨ ∃ k, k < E.length ∧ f_X8_stairInPlace 4 (o3 f) v S = some (o3 k) := by
  have key : ∀ d k nn (c : Int32), k + d = E.length → d < nn → lp_X8_stairInPlace_5 4 (o3 f) v S (fun (_ : Unit) => some (-1 : Int32)) nn c (o3 k) = some (-1) ∨ ∃ i, i < E.length ∧ lp_X8_stairInPlace_5 4 (o3 f) v S (fun (_ : Unit) => some (-1 : Int32)) nn c (o3 k) = some (o3 i) := by
    intro d
    induction d with
    | zero =>
      intro k nn c hk hnn
      obtain ⟨nn, rfl⟩ : ∃ z, nn = z + 1 := ⟨nn - 1, by omega⟩
      rw [lp_X8_stairInPlace_5.eq_2, hT.2.1, if_pos ((o3_le (by omega) (by omega)).mpr (by omega))]
      exact Or.inl rfl
    | succ d ih =>
      intro k nn c hk hnn
      obtain ⟨nn, rfl⟩ : ∃ z, nn = z + 1 := ⟨nn - 1, by omega⟩
      rw [lp_X8_stairInPlace_5.eq_2, hT.2.1, if_neg (fun q => by have := (o3_le (by omega) (by omega)).mp q; omega), ch_other hT hE hm hl (by omega) (by omega), bd_some, o3_s]
      split
      · split
        · exact Or.inr ⟨k, by omega, rfl⟩
        · exact ih (k + 1) nn _ (by omega) (by omega)
      · exact ih (k + 1) nn _ (by omega) (by omega)
  exact key E.length 0 FU 0 (by omega) (FU_lt (by omega))
theorem cm_off {n h : Nat} {T : fS} (hE : ∀ q ∈ E, okS F.length q) (hm : F.length ≤ 10) (hl : E.length ≤ 12) {th f : Nat} {v : Int32} (hth : th < n) (hf : f < F.length) (hv : v = -1 ∨ ∃ k, k < E.length ∧ v = o3 k) (hI : mI F E n h T) (hp : T.1 32 th = o3 f) : ∃ r U, f_X0_setOff 31 4 (o3 th) v T = some (r, U) ∧ mI F E n h U ∧ eMt T U := by
  have hI0 := hI
  obtain ⟨a, b, C, c1, c2, c3, c4⟩ := hI
  rcases hv with hv | ⟨k, k1, k2⟩
  · refine ⟨0, T, ?_, hI0, eMt.rf⟩
    unfold f_X0_setOff
    rw [hv, if_neg (show ¬ (0 : Int32) ≤ -1 by decide), if_neg (show ¬ (0 : Int32) ≤ -1 by decide)]
  · obtain ⟨U, u1, u2, u3⟩ := ch_off c4 c3.1 a hE hm hl (th := th) (k := k) (a := f) (by omega) k1 hf ((c4.2.2 th (by omega)).1.symm.trans hp)
    rw [k2, u1]
    by_cases z : oeI (E.getD k d5) f = -1
    · rw [if_pos z]; exact ⟨0, T, rfl, hI0, eMt.rf⟩
    · rw [if_neg z]
      have eq := eMt_G u3
      refine ⟨1, U, rfl, ⟨twC_eq a (fun a k _ _ => eq.1 a k (by omega) (by omega)) (fun a k _ _ => eq.2 a k (by omega)), ?_, cOff C th k (oeI (E.getD k d5) f), c1, c2, oe_ok c3 hE k1 z, u2⟩, eq⟩
      have := (u3 1000).1 3 3 (by omega) (by omega) (by omega)
      rw [this]; exact b
theorem cm_wan {n h : Nat} (hE : ∀ q ∈ E, okS F.length q) (hm : F.length ≤ 10) (hl : E.length ≤ 12) {K : fS → Option fS} : ∀ d k nn T, k + d = n → d < nn → mI F E n h T → ∃ U, lp_X10_wander_2 K nn (o3 k) T = K U ∧ mI F E n h U ∧ eMt T U := by
  intro d
  induction d with
  | zero =>
    intro k nn T hk hnn hI
    obtain ⟨nn, rfl⟩ : ∃ z, nn = z + 1 := ⟨nn - 1, by omega⟩
    refine ⟨T, ?_, hI, eMt.rf⟩
    obtain ⟨a, b, C, c1, c2, c3, c4⟩ := hI
    have h8 := c3.1
    rw [lp_X10_wander_2.eq_2, c4.1, if_pos ((o3_le (by omega) (by omega)).mpr (by omega))]
  | succ d ih =>
    intro k nn T hk hnn hI
    obtain ⟨nn, rfl⟩ : ∃ z, nn = z + 1 := ⟨nn - 1, by omega⟩
    have hI0 := hI
    obtain ⟨a, b, C, c1, c2, c3, c4⟩ := hI
    have h8 := c3.1
    have st : f_X0_isStanding 31 (o3 k) T = some (if C.2.2.1 k < 0 then 0 else 1) := by
      unfold f_X0_isStanding
      rw [gI_o (by omega) (by omega), bd_some, show T.1 (31 + 1) k = _ from (c4.2.2 k (by omega)).1]
      by_cases z : C.2.2.1 k < 0
      · rw [if_pos z, if_pos z]
      · rw [if_neg z, if_neg z]
    rw [lp_X10_wander_2.eq_2, c4.1, if_neg (fun q => by have := (o3_le (by omega) (by omega)).mp q; omega), st, bd_some, o3_s]
    by_cases z : C.2.2.1 k < 0
    · rw [if_pos z, if_pos rfl]
      exact ih (k + 1) nn T (by omega) (by omega) hI0
    · rw [if_neg z, if_neg (show ¬ (1 : Int32) = 0 by decide)]
      obtain ⟨f, f1, f2⟩ := okT_nn (c3.2.2 k (by omega)).1 hm z
      have hp : T.1 32 k = o3 f := ((c4.2.2 k (by omega)).1).trans f2
      obtain ⟨q, x, q1, x1, dr⟩ := c_draw (S := T)
      have hI1 := mI_p (x := x) x1 hI0
      obtain ⟨c, cc1, cc2⟩ := cm_at hI1.1 hE hm hl f1
      rw [gI_o (by omega) (by omega), bd_some, hp, dr, bd_some, show (4 : Int32) = o3 4 from rfl, o3_rI q1 (by omega) (by omega), bd_some]
      dsimp only
      rw [cc2, bd_some, bd_some]
      obtain ⟨U0, u1, u2, u3⟩ := ih (k + 1) nn (pI T 3 3 (o3 x)) (by omega) (by omega) hI1
      by_cases z4 : o3 (q % 4) = (0 : Int32)
      · rw [if_pos z4, if_neg (show ¬ (1 : Int32) = 0 by decide)]
        by_cases zc : o3 c ≤ (0 : Int32)
        · rw [if_pos zc]; exact ⟨U0, u1, u2, eMt_p.tr u3⟩
        · rw [if_neg zc]
          have hc0 : c ≠ 0 := fun e => zc (by rw [e]; decide)
          obtain ⟨q', x', q1', x1', dr'⟩ := c_draw (S := pI T 3 3 (o3 x))
          rw [dr', bd_some]
          dsimp only
          rw [o3_rI q1' (by omega) hc0, bd_some]
          have hI2 := mI_p (x := x') x1' hI1
          have hv := cm_pl hI2.1 hE hm hl f1 (v := o3 (q' % c))
          have hv' : ∃ v, f_X8_stairInPlace 4 (o3 f) (o3 (q' % c)) (pI (pI T 3 3 (o3 x)) 3 3 (o3 x')) = some v ∧ (v = -1 ∨ ∃ k, k < E.length ∧ v = o3 k) := by
            rcases hv with hv | ⟨i, i1, i2⟩
            · exact ⟨_, hv, Or.inl rfl⟩
            · exact ⟨_, i2, Or.inr ⟨i, i1, rfl⟩⟩
          obtain ⟨v, v1, v2⟩ := hv'
          obtain ⟨r, W, w1, w2, w3⟩ := cm_off (th := k) (f := f) (v := v) hE hm hl (by omega) f1 v2 hI2 (by rw [pI_ne (by omega), pI_ne (by omega)]; exact hp)
          obtain ⟨U, y1, y2, y3⟩ := ih (k + 1) nn W (by omega) (by omega) w2
          refine ⟨U, ?_, y2, ((eMt_p.tr eMt_p).tr w3).tr y3⟩
          rw [v1, bd_some, show (4 : Nat) = 4 from rfl, w1, bd_some]
          exact y1
      · rw [if_neg z4, if_pos rfl]; exact ⟨U0, u1, u2, eMt_p.tr u3⟩
theorem cm_hrs {n : Nat} {p1 p2 : Int32} (hF : ∀ q ∈ F, okF q) (hE : ∀ q ∈ E, okS F.length q) (hm : F.length ≤ 10) (hl : E.length ≤ 12) {i j m : Nat} (hi : i < n) (hj : j < n) (hm2 : m < 2147483648) {K : Int32 → fS → Option (Int32 × fS)} : ∀ d k nn (c : Int32) h T, k + d = m → d < nn → h + d ≤ 10199 → mI F E n h T → ∃ r U, lp_X10_hoursMet_20 (o3 i) (o3 j) (o3 m) K nn c (o3 k) T = K r U ∧ (∃ h', mI F E n h' U) ∧ eMt T U := by
  intro d
  induction d with
  | zero =>
    intro k nn c h T hk hnn hh hI
    obtain ⟨nn, rfl⟩ : ∃ z, nn = z + 1 := ⟨nn - 1, by omega⟩
    refine ⟨c, T, ?_, ⟨h, hI⟩, eMt.rf⟩
    rw [lp_X10_hoursMet_20.eq_2, if_pos ((o3_le (by omega) (by omega)).mpr (by omega))]
  | succ d ih =>
    intro k nn c h T hk hnn hh hI
    obtain ⟨nn, rfl⟩ : ∃ z, nn = z + 1 := ⟨nn - 1, by omega⟩
    have h8 : n ≤ 8 := by
      obtain ⟨_, _, C, c1, _, c3, _⟩ := hI
      rw [← c1]; exact c3.1
    obtain ⟨U, u1, u2, u3⟩ := cm_wan (K := fun S50 => some S50) hE hm hl n 0 FU T (by omega) (FU_lt (by omega)) hI
    obtain ⟨a, b, C, c1, c2, c3, c4⟩ := u2
    obtain ⟨V, v1, v2, v3⟩ := c_pass (t := 4) (c := 31) (by omega) hF hE hm hl c3 c4 a
    have eq := eMt_G v3
    have hIV : mI F E n (h + 1) V := ⟨twC_eq a (fun a k _ _ => eq.1 a k (by omega) (by omega)) (fun a k _ _ => eq.2 a k (by omega)), by rw [(v3 1000).1 3 3 (by omega) (by omega) (by omega)]; exact b, cPs F E C, c1, by show C.2.1 + 1 = h + 1; omega, cPs_ok c3 hF hE hm hl (by omega), v2⟩
    have tog : ∃ r, f_X0_isTogether 31 (o3 i) (o3 j) V = some r := by
      unfold f_X0_isTogether f_X0_isStanding
      rw [gI_o (by omega) (by omega), gI_o (by omega) (by omega), bd_some, bd_some, bd_some]
      by_cases z : V.1 (31 + 1) i < 0
      · rw [if_pos z, bd_some, if_pos rfl]; exact ⟨_, rfl⟩
      · rw [if_neg z, bd_some, if_neg (by decide)]
        split
        · exact ⟨_, rfl⟩
        · exact ⟨_, rfl⟩
    obtain ⟨r, r1⟩ := tog
    have w1 : f_X10_wander T = some U := u1
    rw [lp_X10_hoursMet_20.eq_2, if_neg (fun q => by have := (o3_le (by omega) (by omega)).mp q; omega), w1, bd_some, v1, bd_some, r1, bd_some, o3_s]
    split
    · obtain ⟨r', W, y1, y2, y3⟩ := ih (k + 1) nn c (h + 1) V (by omega) (by omega) (by omega) hIV
      exact ⟨r', W, y1, y2, (u3.tr eq).tr y3⟩
    · obtain ⟨r', W, y1, y2, y3⟩ := ih (k + 1) nn (c + 1) (h + 1) V (by omega) (by omega) (by omega) hIV
      exact ⟨r', W, y1, y2, (u3.tr eq).tr y3⟩
theorem cm_met {n h : Nat} (hF : ∀ q ∈ F, okF q) (hE : ∀ q ∈ E, okS F.length q) (hm : F.length ≤ 10) (hl : E.length ≤ 12) {i j m : Nat} (hi : i < n) (hj : j < n) (hm2 : m ≤ 200) {C : Cw} {T : fS} (c1 : C.1 = n) (c2 : C.2.1 = h) (h9 : h ≤ 9999) (c3 : okD F.length E C) (c4 : cwC T 11 C) (hT : twC T 4 F E) (hx : 0 ≤ (T.1 3 3).toInt) : ∃ r U, f_X10_hoursMet (o3 i) (o3 j) (o3 m) T = some (r, U) ∧ cwC U 11 C ∧ twC U 4 F E ∧ 0 ≤ (U.1 3 3).toInt ∧ eMt T U := by
  obtain ⟨Y, y1, y2, y3, y4, y5⟩ := c_copyC (S := T) (b := 31) (c := 11) (by omega)
  have h8 := c3.1
  have eq : eMt T Y := ⟨fun a k x _ => (y5 a k (by omega)).1, fun a k x => (y5 a k (by omega)).2⟩
  have hI : mI F E n h Y := ⟨twC_eq hT (fun a k _ _ => eq.1 a k (by omega) (by omega)) (fun a k _ _ => eq.2 a k (by omega)), by rw [(y5 3 3 (by omega)).1]; exact hx, C, c1, c2, c3, y2.trans c4.1, y3.trans c4.2.1, fun k hk => by
    obtain ⟨z1, z2, z3, z4, z5⟩ := c4.2.2 k hk
    obtain ⟨w1, w2, w3, w4, w5⟩ := y4 k (by omega)
    exact ⟨w1.trans z1, w2.trans z2, w3.trans z3, w4.trans z4, w5.trans z5⟩⟩
  obtain ⟨r, U, u1, ⟨h', u2⟩, u3⟩ := cm_hrs (n := n) (p1 := 0) (p2 := 0) hF hE hm hl hi hj (m := m) (by omega) (K := fun u15 S16 => some (u15, S16)) m 0 FU 0 h Y (by omega) (FU_lt (by omega)) (by omega) hI
  have e2 := eq.tr u3
  refine ⟨r, U, ?_, cwC_eq c4 (fun a k _ _ => e2.1 a k (by omega) (by omega)) (fun k => e2.2 _ k (by omega)), u2.1, u2.2.1, e2⟩
  unfold f_X10_hoursMet
  rw [y1, bd_some]
  exact u1
end CMT
end
section
/-! meetings(): the reference goes on -/
def eMm (S T : fS) : Prop := (∀ a k, ¬ (a = 157 ∧ (k = 3 ∨ (90 ≤ k ∧ k < 122))) → ¬ (a = 145 ∧ k = 23) → T.1 a k = S.1 a k) ∧ (∀ a k, a ≠ 155 → a ≠ 156 → a ≠ 158 → ¬ (a = 145 ∧ k = 37) → T.2 a k = S.2 a k)
theorem eMm.rf {S : fS} : eMm S S := ⟨fun _ _ _ _ => rfl, fun _ _ _ _ _ _ => rfl⟩
theorem eMm.tr {S T U : fS} (h : eMm S T) (g : eMm T U) : eMm S U := ⟨fun a k x y => (g.1 a k x y).trans (h.1 a k x y), fun a k x y z w => (g.2 a k x y z w).trans (h.2 a k x y z w)⟩
theorem eMm_I {S T : fS} (h : eI S T) : eMm S T := ⟨h.1, fun a k x y z _ => h.2 a k x y z⟩
theorem eMm_p {S : fS} {x : Int64} : eMm S (pL S 145 37 x) := ⟨fun _ _ _ _ => rfl, fun a k _ _ _ w => pL_ne w⟩
def mJ (F : List (Nat × Nat)) (E : List St5) (n h : Nat) (T : fS) : Prop := twM (T.1 157) F E ∧ (∃ x, x < 2147483648 ∧ T.2 145 37 = o6 x) ∧ ∃ C : Cw, C.1 = n ∧ C.2.1 = h ∧ okD F.length E C ∧ cwM (T.1 157) (T.2 158) C
section MMT
variable {F : List (Nat × Nat)} {E : List St5}
theorem mJ_p {n h : Nat} {T : fS} {x : Nat} (hx : x < 2147483648) (hI : mJ F E n h T) : mJ F E n h (pL T 145 37 (o6 x)) := by
  obtain ⟨a, b, C, c1, c2, c3, c4⟩ := hI
  exact ⟨a, ⟨x, hx, pL_eq⟩, C, c1, c2, c3, c4⟩
theorem mJ_I {n h : Nat} {T U : fS} {C : Cw} (hm : F.length ≤ 10) (hl : E.length ≤ 12) (hI : mJ F E n h T) {h' : Nat} (c1 : C.1 = n) (c2 : C.2.1 = h') (c3 : okD F.length E C) (c4 : cwM (U.1 157) (U.2 158) C) (e : eI T U) : mJ F E n h' U := by
  obtain ⟨a, ⟨x, x1, x2⟩, _⟩ := hI
  exact ⟨twM_eq hm hl a (fun k hk => e.1 _ _ (by omega) (by omega)), ⟨x, x1, (e.2 _ _ (by omega) (by omega) (by omega)).trans x2⟩, C, c1, c2, c3, c4⟩
theorem m_draw {S : fS} {x : Nat} (hx : x < 2147483648) (h : S.2 145 37 = o6 x) : ∃ a y, a < 2147483648 ∧ y < 2147483648 ∧ f_X11_draw S = some (o6 a, pL S 145 37 (o6 y)) := by
  unfold f_X11_draw
  have hb : x * 1103515245 + 12345 < 9223372036854775808 := by omega
  rw [h, show (1103515245 : Int64) = o6 1103515245 from rfl, show (12345 : Int64) = o6 12345 from rfl, show (2147483648 : Int64) = o6 2147483648 from rfl, show (65536 : Int64) = o6 65536 from rfl, o6_mul, o6_add, o6_rL hb (by omega) (by omega), bd_some, bd_some, pL_eq]
  have hy : (x * 1103515245 + 12345) % 2147483648 < 2147483648 := Nat.mod_lt _ (by omega)
  generalize (x * 1103515245 + 12345) % 2147483648 = y at hy
  rw [o6_dL (by omega) (by omega) (by omega), bd_some]
  exact ⟨y / 65536, y, by omega, hy, rfl⟩
/-- how many stairs from k on are at f -/
def ca (E : List St5) (f : Nat) : Nat → Nat → Nat
  | 0, _ => 0
  | d + 1, k => (if oeI (E.getD k d5) f < 0 then 0 else 1) + ca E f d (k + 1)
theorem ca_le {f : Nat} : ∀ d k, ca E f d k ≤ d := by
  intro d
  induction d with
  | zero => intro k; exact Nat.le_refl 0
  | succ d ih =>
    intro k
    have := ih (k + 1)
    show (if oeI (E.getD k d5) f < 0 then 0 else 1) + ca E f d (k + 1) ≤ d + 1
    split <;> omega
theorem mm_30 {T : fS} {p1 : Int32} (hT : twM (T.1 157) F E) (hE : ∀ q ∈ E, okS F.length q) (hm : F.length ≤ 10) (hl : E.length ≤ 12) {f : Nat} (hf : f < F.length) {K : Int32 → fS → Option fS} : ∀ d k nn c, k + d = E.length → d < nn → lp_X11_wanders_30 p1 (o3 f) K nn (o3 c) (o3 k) T = K (o3 (c + ca E f d k)) T := by
  have h1 : gI T 157 158 1 = some (o3 E.length) := (gI_o (k := 1) (by omega) (by omega)).trans (congrArg some hT.2.1)
  intro d
  induction d with
  | zero =>
    intro k nn c hk hnn
    obtain ⟨nn, rfl⟩ : ∃ z, nn = z + 1 := ⟨nn - 1, by omega⟩
    rw [lp_X11_wanders_30.eq_2, h1, bd_some, if_pos ((o3_le (by omega) (by omega)).mpr (by omega))]
    rfl
  | succ d ih =>
    intro k nn c hk hnn
    obtain ⟨nn, rfl⟩ : ∃ z, nn = z + 1 := ⟨nn - 1, by omega⟩
    rw [lp_X11_wanders_30.eq_2, h1, bd_some, if_neg (fun q => by have := (o3_le (by omega) (by omega)).mp q; omega), mh_other hT hE hm hl (by omega) (by omega), bd_some, o3_s, o3_s]
    have e : ca E f (d + 1) k = (if oeI (E.getD k d5) f < 0 then 0 else 1) + ca E f d (k + 1) := rfl
    rw [e]
    by_cases z : oeI (E.getD k d5) f < 0
    · rw [if_pos z, if_pos z, show o3 c + (0 : Int32) = o3 c from by rw [show (0 : Int32) = o3 0 from rfl, o3_add]; rfl, ih (k + 1) nn c (by omega) (by omega), Nat.zero_add]
    · rw [if_neg z, if_neg z, ih (k + 1) nn (c + 1) (by omega) (by omega), Nat.add_assoc]
theorem mm_83 {T : fS} {p1 : Int32} (hT : twM (T.1 157) F E) (hE : ∀ q ∈ E, okS F.length q) (hm : F.length ≤ 10) (hl : E.length ≤ 12) {f : Nat} (hf : f < F.length) {K : Int32 → fS → Option fS} : ∀ d k nn j, k + d = E.length → d < nn → j < ca E f d k → ∃ i, i < E.length ∧ ¬ oeI (E.getD i d5) f < 0 ∧ lp_X11_wanders_83 p1 (o3 f) K nn (o3 j) (o3 k) T = K (o3 i) T := by
  intro d
  induction d with
  | zero => intro k nn j _ _ h; exact absurd h (Nat.not_lt_zero _)
  | succ d ih =>
    intro k nn j hk hnn h
    obtain ⟨nn, rfl⟩ : ∃ z, nn = z + 1 := ⟨nn - 1, by omega⟩
    have hc := ca_le (E := E) (f := f) d (k + 1)
    have e : ca E f (d + 1) k = (if oeI (E.getD k d5) f < 0 then 0 else 1) + ca E f d (k + 1) := rfl
    rw [e] at h
    rw [lp_X11_wanders_83.eq_2, mh_other hT hE hm hl (by omega) (by omega), bd_some, bd_some, o3_s]
    by_cases z : oeI (E.getD k d5) f < 0
    · rw [if_pos z] at h
      rw [if_pos z, if_pos z, show o3 j - (0 : Int32) = o3 j from by rw [show (0 : Int32) = o3 0 from rfl, o3_sub (by omega)]; rfl]
      exact ih (k + 1) nn j (by omega) (by omega) (by omega)
    · rw [if_neg z] at h
      rw [if_neg z, if_neg z]
      by_cases zj : j = 0
      · rw [if_pos (show o3 j ≤ (0 : Int32) by rw [zj]; decide)]
        exact ⟨k, by omega, z, rfl⟩
      · rw [if_neg (show ¬ o3 j ≤ (0 : Int32) from fun q => zj (by have := (o3_le (b := 0) (by omega) (by omega)).mp q; omega)), show o3 j - (1 : Int32) = o3 (j - 1) from by rw [show (1 : Int32) = o3 1 from rfl, o3_sub (by omega)]]
        exact ih (k + 1) nn (j - 1) (by omega) (by omega) (by omega)
theorem mm_wan {n h : Nat} (hE : ∀ q ∈ E, okS F.length q) (hm : F.length ≤ 10) (hl : E.length ≤ 12) {k : Nat} (hk : k < n) {T : fS} (hI : mJ F E n h T) : ∃ U, f_X11_wanders (o3 k) T = some U ∧ mJ F E n h U ∧ eMm T U := by
  have hI0 := hI
  obtain ⟨a, ⟨x, x1, x2⟩, C, c1, c2, c3, c4⟩ := hI
  have h8 := c3.1
  have th : f_X11_thingOf (o3 k) 0 T = some (C.2.2.1 k) := (mw_thing (a := 0) (by omega) (by omega)).trans (congrArg some (c4.2.2 k (by omega)).1)
  unfold f_X11_wanders
  rw [th, bd_some]
  by_cases z : C.2.2.1 k < 0
  · rw [if_pos z]; exact ⟨T, rfl, hI0, eMm.rf⟩
  · rw [if_neg z]
    obtain ⟨f, f1, f2⟩ := okT_nn (c3.2.2 k (by omega)).1 hm z
    obtain ⟨q, y, q1, y1, dr⟩ := m_draw x1 x2
    have hI1 := mJ_p y1 hI0
    rw [dr, bd_some]
    dsimp only
    rw [show (4 : Int64) = o6 4 from rfl, o6_rL (by omega) (by omega) (by omega), bd_some]
    by_cases z4 : o6 (q % 4) = (0 : Int64)
    · rw [if_pos z4, f2, show (0 : Int32) = o3 0 from rfl, mm_30 hI1.1 hE hm hl f1 E.length 0 FU 0 (by omega) (FU_lt (by omega)), Nat.zero_add]
      have hc := ca_le (E := E) (f := f) E.length 0
      by_cases zc : o3 (ca E f E.length 0) = o3 0
      · rw [if_pos zc]; exact ⟨_, rfl, hI1, eMm_p⟩
      · rw [if_neg zc]
        have hc0 : ca E f E.length 0 ≠ 0 := fun e => zc (by rw [e])
        obtain ⟨q', y', q1', y1', dr'⟩ := m_draw (S := pL T 145 37 (o6 y)) y1 pL_eq
        have hI2 := mJ_p y1' hI1
        rw [dr', bd_some]
        dsimp only
        have hmd : q' % ca E f E.length 0 < ca E f E.length 0 := Nat.mod_lt _ (by omega)
        rw [o6_of3 (by omega), o6_rL (by omega) (by omega) hc0, bd_some, o6_to3 (by omega)]
        obtain ⟨i, i1, i2, i3⟩ := mm_83 (p1 := o3 k) hI2.1 hE hm hl f1 (K := fun u43 S44 => (f_X11_setsOff (o3 k) u43 S44).bind fun q46 => some q46) E.length 0 FU (q' % ca E f E.length 0) (by omega) (FU_lt (by omega)) (Nat.mod_lt _ (by omega))
        have i2' : oeI (E.getD i d5) f ≠ -1 := fun e => i2 (by rw [e]; decide)
        obtain ⟨U, u1, u2, u3⟩ := mh_off (S := pL (pL T 145 37 (o6 y)) 145 37 (o6 y')) c4 c3.1 hI2.1 hE hm hl (th := k) (k := i) (a := f) (by omega) i1 f1 f2
        refine ⟨U, i3.trans ?_, mJ_I hm hl hI2 (C := cOff C k i (oeI (E.getD i d5) f)) c1 c2 (oe_ok c3 hE i1 i2') u2 u3, (eMm_p.tr eMm_p).tr (eMm_I u3)⟩
        show (f_X11_setsOff (o3 k) (o3 i) _).bind _ = _
        rw [u1, bd_some]
    · rw [if_neg z4]; exact ⟨_, rfl, hI1, eMm_p⟩
theorem mm_105 {n h : Nat} {p1 p2 p3 p4 p5 p6 p7 p8 p9 p10 : Int32} (hE : ∀ q ∈ E, okS F.length q) (hm : F.length ≤ 10) (hl : E.length ≤ 12) {K : fS → Option (Int32 × fS)} : ∀ d k nn T, k + d = n → d < nn → mJ F E n h T → ∃ U, lp_X11_meetings_105 p1 p2 p3 p4 p5 p6 p7 p8 p9 p10 K nn (o3 k) T = K U ∧ mJ F E n h U ∧ eMm T U := by
  intro d
  induction d with
  | zero =>
    intro k nn T hk hnn hI
    obtain ⟨nn, rfl⟩ : ∃ z, nn = z + 1 := ⟨nn - 1, by omega⟩
    refine ⟨T, ?_, hI, eMm.rf⟩
    obtain ⟨a, b, C, c1, c2, c3, c4⟩ := hI
    have h8 := c3.1
    rw [lp_X11_meetings_105.eq_2, show gI T 157 158 2 = some (o3 C.1) from (gI_o (k := 2) (by omega) (by omega)).trans (congrArg some c4.1), bd_some, if_pos ((o3_le (by omega) (by omega)).mpr (by omega))]
  | succ d ih =>
    intro k nn T hk hnn hI
    obtain ⟨nn, rfl⟩ : ∃ z, nn = z + 1 := ⟨nn - 1, by omega⟩
    have hI0 := hI
    obtain ⟨a, b, C, c1, c2, c3, c4⟩ := hI
    have h8 := c3.1
    obtain ⟨U, u1, u2, u3⟩ := mm_wan hE hm hl (k := k) (by omega) hI0
    obtain ⟨V, v1, v2, v3⟩ := ih (k + 1) nn U (by omega) (by omega) u2
    refine ⟨V, ?_, v2, u3.tr v3⟩
    rw [lp_X11_meetings_105.eq_2, show gI T 157 158 2 = some (o3 C.1) from (gI_o (k := 2) (by omega) (by omega)).trans (congrArg some c4.1), bd_some, if_neg (fun q => by have := (o3_le (by omega) (by omega)).mp q; omega), u1, bd_some, o3_s]
    exact v1
theorem mm_95 {n : Nat} {p3 p5 p6 p7 p8 : Int32} (hF : ∀ q ∈ F, okF q) (hE : ∀ q ∈ E, okS F.length q) (hm : F.length ≤ 10) (hl : E.length ≤ 12) {i j m : Nat} (hi : i < n) (hj : j < n) (hm2 : m < 2147483648) {K : Int32 → fS → Option (Int32 × fS)} : ∀ d k nn (c : Int32) h T, k + d = m → d < nn → h + d ≤ 10199 → mJ F E n h T → ∃ r U, lp_X11_meetings_95 (o3 i) (o3 j) p3 (o3 m) p5 p6 p7 p8 K nn c (o3 k) T = K r U ∧ (∃ h', mJ F E n h' U) ∧ eMm T U := by
  intro d
  induction d with
  | zero =>
    intro k nn c h T hk hnn hh hI
    obtain ⟨nn, rfl⟩ : ∃ z, nn = z + 1 := ⟨nn - 1, by omega⟩
    refine ⟨c, T, ?_, ⟨h, hI⟩, eMm.rf⟩
    rw [lp_X11_meetings_95.eq_2, if_pos ((o3_le (by omega) (by omega)).mpr (by omega))]
  | succ d ih =>
    intro k nn c h T hk hnn hh hI
    obtain ⟨nn, rfl⟩ : ∃ z, nn = z + 1 := ⟨nn - 1, by omega⟩
    have h8 : n ≤ 8 := by
      obtain ⟨_, _, C, c1, _, c3, _⟩ := hI
      rw [← c1]; exact c3.1
    rw [lp_X11_meetings_95.eq_2, if_neg (fun q => by have := (o3_le (by omega) (by omega)).mp q; omega), o3_s]
    obtain ⟨U, u1, u2, u3⟩ := mm_105 (p1 := o3 i) (p2 := o3 j) (p3 := p3) (p4 := o3 m) (p5 := p5) (p6 := p6) (p7 := p7) (p8 := p8) (p9 := c) (p10 := o3 k) hE hm hl (K := (fun S40 => (f_X11_ageAll  S40).bind fun q42 =>
    (f_X11_thingOf (o3 i) (0 : Int32) q42).bind fun q45 =>
    if q45 < (0 : Int32) then (lp_X11_meetings_95 (o3 i) (o3 j) p3 (o3 m) p5 p6 p7 p8 K nn (c + (0 : Int32)) (o3 (k + 1)) q42) else
    ((f_X11_thingOf (o3 i) (0 : Int32) q42).bind fun q49 =>
    (f_X11_thingOf (o3 j) (0 : Int32) q42).bind fun q52 =>
    if q49 = q52 then (lp_X11_meetings_95 (o3 i) (o3 j) p3 (o3 m) p5 p6 p7 p8 K nn (c + (1 : Int32)) (o3 (k + 1)) q42) else
    (lp_X11_meetings_95 (o3 i) (o3 j) p3 (o3 m) p5 p6 p7 p8 K nn (c + (0 : Int32)) (o3 (k + 1)) q42)))) n 0 FU T (by omega) (FU_lt (by omega)) hI
    have u2' := u2
    obtain ⟨a, b, C, c1, c2, c3, c4⟩ := u2
    obtain ⟨V, v1, v2, v3⟩ := m_pass hF hE hm hl c3 c4 a
    have hIV : mJ F E n (h + 1) V := mJ_I hm hl u2' (C := cPs F E C) c1 (by show C.2.1 + 1 = h + 1; omega) (cPs_ok c3 hF hE hm hl (by omega)) v2 v3
    have t1 : f_X11_thingOf (o3 i) 0 V = some _ := mw_thing (a := 0) (by omega) (by omega)
    have t2 : f_X11_thingOf (o3 j) 0 V = some _ := mw_thing (a := 0) (by omega) (by omega)
    have fin : ∀ c', ∃ r W, lp_X11_meetings_95 (o3 i) (o3 j) p3 (o3 m) p5 p6 p7 p8 K nn c' (o3 (k + 1)) V = K r W ∧ (∃ h', mJ F E n h' W) ∧ eMm T W := fun c' => by
      obtain ⟨r', W, y1, y2, y3⟩ := ih (k + 1) nn c' (h + 1) V (by omega) (by omega) (by omega) hIV
      exact ⟨r', W, y1, y2, (u3.tr (eMm_I v3)).tr y3⟩
    have u1 := (show lp_X11_meetings_105 (o3 i) (o3 j) p3 (o3 m) p5 p6 p7 p8 c (o3 k) _ FU (0 : Int32) T = _ from u1)
    rw [u1, v1, bd_some, t1, bd_some, bd_some, t2, bd_some]
    split
    · exact fin _
    · split
      · exact fin _
      · exact fin _
theorem mk_2 {K : fS → Option fS} : ∀ d k nn (S : fS), k + d = 158 → d < nn → (∀ j, j < k → S.1 159 j = S.1 157 j) → ∃ T, lp_X11_keeps_2 K nn (o3 k) S = K T ∧ (∀ j, j < 158 → T.1 159 j = S.1 157 j) ∧ (∀ a j, a ≠ 159 → T.1 a j = S.1 a j) ∧ T.2 = S.2 := by
  intro d
  induction d with
  | zero =>
    intro k nn S hk hnn h
    obtain ⟨nn, rfl⟩ : ∃ z, nn = z + 1 := ⟨nn - 1, by omega⟩
    rw [lp_X11_keeps_2.eq_2, if_pos (show (158 : Int32) ≤ o3 k from (o3_le (a := 158) (by omega) (by omega)).mpr (by omega))]
    exact ⟨S, rfl, fun j hj => h j (by omega), fun _ _ _ => rfl, rfl⟩
  | succ d ih =>
    intro k nn S hk hnn h
    obtain ⟨nn, rfl⟩ : ∃ z, nn = z + 1 := ⟨nn - 1, by omega⟩
    rw [lp_X11_keeps_2.eq_2, if_neg (show ¬ (158 : Int32) ≤ o3 k from fun q => by have := (o3_le (a := 158) (by omega) (by omega)).mp q; omega), gI_o (by omega) (by omega), bd_some, sI_o (by omega) (by omega), bd_some, o3_s]
    obtain ⟨T, t1, t2, t3, t4⟩ := ih (k + 1) nn (pI S 159 k (S.1 157 k)) (by omega) (by omega) (fun j hj => by
      rw [pI_ne (a := 159) (b := 157) (by omega)]
      by_cases e : j = k
      · rw [e, pI_eq]
      · rw [pI_ne (by omega)]; exact h j (by omega))
    exact ⟨T, t1, fun j hj => by rw [t2 j hj, pI_ne (by omega)], fun a j ha => by rw [t3 a j ha, pI_ne (by omega)], t4⟩
theorem mk_29 {K : fS → Option fS} : ∀ d k nn (S : fS), k + d = 8 → d < nn → (∀ j, j < k → S.2 160 j = S.2 158 j) → ∃ T, lp_X11_keeps_29 K nn (o3 k) S = K T ∧ (∀ j, j < 8 → T.2 160 j = S.2 158 j) ∧ (∀ a j, a ≠ 160 → T.2 a j = S.2 a j) ∧ T.1 = S.1 := by
  intro d
  induction d with
  | zero =>
    intro k nn S hk hnn h
    obtain ⟨nn, rfl⟩ : ∃ z, nn = z + 1 := ⟨nn - 1, by omega⟩
    rw [lp_X11_keeps_29.eq_2, if_pos (show (8 : Int32) ≤ o3 k from (o3_le (a := 8) (by omega) (by omega)).mpr (by omega))]
    exact ⟨S, rfl, fun j hj => h j (by omega), fun _ _ _ => rfl, rfl⟩
  | succ d ih =>
    intro k nn S hk hnn h
    obtain ⟨nn, rfl⟩ : ∃ z, nn = z + 1 := ⟨nn - 1, by omega⟩
    rw [lp_X11_keeps_29.eq_2, if_neg (show ¬ (8 : Int32) ≤ o3 k from fun q => by have := (o3_le (a := 8) (by omega) (by omega)).mp q; omega), gL_o (by omega) (by omega), bd_some, sL_o (by omega) (by omega), bd_some, o3_s]
    obtain ⟨T, t1, t2, t3, t4⟩ := ih (k + 1) nn (pL S 160 k (S.2 158 k)) (by omega) (by omega) (fun j hj => by
      rw [pL_ne (a := 160) (b := 158) (by omega)]
      by_cases e : j = k
      · rw [e, pL_eq]
      · rw [pL_ne (by omega)]; exact h j (by omega))
    exact ⟨T, t1, fun j hj => by rw [t2 j hj, pL_ne (by omega)], fun a j ha => by rw [t3 a j ha, pL_ne (by omega)], t4⟩
theorem mb_2 {K : fS → Option fS} : ∀ d k nn (S : fS), k + d = 158 → d < nn → (∀ j, j < k → S.1 157 j = S.1 159 j) → ∃ T, lp_X11_putsBack_2 K nn (o3 k) S = K T ∧ (∀ j, j < 158 → T.1 157 j = S.1 159 j) ∧ (∀ a j, a ≠ 157 → T.1 a j = S.1 a j) ∧ T.2 = S.2 := by
  intro d
  induction d with
  | zero =>
    intro k nn S hk hnn h
    obtain ⟨nn, rfl⟩ : ∃ z, nn = z + 1 := ⟨nn - 1, by omega⟩
    rw [lp_X11_putsBack_2.eq_2, if_pos (show (158 : Int32) ≤ o3 k from (o3_le (a := 158) (by omega) (by omega)).mpr (by omega))]
    exact ⟨S, rfl, fun j hj => h j (by omega), fun _ _ _ => rfl, rfl⟩
  | succ d ih =>
    intro k nn S hk hnn h
    obtain ⟨nn, rfl⟩ : ∃ z, nn = z + 1 := ⟨nn - 1, by omega⟩
    rw [lp_X11_putsBack_2.eq_2, if_neg (show ¬ (158 : Int32) ≤ o3 k from fun q => by have := (o3_le (a := 158) (by omega) (by omega)).mp q; omega), gI_o (by omega) (by omega), bd_some, sI_o (by omega) (by omega), bd_some, o3_s]
    obtain ⟨T, t1, t2, t3, t4⟩ := ih (k + 1) nn (pI S 157 k (S.1 159 k)) (by omega) (by omega) (fun j hj => by
      rw [pI_ne (a := 157) (b := 159) (by omega)]
      by_cases e : j = k
      · rw [e, pI_eq]
      · rw [pI_ne (by omega)]; exact h j (by omega))
    exact ⟨T, t1, fun j hj => by rw [t2 j hj, pI_ne (by omega)], fun a j ha => by rw [t3 a j ha, pI_ne (by omega)], t4⟩
theorem mb_29 {K : fS → Option fS} : ∀ d k nn (S : fS), k + d = 8 → d < nn → (∀ j, j < k → S.2 158 j = S.2 160 j) → ∃ T, lp_X11_putsBack_29 K nn (o3 k) S = K T ∧ (∀ j, j < 8 → T.2 158 j = S.2 160 j) ∧ (∀ a j, a ≠ 158 → T.2 a j = S.2 a j) ∧ T.1 = S.1 := by
  intro d
  induction d with
  | zero =>
    intro k nn S hk hnn h
    obtain ⟨nn, rfl⟩ : ∃ z, nn = z + 1 := ⟨nn - 1, by omega⟩
    rw [lp_X11_putsBack_29.eq_2, if_pos (show (8 : Int32) ≤ o3 k from (o3_le (a := 8) (by omega) (by omega)).mpr (by omega))]
    exact ⟨S, rfl, fun j hj => h j (by omega), fun _ _ _ => rfl, rfl⟩
  | succ d ih =>
    intro k nn S hk hnn h
    obtain ⟨nn, rfl⟩ : ∃ z, nn = z + 1 := ⟨nn - 1, by omega⟩
    rw [lp_X11_putsBack_29.eq_2, if_neg (show ¬ (8 : Int32) ≤ o3 k from fun q => by have := (o3_le (a := 8) (by omega) (by omega)).mp q; omega), gL_o (by omega) (by omega), bd_some, sL_o (by omega) (by omega), bd_some, o3_s]
    obtain ⟨T, t1, t2, t3, t4⟩ := ih (k + 1) nn (pL S 158 k (S.2 160 k)) (by omega) (by omega) (fun j hj => by
      rw [pL_ne (a := 158) (b := 160) (by omega)]
      by_cases e : j = k
      · rw [e, pL_eq]
      · rw [pL_ne (by omega)]; exact h j (by omega))
    exact ⟨T, t1, fun j hj => by rw [t2 j hj, pL_ne (by omega)], fun a j ha => by rw [t3 a j ha, pL_ne (by omega)], t4⟩
theorem m_keep {S : fS} : ∃ T, f_X11_keeps S = some T ∧ (∀ j, j < 158 → T.1 159 j = S.1 157 j) ∧ (∀ j, j < 8 → T.2 160 j = S.2 158 j) ∧ (∀ a j, a ≠ 159 → T.1 a j = S.1 a j) ∧ (∀ a j, a ≠ 160 → T.2 a j = S.2 a j) := by
  obtain ⟨T, t1, t2, t3, t4⟩ := mk_2 (K := fun S8 => lp_X11_keeps_29 (fun S17 => some S17) FU (0 : Int32) S8) 158 0 FU S (by omega) (FU_lt (by omega)) (fun j hj => absurd hj (Nat.not_lt_zero _))
  obtain ⟨U, u1, u2, u3, u4⟩ := mk_29 (K := fun S17 => some S17) 8 0 FU T (by omega) (FU_lt (by omega)) (fun j hj => absurd hj (Nat.not_lt_zero _))
  exact ⟨U, t1.trans u1, fun j hj => by rw [u4]; exact t2 j hj, fun j hj => by rw [u2 j hj, t4], fun a j ha => by rw [u4]; exact t3 a j ha, fun a j ha => by rw [u3 a j ha, t4]⟩
theorem m_putb {S : fS} : ∃ T, f_X11_putsBack S = some T ∧ (∀ j, j < 158 → T.1 157 j = S.1 159 j) ∧ (∀ j, j < 8 → T.2 158 j = S.2 160 j) ∧ (∀ a j, a ≠ 157 → T.1 a j = S.1 a j) ∧ (∀ a j, a ≠ 158 → T.2 a j = S.2 a j) := by
  obtain ⟨T, t1, t2, t3, t4⟩ := mb_2 (K := fun S8 => lp_X11_putsBack_29 (fun S17 => some S17) FU (0 : Int32) S8) 158 0 FU S (by omega) (FU_lt (by omega)) (fun j hj => absurd hj (Nat.not_lt_zero _))
  obtain ⟨U, u1, u2, u3, u4⟩ := mb_29 (K := fun S17 => some S17) 8 0 FU T (by omega) (FU_lt (by omega)) (fun j hj => absurd hj (Nat.not_lt_zero _))
  exact ⟨U, t1.trans u1, fun j hj => by rw [u4]; exact t2 j hj, fun j hj => by rw [u2 j hj, t4], fun a j ha => by rw [u4]; exact t3 a j ha, fun a j ha => by rw [u3 a j ha, t4]⟩
/-- kept, and what stays as it was -/
def eMk (S T : fS) : Prop := (∀ j, j < 158 → T.1 157 j = S.1 157 j) ∧ (∀ j, j < 8 → T.2 158 j = S.2 158 j) ∧ (∀ j, j < 158 → T.1 159 j = S.1 157 j) ∧ (∀ j, j < 8 → T.2 160 j = S.2 158 j) ∧ (∀ a k, a ≠ 157 → a ≠ 159 → ¬ (a = 145 ∧ k = 23) → T.1 a k = S.1 a k) ∧ (∀ a k, a ≠ 155 → a ≠ 156 → a ≠ 158 → a ≠ 160 → ¬ (a = 145 ∧ k = 37) → T.2 a k = S.2 a k)
theorem cwM_k {I J : Nat → Int32} {A B : Nat → Int64} {C : Cw} (h8 : C.1 ≤ 8) (h : cwM I A C) (h1 : ∀ k, k < 158 → J k = I k) (h2 : ∀ k, k < 8 → B k = A k) : cwM J B C := by
  refine ⟨(h1 _ (by omega)).trans h.1, (h1 _ (by omega)).trans h.2.1, fun k hk => ?_⟩
  obtain ⟨a, b, c, d, e⟩ := h.2.2 k hk
  exact ⟨(h1 _ (by omega)).trans a, (h1 _ (by omega)).trans b, (h1 _ (by omega)).trans c, (h1 _ (by omega)).trans d, (h2 _ (by omega)).trans e⟩
theorem mm_83r {S : fS} {n h : Nat} {p5 : Int32} (hF : ∀ q ∈ F, okF q) (hE : ∀ q ∈ E, okS F.length q) (hm : F.length ≤ 10) (hl : E.length ≤ 12) {i j m r : Nat} (hi : i < n) (hj : j < n) (hm2 : m ≤ 200) (hr : r < 2147483648) (h9 : h ≤ 9999) {C : Cw} (c1 : C.1 = n) (c2 : C.2.1 = h) (c3 : okD F.length E C) (c4 : cwM (S.1 157) (S.2 158) C) (c5 : twM (S.1 157) F E) {K : Int32 → Int32 → fS → Option (Int32 × fS)} : ∀ d k nn (x y : Int32) T, k + d = r → d < nn → (∃ x, x < 2147483648 ∧ T.2 145 37 = o6 x) → eMk S T → ∃ x' y' U, lp_X11_meetings_83 (o3 i) (o3 j) (o3 r) (o3 m) p5 K nn x y (o3 k) T = K x' y' U ∧ eMk S U := by
  intro d
  induction d with
  | zero =>
    intro k nn x y T hk hnn hx hT
    obtain ⟨nn, rfl⟩ : ∃ z, nn = z + 1 := ⟨nn - 1, by omega⟩
    rw [lp_X11_meetings_83.eq_2, if_pos ((o3_le (by omega) (by omega)).mpr (by omega))]
    exact ⟨x, y, T, rfl, hT⟩
  | succ d ih =>
    intro k nn x y T hk hnn hx hT
    obtain ⟨nn, rfl⟩ : ∃ z, nn = z + 1 := ⟨nn - 1, by omega⟩
    have h8 := c3.1
    rw [lp_X11_meetings_83.eq_2, if_neg (fun q => by have := (o3_le (by omega) (by omega)).mp q; omega), o3_s]
    have hI : mJ F E n h T := ⟨twM_eq hm hl c5 (fun k hk => hT.1 k (by omega)), hx, C, c1, c2, c3, cwM_k c3.1 c4 hT.1 hT.2.1⟩
    obtain ⟨u, U, u1, ⟨h', u2⟩, u3⟩ := mm_95 (p3 := o3 r) (p5 := p5) (p6 := x) (p7 := y) (p8 := o3 k) hF hE hm hl hi hj (m := m) (by omega) (K := (fun u56 S57 => if u56 ≤ (0 : Int32) then ((f_X11_putsBack  S57).bind fun q60 =>
    lp_X11_meetings_83 (o3 i) (o3 j) (o3 r) (o3 m) p5 K nn (x + u56) (y + (0 : Int32)) (o3 (k + 1)) q60) else
    ((f_X11_putsBack  S57).bind fun q63 =>
    lp_X11_meetings_83 (o3 i) (o3 j) (o3 r) (o3 m) p5 K nn (x + u56) (y + (1 : Int32)) (o3 (k + 1)) q63))) m 0 FU 0 h T (by omega) (FU_lt (by omega)) (by omega) hI
    obtain ⟨V, v1, v2, v3, v4, v5⟩ := m_putb (S := U)
    have k1 : ∀ j, j < 158 → U.1 159 j = S.1 157 j := fun j hj => (u3.1 _ _ (by omega) (by omega)).trans (hT.2.2.1 j hj)
    have k2 : ∀ j, j < 8 → U.2 160 j = S.2 158 j := fun j hj => (u3.2 _ _ (by omega) (by omega) (by omega) (by omega)).trans (hT.2.2.2.1 j hj)
    have hV : eMk S V := ⟨fun j hj => (v2 j hj).trans (k1 j hj), fun j hj => (v3 j hj).trans (k2 j hj), fun j hj => (v4 _ _ (by omega)).trans (k1 j hj), fun j hj => (v5 _ _ (by omega)).trans (k2 j hj), fun a k x y z => (v4 a k x).trans ((u3.1 a k (by omega) z).trans (hT.2.2.2.2.1 a k x y z)), fun a k x y z w q => (v5 a k z).trans ((u3.2 a k x y z q).trans (hT.2.2.2.2.2 a k x y z w q))⟩
    have hxV : ∃ x, x < 2147483648 ∧ V.2 145 37 = o6 x := by
      obtain ⟨x, x1, x2⟩ := u2.2.1
      exact ⟨x, x1, (v5 _ _ (by omega)).trans x2⟩
    have u1 := (show lp_X11_meetings_95 (o3 i) (o3 j) (o3 r) (o3 m) p5 x y (o3 k) _ FU (0 : Int32) (0 : Int32) T = _ from u1)
    rw [u1, v1, bd_some, bd_some]
    split
    · exact ih (k + 1) nn _ _ V (by omega) (by omega) hxV hV
    · exact ih (k + 1) nn _ _ V (by omega) (by omega) hxV hV
end MMT
end
