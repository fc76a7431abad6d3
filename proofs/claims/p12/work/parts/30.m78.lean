section
/-! waiting() -/
/-- is the new one taken? -/
def tk1 (mx : Int32) (x y : Int64) : Bool := decide (¬ x < 0 ∧ (y < 0 ∨ (mx = 0 ∧ ¬ y ≤ x) ∨ (¬ mx = 0 ∧ ¬ x ≤ y)))
theorem c_tk {mx : Int32} {x y : Int64} {S : fS} : f_X1_isBetter x y mx S = some (if tk1 mx x y = true then 1 else 0) := by
  unfold f_X1_isBetter tk1
  by_cases h1 : x < 0
  · rw [if_pos h1, if_pos h1, if_neg (by rw [decide_eq_true_eq]; exact fun q => q.1 h1)]
  · rw [if_neg h1]
    by_cases h2 : y < 0
    · rw [if_neg (show ¬ (0 : Int64) ≤ y by rw [nl_lt] at h2; rw [nl_le]; omega), if_neg h1, if_pos (by rw [decide_eq_true_eq]; exact ⟨h1, Or.inl h2⟩)]
    · rw [if_pos (show (0 : Int64) ≤ y by rw [nl_lt] at h2; rw [nl_le]; omega)]
      by_cases h3 : mx = 0
      · rw [if_pos h3]
        by_cases h4 : y ≤ x
        · rw [if_pos h4, if_neg (by rw [decide_eq_true_eq]; rintro ⟨_, q | q | q⟩; exact h2 q; exact q.2 h4; exact q.1 h3)]
        · rw [if_neg h4, if_pos (by rw [decide_eq_true_eq]; exact ⟨h1, Or.inr (Or.inl ⟨h3, h4⟩)⟩)]
      · rw [if_neg h3]
        by_cases h4 : x ≤ y
        · rw [if_pos h4, if_neg (by rw [decide_eq_true_eq]; rintro ⟨_, q | q | q⟩; exact h2 q; exact h3 q.1; exact q.2 h4)]
        · rw [if_neg h4, if_pos (by rw [decide_eq_true_eq]; exact ⟨h1, Or.inr (Or.inr ⟨h3, h4⟩)⟩)]
theorem m_tk {mx : Int32} {x y : Int64} {S : fS} {β : Type} {A B : Option β} : (if x < (0 : Int64) then A else ((f_X11_isBetter x y mx S).bind fun q49 => if q49 = (0 : Int32) then A else B)) = if tk1 mx x y = true then B else A := by
  unfold f_X11_isBetter tk1
  by_cases h1 : x < 0
  · rw [if_pos h1, if_neg (by rw [decide_eq_true_eq]; exact fun q => q.1 h1)]
  · rw [if_neg h1]
    by_cases h2 : y < 0
    · rw [if_pos h2, bd_some, if_neg (by decide), if_pos (by rw [decide_eq_true_eq]; exact ⟨h1, Or.inl h2⟩)]
    · rw [if_neg h2]
      by_cases h3 : mx = 0
      · rw [if_pos h3]
        by_cases h4 : y ≤ x
        · rw [if_pos h4, bd_some, if_pos rfl, if_neg (by rw [decide_eq_true_eq]; rintro ⟨_, q | q | q⟩; exact h2 q; exact q.2 h4; exact q.1 h3)]
        · rw [if_neg h4, bd_some, if_neg (by decide), if_pos (by rw [decide_eq_true_eq]; exact ⟨h1, Or.inr (Or.inl ⟨h3, h4⟩)⟩)]
      · rw [if_neg h3]
        by_cases h4 : x ≤ y
        · rw [if_pos h4, bd_some, if_pos rfl, if_neg (by rw [decide_eq_true_eq]; rintro ⟨_, q | q | q⟩; exact h2 q; exact h3 q.1; exact q.2 h4)]
        · rw [if_neg h4, bd_some, if_neg (by decide), if_pos (by rw [decide_eq_true_eq]; exact ⟨h1, Or.inr (Or.inr ⟨h3, h4⟩)⟩)]
/-- the class's choice: from floor k on, i held -/
def bc (v : Nat → Int64) (mx : Int32) : Nat → Nat → Nat → Nat
  | 0, _, i => i
  | d + 1, k, i => bc v mx d (k + 1) (if tk1 mx (v k) (v i) = true then k else i)
/-- the reference's choice: floor held (or -1) and its worth -/
def bm (v : Nat → Int64) (mx : Int32) : Nat → Nat → Int32 → Int64 → Int32
  | 0, _, i, _ => i
  | d + 1, k, i, y => if tk1 mx (v k) y = true then bm v mx d (k + 1) (o3 k) (v k) else bm v mx d (k + 1) i y
theorem bm_bc {v : Nat → Int64} {mx : Int32} : ∀ d k i, bm v mx d k (o3 i) (v i) = o3 (bc v mx d k i) := by
  intro d
  induction d with
  | zero => intro k i; rfl
  | succ d ih =>
    intro k i
    show (if tk1 mx (v k) (v i) = true then bm v mx d (k + 1) (o3 k) (v k) else bm v mx d (k + 1) (o3 i) (v i)) = o3 (bc v mx d (k + 1) (if tk1 mx (v k) (v i) = true then k else i))
    by_cases h : tk1 mx (v k) (v i) = true
    · rw [if_pos h, if_pos h]; exact ih (k + 1) k
    · rw [if_neg h, if_neg h]; exact ih (k + 1) i
theorem tk_m1 {mx : Int32} {x y z : Int64} (hy : y < 0) (hz : z < 0) : tk1 mx x y = tk1 mx x z := by
  unfold tk1
  by_cases h1 : x < 0
  · rw [decide_eq_false (fun q => q.1 h1), decide_eq_false (fun q => q.1 h1)]
  · rw [decide_eq_true (show ¬ x < 0 ∧ _ from ⟨h1, Or.inl hy⟩), decide_eq_true (show ¬ x < 0 ∧ _ from ⟨h1, Or.inl hz⟩)]
/-- where some floor can be come to, both choose alike -/
theorem bm_eq {v : Nat → Int64} {mx : Int32} : ∀ d k, (∃ j, k ≤ j ∧ j < k + d ∧ ¬ v j < 0) → ∀ i, v i < 0 → bm v mx d k (-1) (-1) = o3 (bc v mx d k i) := by
  intro d
  induction d with
  | zero => intro k ⟨j, h1, h2, _⟩; omega
  | succ d ih =>
    intro k ⟨j, h1, h2, h3⟩ i hi
    show (if tk1 mx (v k) (-1) = true then bm v mx d (k + 1) (o3 k) (v k) else bm v mx d (k + 1) (-1) (-1)) = o3 (bc v mx d (k + 1) (if tk1 mx (v k) (v i) = true then k else i))
    rw [tk_m1 (y := -1) (z := v i) (by decide) hi]
    by_cases h : tk1 mx (v k) (v i) = true
    · rw [if_pos h, if_pos h]; exact bm_bc d (k + 1) k
    · rw [if_neg h, if_neg h]
      have hk : v k < 0 := by
        refine Decidable.byContradiction fun q => h ?_
        unfold tk1
        rw [decide_eq_true_eq]
        exact ⟨q, Or.inl hi⟩
      have : j ≠ k := fun z => h3 (z ▸ hk)
      exact ih (k + 1) ⟨j, by omega, by omega, h3⟩ i hi
section WT
variable {F : List (Nat × Nat)} {E : List St5} {tg : Nat} {mx : Int32} {n : Nat}
theorem c_bf {S : fS} (b1 : twC S 4 F E) (hT : tbC F E tg mx S n) (hn : n ≤ 120) (hm : F.length ≤ 10) (h1 : 0 < F.length) : f_X1_bestFloor 4 (o3 n) mx S = some (o3 (bc (fun f => GG F E tg mx n f) mx (F.length - 1) 1 0)) := by
  have key : ∀ d k nn i, k + d = F.length → d < nn → i < F.length → lp_X1_bestFloor_6 4 (o3 n) mx S (fun u12 => some u12) nn (o3 i) (o3 k) = some (o3 (bc (fun f => GG F E tg mx n f) mx d k i)) := by
    intro d
    induction d with
    | zero =>
      intro k nn i hk hnn hi
      obtain ⟨nn, rfl⟩ : ∃ z, nn = z + 1 := ⟨nn - 1, by omega⟩
      rw [lp_X1_bestFloor_6.eq_2, b1.1, if_pos ((o3_le (by omega) (by omega)).mpr (by omega))]
      rfl
    | succ d ih =>
      intro k nn i hk hnn hi
      obtain ⟨nn, rfl⟩ : ∃ z, nn = z + 1 := ⟨nn - 1, by omega⟩
      have he : bc (fun f => GG F E tg mx n f) mx (d + 1) k i = bc (fun f => GG F E tg mx n f) mx d (k + 1) (if tk1 mx (GG F E tg mx n k) (GG F E tg mx n i) = true then k else i) := rfl
      rw [lp_X1_bestFloor_6.eq_2, b1.1, if_neg (fun q => by have := (o3_le (by omega) (by omega)).mp q; omega), cg_of hT (Nat.le_refl _) hn (by omega) hm, bd_some, cg_of hT (Nat.le_refl _) hn hi hm, bd_some, c_tk, bd_some, o3_s, he]
      by_cases h : tk1 mx (GG F E tg mx n k) (GG F E tg mx n i) = true
      · rw [if_pos h, if_pos h, if_neg (by decide)]
        exact ih (k + 1) nn k (by omega) (by omega) (by omega)
      · rw [if_neg h, if_neg h, if_pos rfl]
        exact ih (k + 1) nn i (by omega) (by omega) hi
  exact key (F.length - 1) 1 FU 0 (by omega) (FU_lt (by omega)) h1
theorem wn_56 {p1 p3 p4 : Int32} {p5 : Int64} (htg : tg < 2147483648) (hn : n ≤ 120) {K : fS → Option (Int32 × fS)} : ∀ d k nn (S : fS), k + d = 10 → d < nn → (∀ j, j < k → S.2 162 (10 * n + j) = if j = tg then 0 else -1) → ∃ T, lp_X11_waiting_56 p1 (o3 n) p3 p4 p5 (o3 tg) K nn (o3 k) S = K T ∧ (∀ j, j < 10 → T.2 162 (10 * n + j) = if j = tg then 0 else -1) ∧ e162 S T := by
  intro d
  induction d with
  | zero =>
    intro k nn S hk hnn hj
    obtain ⟨nn, rfl⟩ : ∃ z, nn = z + 1 := ⟨nn - 1, by omega⟩
    rw [lp_X11_waiting_56.eq_2, if_pos (show (10 : Int32) ≤ o3 k from (o3_le (a := 10) (by omega) (by omega)).mpr (by omega))]
    exact ⟨S, rfl, fun j h => hj j (by omega), e162.rf⟩
  | succ d ih =>
    intro k nn S hk hnn hj
    obtain ⟨nn, rfl⟩ : ∃ z, nn = z + 1 := ⟨nn - 1, by omega⟩
    have key : ∀ x, x = (if k = tg then (0 : Int64) else -1) → ∃ T, lp_X11_waiting_56 p1 (o3 n) p3 p4 p5 (o3 tg) K nn (o3 (k + 1)) (pL S 162 (10 * n + k) x) = K T ∧ (∀ j, j < 10 → T.2 162 (10 * n + j) = if j = tg then 0 else -1) ∧ e162 S T := fun x hx => by
      obtain ⟨T, t1, t2, t3⟩ := ih (k + 1) nn (pL S 162 (10 * n + k) x) (by omega) (by omega) (fun j h => by
        by_cases e : j = k
        · subst e; rw [pL_eq, hx]
        · rw [pL_ne (by omega)]; exact hj j (by omega))
      exact ⟨T, t1, t2, e162_p.tr t3⟩
    rw [lp_X11_waiting_56.eq_2, if_neg (show ¬ (10 : Int32) ≤ o3 k from fun q => by have := (o3_le (a := 10) (by omega) (by omega)).mp q; omega), show (10 : Int32) = o3 10 from rfl, o3_mul, o3_add, sL_o (by omega) (by omega), sL_o (by omega) (by omega), bd_some, bd_some, o3_s]
    by_cases e : k = tg
    · rw [if_pos ((o3_inj (by omega) htg).mpr e)]
      exact key 0 (by rw [if_pos e])
    · rw [if_neg (fun q => e ((o3_inj (by omega) htg).mp q))]
      exact key (-1) (by rw [if_neg e])
theorem wn_108 {p1 p4 p7 : Int32} {p5 : Int64} (hF : ∀ q ∈ F, okF q) (hE : ∀ q ∈ E, okS F.length q) (hm : F.length ≤ 10) (hl : E.length ≤ 12) (hn : n ≤ 120) {t : Nat} (ht : t < n) {K : fS → Option (Int32 × fS)} : ∀ d k nn (S : fS), k + d = F.length → d < nn → twM (S.1 157) F E → tbM F E tg mx n S (t + 1) → (∀ f, f < k → S.2 162 (10 * t + f) = GG F E tg mx (n - t) f) → ∃ T, lp_X11_waiting_108 p1 (o3 n) mx p4 p5 p7 (o3 t) K nn (o3 k) S = K T ∧ tbM F E tg mx n T t ∧ e162 S T := by
  intro d
  induction d with
  | zero =>
    intro k nn S hk hnn m1 hT hj
    obtain ⟨nn, rfl⟩ : ∃ z, nn = z + 1 := ⟨nn - 1, by omega⟩
    rw [lp_X11_waiting_108.eq_2, show gI S 157 158 0 = some (o3 F.length) from (gI_o (k := 0) (by omega) (by omega)).trans (congrArg some m1.1), bd_some, if_pos ((o3_le (by omega) (by omega)).mpr (by omega))]
    exact ⟨S, rfl, tbM_s hT (fun f hf => hj f (by omega)), e162.rf⟩
  | succ d ih =>
    intro k nn S hk hnn m1 hT hj
    obtain ⟨nn, rfl⟩ : ∃ z, nn = z + 1 := ⟨nn - 1, by omega⟩
    rw [lp_X11_waiting_108.eq_2, show gI S 157 158 0 = some (o3 F.length) from (gI_o (k := 0) (by omega) (by omega)).trans (congrArg some m1.1), bd_some, if_neg (fun q => by have := (o3_le (by omega) (by omega)).mp q; omega), mg_best m1 hF hE hT hn ht (by omega) hm hl, bd_some, show (10 : Int32) = o3 10 from rfl, o3_mul, o3_add, sL_o (by omega) (by omega), bd_some, o3_s]
    obtain ⟨T, t1, t2, t3⟩ := ih (k + 1) nn (pL S 162 (10 * t + k) (GG F E tg mx (n - t) k)) (by omega) (by omega) m1 (fun j f h1 h2 h3 => by rw [pL_ne (by omega)]; exact hT j f h1 h2 h3) (fun f hf => by
      by_cases e : f = k
      · subst e; rw [pL_eq]
      · rw [pL_ne (by omega)]; exact hj f (by omega))
    exact ⟨T, t1, t2, e162_p.tr t3⟩
theorem wn_100 {p1 p4 p7 : Int32} {p5 : Int64} (hF : ∀ q ∈ F, okF q) (hE : ∀ q ∈ E, okS F.length q) (hm : F.length ≤ 10) (hl : E.length ≤ 12) (hn : n ≤ 120) {K : fS → Option (Int32 × fS)} : ∀ t nn (S : fS), t ≤ n → t < nn → twM (S.1 157) F E → tbM F E tg mx n S t → ∃ T, lp_X11_waiting_100 p1 (o3 n) mx p4 p5 p7 K nn (o3 t - 1) S = K T ∧ tbM F E tg mx n T 0 ∧ e162 S T := by
  intro t
  induction t with
  | zero =>
    intro nn S htn hnn m1 hT
    obtain ⟨nn, rfl⟩ : ∃ z, nn = z + 1 := ⟨nn - 1, by omega⟩
    rw [lp_X11_waiting_100.eq_2, if_pos (show o3 0 - 1 < (0 : Int32) by decide)]
    exact ⟨S, rfl, hT, e162.rf⟩
  | succ t ih =>
    intro nn S htn hnn m1 hT
    obtain ⟨nn, rfl⟩ : ∃ z, nn = z + 1 := ⟨nn - 1, by omega⟩
    rw [lp_X11_waiting_100.eq_2, show o3 (t + 1) - 1 = o3 t from by rw [show (1 : Int32) = o3 1 from rfl, o3_sub (by omega)]; rfl, if_neg (o3_nn (by omega))]
    obtain ⟨T1, a1, a2, a3⟩ := wn_108 (tg := tg) (mx := mx) (p1 := p1) (p4 := p4) (p5 := p5) (p7 := p7) hF hE hm hl hn (t := t) (by omega) (K := fun S38 => lp_X11_waiting_100 p1 (o3 n) mx p4 p5 p7 K nn (o3 t + (-1 : Int32)) S38) F.length 0 FU S (by omega) (FU_lt (by omega)) m1 hT (fun f hf => absurd hf (Nat.not_lt_zero _))
    obtain ⟨T, t1, t2, t3⟩ := ih nn T1 (by omega) (by omega) (by rw [a3.1]; exact m1) a2
    refine ⟨T, a1.trans ?_, t2, a3.tr t3⟩
    rw [show o3 t + (-1 : Int32) = o3 t - 1 from (Int32.sub_eq_add_neg _ _).symm]
    exact t1
theorem wn_42 {th f0 : Nat} (hth : th < 8) (hF : ∀ q ∈ F, okF q) (hE : ∀ q ∈ E, okS F.length q) (hm : F.length ≤ 10) (hl : E.length ≤ 12) (hn : n ≤ 120) (hf0 : f0 < F.length) : ∀ d k nn (S : fS) (i : Int32) (y : Int64), k + d = F.length → d < nn → twM (S.1 157) F E → S.1 157 (90 + 4 * th) = o3 f0 → ∃ T, lp_X11_waiting_42 (o3 th) (o3 n) mx (fun u53 S54 => some (u53, S54)) nn i y (o3 k) S = some (bm (fun p => GG F E p mx n f0) mx d k i y, T) ∧ e162 S T := by
  intro d
  induction d with
  | zero =>
    intro k nn S i y hk hnn m1 hp
    obtain ⟨nn, rfl⟩ : ∃ z, nn = z + 1 := ⟨nn - 1, by omega⟩
    rw [lp_X11_waiting_42.eq_2, show gI S 157 158 0 = some (o3 F.length) from (gI_o (k := 0) (by omega) (by omega)).trans (congrArg some m1.1), bd_some, if_pos ((o3_le (by omega) (by omega)).mpr (by omega))]
    exact ⟨S, rfl, e162.rf⟩
  | succ d ih =>
    intro k nn S i y hk hnn m1 hp
    obtain ⟨nn, rfl⟩ : ∃ z, nn = z + 1 := ⟨nn - 1, by omega⟩
    rw [lp_X11_waiting_42.eq_2, show gI S 157 158 0 = some (o3 F.length) from (gI_o (k := 0) (by omega) (by omega)).trans (congrArg some m1.1), bd_some, if_neg (fun q => by have := (o3_le (by omega) (by omega)).mp q; omega), o3_s]
    obtain ⟨T1, t1, t2, t3⟩ := wn_56 (tg := k) (n := n) (p1 := o3 th) (p3 := mx) (p4 := i) (p5 := y) (by omega) hn (K := fun S25 => lp_X11_waiting_100 (o3 th) (o3 n) mx i y (o3 k) (fun S40 => (f_X11_thingOf (o3 th) (0 : Int32) S40).bind fun q42 => (gL S40 162 1210 q42).bind fun a45 => if a45 < (0 : Int64) then (lp_X11_waiting_42 (o3 th) (o3 n) mx (fun u53 S54 => some (u53, S54)) nn i y (o3 (k + 1)) S40) else ((f_X11_isBetter a45 y mx S40).bind fun q49 => if q49 = (0 : Int32) then (lp_X11_waiting_42 (o3 th) (o3 n) mx (fun u53 S54 => some (u53, S54)) nn i y (o3 (k + 1)) S40) else (lp_X11_waiting_42 (o3 th) (o3 n) mx (fun u53 S54 => some (u53, S54)) nn (o3 k) a45 (o3 (k + 1)) S40))) FU (o3 n - (1 : Int32)) S25) 10 0 FU S (by omega) (FU_lt (by omega)) (fun j hj => absurd hj (Nat.not_lt_zero _))
    obtain ⟨T2, u1, u2, u3⟩ := wn_100 (F := F) (E := E) (tg := k) (mx := mx) (n := n) (p1 := o3 th) (p4 := i) (p5 := y) (p7 := o3 k) hF hE hm hl hn (K := fun S40 => (f_X11_thingOf (o3 th) (0 : Int32) S40).bind fun q42 => (gL S40 162 1210 q42).bind fun a45 => if a45 < (0 : Int64) then (lp_X11_waiting_42 (o3 th) (o3 n) mx (fun u53 S54 => some (u53, S54)) nn i y (o3 (k + 1)) S40) else ((f_X11_isBetter a45 y mx S40).bind fun q49 => if q49 = (0 : Int32) then (lp_X11_waiting_42 (o3 th) (o3 n) mx (fun u53 S54 => some (u53, S54)) nn i y (o3 (k + 1)) S40) else (lp_X11_waiting_42 (o3 th) (o3 n) mx (fun u53 S54 => some (u53, S54)) nn (o3 k) a45 (o3 (k + 1)) S40))) n FU T1 (Nat.le_refl _) (FU_lt (by omega)) (by rw [t3.1]; exact m1) (fun j g h1 h2 h3 => by
      have : j = n := by omega
      subst this
      rw [t2 g (by omega), Nat.sub_self, GG_0])
    have e12 := t3.tr u3
    have m1' : twM (T2.1 157) F E := by rw [e12.1]; exact m1
    have hp' : T2.1 157 (90 + 4 * th) = o3 f0 := by rw [e12.1]; exact hp
    have g162 : gL T2 162 1210 (o3 f0) = some (GG F E k mx n f0) := by
      have := u2 0 f0 (by omega) (by omega) hf0
      rw [show 10 * 0 + f0 = f0 by omega, Nat.sub_zero] at this
      exact (gL_o (by omega) (by omega)).trans (congrArg some this)
    have hb : bm (fun p => GG F E p mx n f0) mx (d + 1) k i y = if tk1 mx (GG F E k mx n f0) y = true then bm (fun p => GG F E p mx n f0) mx d (k + 1) (o3 k) (GG F E k mx n f0) else bm (fun p => GG F E p mx n f0) mx d (k + 1) i y := rfl
    have step : lp_X11_waiting_56 (o3 th) (o3 n) mx i y (o3 k) (fun S25 => lp_X11_waiting_100 (o3 th) (o3 n) mx i y (o3 k) (fun S40 => (f_X11_thingOf (o3 th) (0 : Int32) S40).bind fun q42 => (gL S40 162 1210 q42).bind fun a45 => if a45 < (0 : Int64) then (lp_X11_waiting_42 (o3 th) (o3 n) mx (fun u53 S54 => some (u53, S54)) nn i y (o3 (k + 1)) S40) else ((f_X11_isBetter a45 y mx S40).bind fun q49 => if q49 = (0 : Int32) then (lp_X11_waiting_42 (o3 th) (o3 n) mx (fun u53 S54 => some (u53, S54)) nn i y (o3 (k + 1)) S40) else (lp_X11_waiting_42 (o3 th) (o3 n) mx (fun u53 S54 => some (u53, S54)) nn (o3 k) a45 (o3 (k + 1)) S40))) FU (o3 n - (1 : Int32)) S25) FU (0 : Int32) S = if tk1 mx (GG F E k mx n f0) y = true then lp_X11_waiting_42 (o3 th) (o3 n) mx (fun u53 S54 => some (u53, S54)) nn (o3 k) (GG F E k mx n f0) (o3 (k + 1)) T2 else lp_X11_waiting_42 (o3 th) (o3 n) mx (fun u53 S54 => some (u53, S54)) nn i y (o3 (k + 1)) T2 := by
      refine (t1.trans u1).trans ?_
      rw [show f_X11_thingOf (o3 th) 0 T2 = some (o3 f0) from (mw_thing (a := 0) hth (by omega)).trans (congrArg some hp'), bd_some, g162, bd_some, m_tk]
    rw [step, hb]
    by_cases h : tk1 mx (GG F E k mx n f0) y = true
    · rw [if_pos h, if_pos h]
      obtain ⟨T, w1, w2⟩ := ih (k + 1) nn T2 (o3 k) (GG F E k mx n f0) (by omega) (by omega) m1' hp'
      exact ⟨T, w1, e12.tr w2⟩
    · rw [if_neg h, if_neg h]
      obtain ⟨T, w1, w2⟩ := ih (k + 1) nn T2 i y (by omega) (by omega) m1' hp'
      exact ⟨T, w1, e12.tr w2⟩
end WT
end
