section
/-! the best gain within some hours -/
def bt (mx : Int32) (x y : Int64) : Int64 := if x < 0 then y else if y < 0 then x else if mx = 0 then (if y ≤ x then y else x) else (if x ≤ y then y else x)
def bs (v : Nat → Int64) (mx : Int32) : Nat → Nat → Int64 → Int64
  | 0, _, x => x
  | d + 1, k, x => bs v mx d (k + 1) (bt mx (v k) x)
def stv (g p : Int64) : Int64 := if 0 ≤ g then g + p else -1
def gsv (E : List St5) (G : Nat → Nat → Int64) (h f k : Nat) : Int64 := if oeI (E.getD k d5) f = -1 then -1 else if h < (E.getD k d5).2.2.1 then -1 else if 0 ≤ G (h - (E.getD k d5).2.2.1) (oeI (E.getD k d5) f).toNatClampNeg then G (h - (E.getD k d5).2.2.1) (oeI (E.getD k d5) f).toNatClampNeg + o6 (E.getD k d5).2.2.1 * pc (E.getD k d5).2.2.2 else -1
def gF (F : List (Nat × Nat)) (E : List St5) (tg : Nat) (mx : Int32) : Nat → Nat → Nat → Int64
  | 0, _, f => if f = tg then 0 else -1
  | n + 1, h, f => if h = 0 then (if f = tg then 0 else -1) else bs (gsv E (gF F E tg mx n) h f) mx E.length 0 (stv (gF F E tg mx n (h - 1) f) (pc (F.getD f (0, 0))))
def GG (F : List (Nat × Nat)) (E : List St5) (tg : Nat) (mx : Int32) (h f : Nat) : Int64 := gF F E tg mx h h f
theorem bs_cg {v w : Nat → Int64} {mx : Int32} : ∀ d k x, (∀ j, k ≤ j → j < k + d → v j = w j) → bs v mx d k x = bs w mx d k x := by
  intro d
  induction d with
  | zero => intro k x _; rfl
  | succ d ih =>
    intro k x h
    show bs v mx d (k + 1) (bt mx (v k) x) = bs w mx d (k + 1) (bt mx (w k) x)
    rw [h k (Nat.le_refl _) (by omega)]
    exact ih (k + 1) _ (fun j h1 h2 => h j (by omega) (by omega))
theorem gsv_cg {E : List St5} {G H : Nat → Nat → Int64} {m h f k : Nat} (hE : ∀ q ∈ E, okS m q) (hk : k < E.length) (e : ∀ j g, j < h → G j g = H j g) : gsv E G h f k = gsv E H h f k := by
  unfold gsv
  obtain ⟨_, _, _, s4, _⟩ := hE _ (gd_mem (d := d5) hk)
  by_cases h1 : oeI (E.getD k d5) f = -1
  · rw [if_pos h1, if_pos h1]
  · rw [if_neg h1, if_neg h1]
    by_cases h2 : h < (E.getD k d5).2.2.1
    · rw [if_pos h2, if_pos h2]
    · rw [if_neg h2, if_neg h2, e _ _ (by omega)]
theorem gF_st {F : List (Nat × Nat)} {E : List St5} {tg m : Nat} {mx : Int32} (hE : ∀ q ∈ E, okS m q) : ∀ n, (∀ h f, h ≤ n → gF F E tg mx n h f = GG F E tg mx h f) := by
  intro n
  induction n using Nat.strongRecOn with
  | _ n ih =>
    intro h f hn
    cases n with
    | zero =>
      have : h = 0 := by omega
      subst this
      rfl
    | succ n =>
      cases h with
      | zero => rfl
      | succ h =>
        have e1 : gF F E tg mx (n + 1) (h + 1) f = bs (gsv E (gF F E tg mx n) (h + 1) f) mx E.length 0 (stv (gF F E tg mx n h f) (pc (F.getD f (0, 0)))) := rfl
        have e2 : GG F E tg mx (h + 1) f = bs (gsv E (gF F E tg mx h) (h + 1) f) mx E.length 0 (stv (GG F E tg mx h f) (pc (F.getD f (0, 0)))) := rfl
        rw [e1, e2, ih n (by omega) h f (by omega)]
        refine bs_cg _ _ _ (fun j h1 h2 => gsv_cg hE (by omega) (fun a g ha => ?_))
        rw [ih n (by omega) a g (by omega)]
        by_cases hh : h < n + 1
        · rw [ih h hh a g (by omega)]
        · exact absurd hn (by omega)
theorem GG_0 {F : List (Nat × Nat)} {E : List St5} {tg f : Nat} {mx : Int32} : GG F E tg mx 0 f = if f = tg then 0 else -1 := rfl
theorem GG_s {F : List (Nat × Nat)} {E : List St5} {tg m f h : Nat} {mx : Int32} (hE : ∀ q ∈ E, okS m q) : GG F E tg mx (h + 1) f = bs (gsv E (GG F E tg mx) (h + 1) f) mx E.length 0 (stv (GG F E tg mx h f) (pc (F.getD f (0, 0)))) := by
  have e2 : GG F E tg mx (h + 1) f = bs (gsv E (gF F E tg mx h) (h + 1) f) mx E.length 0 (stv (GG F E tg mx h f) (pc (F.getD f (0, 0)))) := rfl
  rw [e2]
  exact bs_cg _ _ _ (fun j h1 h2 => gsv_cg hE (by omega) (fun a g ha => gF_st hE h a g (by omega)))
/-- as a number, or -1 -/
def nb (x : Int64) (h : Nat) : Prop := x = -1 ∨ ∃ g, x = o6 g ∧ g ≤ 4655851200 * h
theorem nb_bt {mx : Int32} {x y : Int64} {h : Nat} (hx : nb x h) (hy : nb y h) : nb (bt mx x y) h := by
  unfold bt
  split
  · exact hy
  · split
    · exact hx
    · split
      · split
        · exact hy
        · exact hx
      · split
        · exact hy
        · exact hx
theorem nb_bs {v : Nat → Int64} {mx : Int32} {h : Nat} : ∀ d k x, nb x h → (∀ j, k ≤ j → j < k + d → nb (v j) h) → nb (bs v mx d k x) h := by
  intro d
  induction d with
  | zero => intro k x hx _; exact hx
  | succ d ih =>
    intro k x hx hv
    exact ih (k + 1) _ (nb_bt (hv k (Nat.le_refl _) (by omega)) hx) (fun j h1 h2 => hv j (by omega) (by omega))
theorem GG_nb {F : List (Nat × Nat)} {E : List St5} {tg : Nat} {mx : Int32} (hF : ∀ q ∈ F, okF q) (hE : ∀ q ∈ E, okS F.length q) (hm : F.length ≤ 10) : ∀ h f, h ≤ 120 → f < F.length → nb (GG F E tg mx h f) h := by
  intro h
  induction h using Nat.strongRecOn with
  | _ h ih =>
    intro f hh hf
    cases h with
    | zero =>
      rw [GG_0]
      split
      · exact Or.inr ⟨0, rfl, by omega⟩
      · exact Or.inl rfl
    | succ h =>
      rw [GG_s hE]
      refine nb_bs _ _ _ ?_ (fun j _ hj => ?_)
      · unfold stv
        rcases ih h (by omega) f (by omega) hf with e | ⟨g, e1, e2⟩
        · rw [e, if_neg (by decide)]; exact Or.inl rfl
        · have hp := pcn_le (hF _ (gd_mem (d := (0, 0)) hf))
          rw [e1, if_pos (o6_0le (by omega)), pc_o, o6_add]
          exact Or.inr ⟨_, rfl, by omega⟩
      · have hj : j < E.length := by omega
        have hq := hE _ (gd_mem (d := d5) hj)
        obtain ⟨s1, s2, s3, s4, s5, s6⟩ := hq
        unfold gsv
        rcases oe_or (a := f) (hE _ (gd_mem (d := d5) hj)) hm with ⟨o, o1, o2, _⟩ | ⟨o2, _⟩
        · rw [o2, if_neg (o3_m1 (by omega)), o3_nat (by omega)]
          by_cases h2 : h + 1 < (E.getD j d5).2.2.1
          · rw [if_pos h2]; exact Or.inl rfl
          · rw [if_neg h2]
            rcases ih (h + 1 - (E.getD j d5).2.2.1) (by omega) o (by omega) o1 with e | ⟨g, e1, e2⟩
            · rw [e, if_neg (by decide)]; exact Or.inl rfl
            · have hp := pcn_le s6
              have hmul : (E.getD j d5).2.2.1 * ((E.getD j d5).2.2.2.1 * pz (E.getD j d5).2.2.2) ≤ (E.getD j d5).2.2.1 * 4655851200 := Nat.mul_le_mul_left _ hp.2
              have hd : 4655851200 * (h + 1 - (E.getD j d5).2.2.1) + 4655851200 * (E.getD j d5).2.2.1 = 4655851200 * (h + 1) := by rw [← Nat.mul_add]; congr 1; omega
              rw [e1, if_pos (o6_0le (by omega)), pc_o, o6_mul, o6_add]
              exact Or.inr ⟨_, rfl, by omega⟩
        · rw [o2, if_pos rfl]; exact Or.inl rfl
section PC
variable {F : List (Nat × Nat)} {E : List St5} {tg : Nat} {mx : Int32}
/-- the class's table, whole up to hour h -/
def tbC (F : List (Nat × Nat)) (E : List St5) (tg : Nat) (mx : Int32) (S : fS) (h : Nat) : Prop := ∀ j f, j ≤ h → f < F.length → S.2 44 (10 * j + f) = GG F E tg mx j f
theorem cg_of {S : fS} {h j f : Nat} (hT : tbC F E tg mx S h) (hj : j ≤ h) (h120 : h ≤ 120) (hf : f < F.length) (hm : F.length ≤ 10) : f_X1_gainOf (o3 j) (o3 f) S = some (GG F E tg mx j f) := by
  unfold f_X1_gainOf
  rw [if_neg (o3_nn (by omega)), if_pos (show o3 j ≤ (120 : Int32) from (o3_le (b := 120) (by omega) (by omega)).mpr (by omega)), show (10 : Int32) = o3 10 from rfl, o3_mul, o3_add, gL_o (by omega) (by omega), bd_some, show j * 10 + f = 10 * j + f by omega, hT j f hj hf]
theorem cg_stay {S : fS} {h f : Nat} (b1 : twC S 4 F E) (hT : tbC F E tg mx S h) (h120 : h + 1 ≤ 120) (hf : f < F.length) (hm : F.length ≤ 10) : f_X1_gainByStaying 4 (o3 (h + 1)) (o3 f) S = some (stv (GG F E tg mx h f) (pc (F.getD f (0, 0)))) := by
  unfold f_X1_gainByStaying stv
  rw [show (1 : Int32) = o3 1 from rfl, o3_sub (by omega), show h + 1 - 1 = h by omega, cg_of hT (Nat.le_refl _) (by omega) hf hm, bd_some, show gL S (4 + 1) 10 (o3 f) = _ from cf_p b1 hm hf, bd_some]
  split <;> rfl
theorem cg_stair {S : fS} {h f k : Nat} (b1 : twC S 4 F E) (hE : ∀ q ∈ E, okS F.length q) (hT : tbC F E tg mx S h) (h120 : h + 1 ≤ 120) (hf : f < F.length) (hm : F.length ≤ 10) (hl : E.length ≤ 12) (hk : k < E.length) : f_X1_gainByStair 4 (o3 (h + 1)) (o3 f) (o3 k) S = some (gsv E (GG F E tg mx) (h + 1) f k) := by
  obtain ⟨s1, s2, s3, s4, s5, s6⟩ := hE _ (gd_mem (d := d5) hk)
  obtain ⟨w1, w2, w3, w4⟩ := b1.2.2.2 k hk
  unfold f_X1_gainByStair gsv
  rw [ch_other b1 hE hm hl hk (by omega), bd_some, gI_o (by omega) (by omega), bd_some, w3]
  rcases oe_or (a := f) (hE _ (gd_mem (d := d5) hk)) hm with ⟨o, o1, o2, _⟩ | ⟨o2, _⟩
  · rw [o2, if_pos (o3_0le (by omega)), if_neg (o3_m1 (by omega)), o3_nat (by omega)]
    by_cases h2 : h + 1 < (E.getD k d5).2.2.1
    · have hneg : f_X1_gainOf (o3 (h + 1) - o3 (E.getD k d5).2.2.1) (o3 o) S = some (-1) := by
        unfold f_X1_gainOf
        rw [if_pos]
        rw [ni_lt, ni_sub (by rw [o3_int (by omega), o3_int (by omega)]; omega) (by rw [o3_int (by omega), o3_int (by omega)]; omega), o3_int (by omega), o3_int (by omega), ni_0]
        omega
      rw [hneg, bd_some, if_neg (by decide), if_pos h2]
    · rw [if_neg h2, o3_sub (by omega), cg_of hT (by omega) (by omega) o1 hm, bd_some, gL_o (by omega) (by omega), bd_some, w4, o6_of3 (by omega)]
      split <;> rfl
  · rw [o2, if_neg (by decide), if_neg (by decide), if_pos rfl]
/-- taken or left: the better one -/
theorem cg_pick {x y : Int64} {S : fS} {β : Type} {A : Int64 → Option β} : ((f_X1_isBetter x y mx S).bind fun q8 => if q8 = (0 : Int32) then A y else A x) = A (bt mx x y) := by
  unfold f_X1_isBetter bt
  by_cases h1 : x < 0
  · simp only [if_pos h1, bd_some, if_true]
  · simp only [if_neg h1]
    by_cases h2 : y < 0
    · rw [if_neg (show ¬ (0 : Int64) ≤ y by rw [nl_lt] at h2; rw [nl_le]; omega), bd_some, if_neg (by decide), if_pos h2]
    · rw [if_pos (show (0 : Int64) ≤ y by rw [nl_lt] at h2; rw [nl_le]; omega), if_neg h2]
      by_cases h3 : mx = 0
      · rw [if_pos h3, if_pos h3]
        by_cases h4 : y ≤ x
        · rw [if_pos h4, if_pos h4, bd_some, if_pos rfl]
        · rw [if_neg h4, if_neg h4, bd_some, if_neg (by decide)]
      · rw [if_neg h3, if_neg h3]
        by_cases h4 : x ≤ y
        · rw [if_pos h4, if_pos h4, bd_some, if_pos rfl]
        · rw [if_neg h4, if_neg h4, bd_some, if_neg (by decide)]
theorem cg_best {S : fS} {h f : Nat} (b1 : twC S 4 F E) (hE : ∀ q ∈ E, okS F.length q) (hT : tbC F E tg mx S h) (h120 : h + 1 ≤ 120) (hf : f < F.length) (hm : F.length ≤ 10) (hl : E.length ≤ 12) : f_X1_bestGain 4 (o3 (h + 1)) (o3 f) mx S = some (GG F E tg mx (h + 1) f) := by
  have key : ∀ d k nn x, k + d = E.length → d < nn → lp_X1_bestGain_12 4 (o3 (h + 1)) (o3 f) mx S (fun u12 => some u12) nn x (o3 k) = some (bs (gsv E (GG F E tg mx) (h + 1) f) mx d k x) := by
    intro d
    induction d with
    | zero =>
      intro k nn x hk hnn
      obtain ⟨nn, rfl⟩ : ∃ z, nn = z + 1 := ⟨nn - 1, by omega⟩
      rw [lp_X1_bestGain_12.eq_2, b1.2.1, if_pos ((o3_le (by omega) (by omega)).mpr (by omega))]
      rfl
    | succ d ih =>
      intro k nn x hk hnn
      obtain ⟨nn, rfl⟩ : ∃ z, nn = z + 1 := ⟨nn - 1, by omega⟩
      rw [lp_X1_bestGain_12.eq_2, b1.2.1, if_neg (fun q => by have := (o3_le (by omega) (by omega)).mp q; omega), cg_stair b1 hE hT h120 hf hm hl (by omega), bd_some, o3_s]
      refine (cg_pick (A := fun z => lp_X1_bestGain_12 4 (o3 (h + 1)) (o3 f) mx S (fun u12 => some u12) nn z (o3 (k + 1)))).trans ?_
      exact ih (k + 1) nn _ (by omega) (by omega)
  unfold f_X1_bestGain
  rw [cg_stay b1 hT h120 hf hm, bd_some, GG_s hE]
  exact key E.length 0 FU _ (by omega) (FU_lt (by omega))
end PC
end
