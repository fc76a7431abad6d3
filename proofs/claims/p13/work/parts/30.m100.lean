section
/-! the fewest hours between floors: phases over a matrix of numbers, 99999 where there is no way -/
abbrev Mx : Type := Nat → Nat → Nat
def wI : Mx := fun a b => if a = b then 0 else 99999
def wS1 (w : Mx) (q : Nat × Nat × Nat × Nat × Nat) : Mx := fun x y => if (x = q.1 ∧ y = q.2.1) ∨ (x = q.2.1 ∧ y = q.1) then min (w x y) q.2.2.1 else w x y
def wSt (E : List (Nat × Nat × Nat × Nat × Nat)) : Mx := E.foldl wS1 wI
def ph (p : Nat) (w : Mx) : Mx := fun a b => min (w a b) (w a p + w p b)
def phs (w : Mx) : Nat → Mx
  | 0 => w
  | k + 1 => ph k (phs w k)
/-- the fewest hours -/
def dst (E : List (Nat × Nat × Nat × Nat × Nat)) : Mx := phs (wSt E) 10
def z0 (w : Mx) : Prop := ∀ a, w a a = 0
def le9 (w : Mx) : Prop := ∀ a b, w a b ≤ 99999
theorem wS1_z {w : Mx} {q : Nat × Nat × Nat × Nat × Nat} (h : z0 w) : z0 (wS1 w q) := by
  intro a
  have := h a
  unfold wS1
  split
  · omega
  · exact this
theorem wS1_9 {w : Mx} {q : Nat × Nat × Nat × Nat × Nat} (h : le9 w) : le9 (wS1 w q) := by
  intro a b
  have := h a b
  unfold wS1
  split
  · omega
  · exact this
theorem wS1_le {w : Mx} {q : Nat × Nat × Nat × Nat × Nat} (a b : Nat) : wS1 w q a b ≤ w a b := by
  unfold wS1
  split
  · omega
  · exact Nat.le_refl _
theorem wI_z : z0 wI := fun a => if_pos rfl
theorem wI_9 : le9 wI := by
  intro a b
  unfold wI
  split <;> omega
theorem fold_z : ∀ (E : List (Nat × Nat × Nat × Nat × Nat)) (w : Mx), z0 w → z0 (E.foldl wS1 w) := by
  intro E
  induction E with
  | nil => intro w h; exact h
  | cons q E ih => intro w h; exact ih _ (wS1_z h)
theorem fold_9 : ∀ (E : List (Nat × Nat × Nat × Nat × Nat)) (w : Mx), le9 w → le9 (E.foldl wS1 w) := by
  intro E
  induction E with
  | nil => intro w h; exact h
  | cons q E ih => intro w h; exact ih _ (wS1_9 h)
theorem fold_le : ∀ (E : List (Nat × Nat × Nat × Nat × Nat)) (w : Mx) (a b : Nat), E.foldl wS1 w a b ≤ w a b := by
  intro E
  induction E with
  | nil => intro w a b; exact Nat.le_refl _
  | cons q E ih => intro w a b; exact Nat.le_trans (ih _ a b) (wS1_le a b)
theorem wSt_le : ∀ (E : List (Nat × Nat × Nat × Nat × Nat)) (w : Mx), ∀ q ∈ E, E.foldl wS1 w q.1 q.2.1 ≤ q.2.2.1 ∧ E.foldl wS1 w q.2.1 q.1 ≤ q.2.2.1 := by
  intro E
  induction E with
  | nil => intro w q hq; exact absurd hq (List.not_mem_nil)
  | cons r E ih =>
    intro w q hq
    rcases List.mem_cons.mp hq with rfl | hq
    · have h1 := fold_le E (wS1 w q) q.1 q.2.1
      have h2 := fold_le E (wS1 w q) q.2.1 q.1
      have e1 : wS1 w q q.1 q.2.1 = min (w q.1 q.2.1) q.2.2.1 := if_pos (Or.inl ⟨rfl, rfl⟩)
      have e2 : wS1 w q q.2.1 q.1 = min (w q.2.1 q.1) q.2.2.1 := if_pos (Or.inr ⟨rfl, rfl⟩)
      show E.foldl wS1 (wS1 w q) _ _ ≤ _ ∧ E.foldl wS1 (wS1 w q) _ _ ≤ _
      omega
    · exact ih _ q hq
/-- each number below 99999 between two floors came of a stair -/
theorem wSt_of : ∀ (E : List (Nat × Nat × Nat × Nat × Nat)) (w : Mx) (a b : Nat), a ≠ b → E.foldl wS1 w a b = w a b ∨ ∃ q ∈ E, E.foldl wS1 w a b = q.2.2.1 ∧ ((q.1 = a ∧ q.2.1 = b) ∨ (q.2.1 = a ∧ q.1 = b)) := by
  intro E
  induction E with
  | nil => intro w a b _; exact Or.inl rfl
  | cons r E ih =>
    intro w a b hab
    rcases ih (wS1 w r) a b hab with h | ⟨q, hq, h⟩
    · have h : (r :: E).foldl wS1 w a b = wS1 w r a b := h
      rw [h]
      by_cases hc : (a = r.1 ∧ b = r.2.1) ∨ (a = r.2.1 ∧ b = r.1)
      · have e : wS1 w r a b = min (w a b) r.2.2.1 := if_pos hc
        by_cases hm : w a b ≤ r.2.2.1
        · exact Or.inl (by rw [e]; omega)
        · refine Or.inr ⟨r, List.mem_cons_self, by rw [e]; omega, ?_⟩
          rcases hc with ⟨h1, h2⟩ | ⟨h1, h2⟩
          · exact Or.inl ⟨h1.symm, h2.symm⟩
          · exact Or.inr ⟨h1.symm, h2.symm⟩
      · exact Or.inl (if_neg hc)
    · exact Or.inr ⟨q, List.mem_cons_of_mem _ hq, h⟩
theorem ph_z {p : Nat} {w : Mx} (h : z0 w) : z0 (ph p w) := by
  intro a
  have := h a
  unfold ph
  omega
theorem ph_9 {p : Nat} {w : Mx} (h : le9 w) : le9 (ph p w) := by
  intro a b
  have := h a b
  unfold ph
  omega
theorem ph_le {p : Nat} {w : Mx} (a b : Nat) : ph p w a b ≤ w a b := Nat.min_le_left _ _
theorem phs_z {w : Mx} (h : z0 w) : ∀ k, z0 (phs w k) := by
  intro k
  induction k with
  | zero => exact h
  | succ k ih => exact ph_z ih
theorem phs_9 {w : Mx} (h : le9 w) : ∀ k, le9 (phs w k) := by
  intro k
  induction k with
  | zero => exact h
  | succ k ih => exact ph_9 ih
theorem phs_le {w : Mx} {a b : Nat} : ∀ k d, phs w (k + d) a b ≤ phs w k a b := by
  intro k d
  induction d with
  | zero => exact Nat.le_refl _
  | succ d ih => exact Nat.le_trans (ph_le a b) ih
/-- behind phase k: ways over the floors below k make nothing shorter -/
theorem phs_tri {w : Mx} (h : z0 w) : ∀ k p, p < k → ∀ a b, phs w k a b ≤ phs w k a p + phs w k p b := by
  intro k
  induction k with
  | zero => intro p hp; exact absurd hp (Nat.not_lt_zero _)
  | succ k ih =>
    intro p hp a b
    have hz := phs_z h k
    show ph k (phs w k) a b ≤ ph k (phs w k) a p + ph k (phs w k) p b
    generalize hw : phs w k = v at ih hz
    unfold ph
    have zk := hz k
    by_cases hpk : p = k
    · subst hpk
      omega
    · have t1 := ih p (by omega) a b
      have t2 := ih p (by omega) k b
      have t3 := ih p (by omega) a k
      omega
theorem dst_z {E : List (Nat × Nat × Nat × Nat × Nat)} : z0 (dst E) := phs_z (fold_z E wI wI_z) 10
theorem dst_9 {E : List (Nat × Nat × Nat × Nat × Nat)} : le9 (dst E) := phs_9 (fold_9 E wI wI_9) 10
theorem dst_tri {E : List (Nat × Nat × Nat × Nat × Nat)} {p : Nat} (hp : p < 10) (a b : Nat) : dst E a b ≤ dst E a p + dst E p b := phs_tri (fold_z E wI wI_z) 10 p hp a b
theorem dst_st {E : List (Nat × Nat × Nat × Nat × Nat)} {q : Nat × Nat × Nat × Nat × Nat} (hq : q ∈ E) : dst E q.1 q.2.1 ≤ q.2.2.1 ∧ dst E q.2.1 q.1 ≤ q.2.2.1 := by
  have h1 := phs_le (w := wSt E) (a := q.1) (b := q.2.1) 0 10
  have h2 := phs_le (w := wSt E) (a := q.2.1) (b := q.1) 0 10
  have h3 := wSt_le E wI q hq
  exact ⟨Nat.le_trans h1 h3.1, Nat.le_trans h2 h3.2⟩
/-- a first stair of a shortest way -/
def fst1 (E : List (Nat × Nat × Nat × Nat × Nat)) (D : Mx) (a b x : Nat) : Prop := ∃ q ∈ E, (q.1 = a ∧ q.2.2.1 + D q.2.1 b ≤ x) ∨ (q.2.1 = a ∧ q.2.2.1 + D q.1 b ≤ x)
theorem phs_fst {E : List (Nat × Nat × Nat × Nat × Nat)} : ∀ k, k ≤ 10 → ∀ a b, a ≠ b → phs (wSt E) k a b < 99999 → fst1 E (dst E) a b (phs (wSt E) k a b) := by
  intro k
  induction k with
  | zero =>
    intro _ a b hab h
    have h : wSt E a b < 99999 := h
    rcases wSt_of E wI a b hab with h1 | ⟨q, hq, h1, h2⟩
    · have e : wI a b = 99999 := if_neg hab
      have h1 : wSt E a b = wI a b := h1
      omega
    · have h1 : wSt E a b = q.2.2.1 := h1
      have zb := dst_z (E := E) b
      refine ⟨q, hq, ?_⟩
      rcases h2 with ⟨e1, e2⟩ | ⟨e1, e2⟩
      · exact Or.inl ⟨e1, by rw [e2, zb]; show _ ≤ wSt E a b; omega⟩
      · exact Or.inr ⟨e1, by rw [e2, zb]; show _ ≤ wSt E a b; omega⟩
  | succ k ih =>
    intro hk a b hab h
    have zk := phs_z (fold_z E wI wI_z) k k
    have hd : dst E k b ≤ phs (wSt E) k k b := by
      have := phs_le (w := wSt E) (a := k) (b := b) k (10 - k)
      rw [show k + (10 - k) = 10 by omega] at this
      exact this
    show fst1 E (dst E) a b (ph k (phs (wSt E) k) a b)
    have h : ph k (phs (wSt E) k) a b < 99999 := h
    have ihab := ih (by omega) a b hab
    unfold ph at h ⊢
    by_cases hm : phs (wSt E) k a b ≤ phs (wSt E) k a k + phs (wSt E) k k b
    · rw [Nat.min_eq_left hm] at h ⊢
      exact ihab h
    · rw [Nat.min_eq_right (by omega)] at h ⊢
      by_cases hak : a = k
      · subst hak
        have zk : phs (wSt E) a a a = 0 := zk
        omega
      · obtain ⟨q, hq, h1⟩ := ih (by omega) a k hak (by omega)
        refine ⟨q, hq, ?_⟩
        rcases h1 with ⟨e1, e2⟩ | ⟨e1, e2⟩
        · have := dst_tri (E := E) (p := k) (by omega) q.2.1 b
          exact Or.inl ⟨e1, by omega⟩
        · have := dst_tri (E := E) (p := k) (by omega) q.1 b
          exact Or.inr ⟨e1, by omega⟩
theorem dst_fst {E : List (Nat × Nat × Nat × Nat × Nat)} {a b : Nat} (hab : a ≠ b) (h : dst E a b < 99999) : fst1 E (dst E) a b (dst E a b) := phs_fst 10 (Nat.le_refl _) a b hab h
/-- bounds: no number between 18432 and 99999 -/
def bd9 (m : Nat) (w : Mx) : Prop := ∀ a b, w a b < 99999 → w a b ≤ m
theorem ph_bd {p m : Nat} {w : Mx} (h : bd9 m w) : bd9 (2 * m) (ph p w) := by
  intro a b hlt
  have h1 := h a b
  have h2 := h a p
  have h3 := h p b
  unfold ph at hlt ⊢
  omega
theorem fold_bd {m : Nat} : ∀ (E : List (Nat × Nat × Nat × Nat × Nat)) (w : Mx), (∀ q ∈ E, q.2.2.1 ≤ m) → bd9 m w → bd9 m (E.foldl wS1 w) := by
  intro E
  induction E with
  | nil => intro w _ h; exact h
  | cons r E ih =>
    intro w hE h
    refine ih _ (fun q hq => hE q (List.mem_cons_of_mem _ hq)) ?_
    intro a b hlt
    have h1 := h a b
    have h2 := hE r List.mem_cons_self
    unfold wS1 at hlt ⊢
    split at hlt
    · rename_i hc; rw [if_pos hc]; omega
    · rename_i hc; rw [if_neg hc]; exact h1 hlt
theorem wI_bd {m : Nat} : bd9 m wI := by
  intro a b h
  unfold wI at h ⊢
  split at h
  · rename_i hc; rw [if_pos hc]; omega
  · omega
theorem phs_bd {w : Mx} {m : Nat} (h : bd9 m w) : ∀ k, bd9 (2 ^ k * m) (phs w k) := by
  intro k
  induction k with
  | zero => rw [Nat.pow_zero, Nat.one_mul]; exact h
  | succ k ih =>
    have := ph_bd (p := k) ih
    rw [show 2 ^ (k + 1) * m = 2 * (2 ^ k * m) by rw [Nat.pow_succ]; rw [Nat.mul_comm (2 ^ k) 2, Nat.mul_assoc]]
    exact this
/-- floors that no stair reaches -/
def iso (m : Nat) (w : Mx) : Prop := ∀ a b, a ≠ b → (m ≤ a ∨ m ≤ b) → w a b = 99999
theorem iso_I {m : Nat} : iso m wI := fun _ _ h _ => if_neg h
theorem iso_S {m : Nat} : ∀ (E : List (Nat × Nat × Nat × Nat × Nat)) (w : Mx), (∀ q ∈ E, q.1 < m ∧ q.2.1 < m) → iso m w → iso m (E.foldl wS1 w) := by
  intro E
  induction E with
  | nil => intro w _ h; exact h
  | cons r E ih =>
    intro w hE h
    refine ih _ (fun q hq => hE q (List.mem_cons_of_mem _ hq)) ?_
    intro a b hab hm
    have h2 := hE r List.mem_cons_self
    have e : wS1 w r a b = w a b := if_neg (by omega)
    rw [e]
    exact h a b hab hm
theorem iso_p {m p : Nat} {w : Mx} (h9 : le9 w) (hz : z0 w) (h : iso m w) : iso m (ph p w) := by
  intro a b hab hm
  have h1 := h a b hab hm
  have za := hz a
  unfold ph
  by_cases hap : a = p
  · subst hap; omega
  · by_cases hpb : p = b
    · subst hpb; omega
    · rcases hm with hm | hm
      · have := h a p hap (Or.inl hm); omega
      · have := h p b hpb (Or.inr hm); omega
theorem ph_id {m p : Nat} {w : Mx} (h9 : le9 w) (hz : z0 w) (h : iso m w) (hp : m ≤ p) : ph p w = w := by
  funext a b
  have hab := h9 a b
  have zp := hz p
  unfold ph
  by_cases hap : a = p
  · subst hap; omega
  · have := h a p hap (Or.inr hp); omega
end
section
/-! the class measures the ways -/
theorem o3_div {a b : Nat} (ha : a < 2147483648) (hb : b < 2147483648) : o3 a / o3 b = o3 (a / b) := by
  have h1 : a / b ≤ a := Nat.div_le_self a b
  rw [ni_eq, Int32.toInt_div, o3_int ha, o3_int hb, o3_int (by omega)]
  have e : (a : Int).tdiv (b : Int) = ((a / b : Nat) : Int) := by
    rw [Int.tdiv_eq_ediv_of_nonneg (by omega)]
    exact (Int.natCast_ediv a b).symm
  rw [e]
  clear e
  generalize a / b = q at h1
  exact ni_bm (by omega) (by omega)
theorem o3_ne0 {a : Nat} (ha : a < 2147483648) (h : a ≠ 0) : o3 a ≠ 0 := fun q => h ((o3_inj (b := 0) ha (by omega)).mp q)
theorem o3_dI {a b : Nat} (ha : a < 2147483648) (hb : b < 2147483648) (h : b ≠ 0) : dI (o3 a) (o3 b) = some (o3 (a / b)) := by
  unfold dI
  rw [if_neg (o3_ne0 hb h), o3_div ha hb]
theorem o3_rI {a b : Nat} (ha : a < 2147483648) (hb : b < 2147483648) (h : b ≠ 0) : rI (o3 a) (o3 b) = some (o3 (a % b)) := by
  unfold rI
  have hd : a / b * b ≤ a := Nat.div_mul_le_self a b
  have hm : a % b = a - a / b * b := by
    have := Nat.div_add_mod a b
    rw [Nat.mul_comm] at this
    omega
  rw [if_neg (o3_ne0 hb h), o3_div ha hb, o3_mul, o3_sub hd, hm]
def cwv (m : Nat) : Int32 := if m = 99999 then -1 else o3 m
def rW (S : fS) (r : Nat) (w : Mx) : Prop := ∀ a b, a < 10 → b < 10 → S.1 r (10 * a + b) = cwv (w a b)
/-- all but one row of ints is as it was -/
def eR (r : Nat) (S T : fS) : Prop := (∀ a k, a ≠ r → T.1 a k = S.1 a k) ∧ T.2 = S.2
theorem eR.rf {r : Nat} {S : fS} : eR r S S := ⟨fun _ _ _ => rfl, rfl⟩
theorem eR.tr {r : Nat} {S T U : fS} (h : eR r S T) (g : eR r T U) : eR r S U := ⟨fun a k n => (g.1 a k n).trans (h.1 a k n), g.2.trans h.2⟩
theorem eR_pI {r k : Nat} {S : fS} {x : Int32} : eR r S (pI S r k x) := ⟨fun a j h => by rw [pI_get, if_neg (fun q => h q.1)], rfl⟩
theorem eR_tw {S T : fS} {F : List (Nat × Nat)} {E : List (Nat × Nat × Nat × Nat × Nat)} (h : eR 30 S T) (hw : twC S 24 F E) : twC T 24 F E := by
  obtain ⟨h1, h2, h3, h4⟩ := hw
  refine ⟨by rw [h.1 24 6 (by decide)]; exact h1, by rw [h.1 24 7 (by decide)]; exact h2, fun k hk => by rw [h.2]; exact h3 k hk, fun k hk => ?_⟩
  rw [h.1 (24 + 2) k (by decide), h.1 (24 + 3) k (by decide), h.1 (24 + 4) k (by decide), h.2]
  exact h4 k hk
def wm (w : Mx) (a b h : Nat) : Mx := fun x y => if x = a ∧ y = b then min (w x y) h else w x y
theorem cw_hb {S : fS} {v a b : Nat} (ha : a < 10) (hb : b < 10) : f_X8_hoursBetween v (o3 a) (o3 b) S = some (S.1 (v + 6) (10 * a + b)) := by
  unfold f_X8_hoursBetween
  rw [show (10 : Int32) = o3 10 from rfl, o3_mul, o3_add, gI_o (by omega) (by omega), bd_some, Nat.mul_comm]
theorem cw_short {S : fS} {w : Mx} {a b h : Nat} (hw : rW S 30 w) (h9 : le9 w) (ha : a < 10) (hb : b < 10) (hh : h < 99999) : ∃ S', f_X8_shorten 24 (o3 a) (o3 b) (o3 h) S = some S' ∧ rW S' 30 (wm w a b h) ∧ eR 30 S S' := by
  have h9 := h9 a b
  have hset : rW (pI S 30 (10 * a + b) (o3 h)) 30 (fun x y => if x = a ∧ y = b then h else w x y) := by
    intro x y hx hy
    rw [pI_get]
    by_cases hc : x = a ∧ y = b
    · rw [if_pos ⟨rfl, by omega⟩]
      show _ = cwv (if x = a ∧ y = b then h else w x y)
      rw [if_pos hc]
      unfold cwv
      rw [if_neg (by omega)]
    · rw [if_neg (fun q => hc ⟨by omega, by omega⟩)]
      show _ = cwv (if x = a ∧ y = b then h else w x y)
      rw [if_neg hc]
      exact hw x y hx hy
  unfold f_X8_shorten
  rw [cw_hb ha hb, bd_some, show S.1 (24 + 6) (10 * a + b) = cwv (w a b) from hw a b ha hb]
  have hidx : (o3 a * 10 + o3 b : Int32) = o3 (10 * a + b) := by
    rw [show (10 : Int32) = o3 10 from rfl, o3_mul, o3_add, Nat.mul_comm]
  rw [hidx, sI_o (by omega) (by omega)]
  by_cases hi : w a b = 99999
  · refine ⟨pI S 30 (10 * a + b) (o3 h), ?_, ?_, eR_pI⟩
    · unfold cwv
      rw [if_pos hi, if_pos (by decide)]
      rfl
    · have e : (fun x y => if x = a ∧ y = b then h else w x y) = wm w a b h := by
        funext x y
        unfold wm
        by_cases hc : x = a ∧ y = b
        · rw [if_pos hc, if_pos hc, hc.1, hc.2]; omega
        · rw [if_neg hc, if_neg hc]
      rw [← e]; exact hset
  · have hcw : cwv (w a b) = o3 (w a b) := if_neg hi
    rw [hcw, if_neg (o3_nn (by omega))]
    by_cases hle : w a b ≤ h
    · refine ⟨S, ?_, ?_, eR.rf⟩
      · rw [if_pos ((o3_le (by omega) (by omega)).mpr hle)]
      · have e : wm w a b h = w := by
          funext x y
          unfold wm
          by_cases hc : x = a ∧ y = b
          · rw [if_pos hc, hc.1, hc.2]; omega
          · rw [if_neg hc]
        rw [e]; exact hw
    · refine ⟨pI S 30 (10 * a + b) (o3 h), ?_, ?_, eR_pI⟩
      · rw [if_neg (fun q => hle ((o3_le (by omega) (by omega)).mp q))]
        rfl
      · have e : (fun x y => if x = a ∧ y = b then h else w x y) = wm w a b h := by
          funext x y
          unfold wm
          by_cases hc : x = a ∧ y = b
          · rw [if_pos hc, if_pos hc, hc.1, hc.2]; omega
          · rw [if_neg hc, if_neg hc]
        rw [← e]; exact hset
theorem cw_init {K : fS → Option fS} : ∀ d k m (S : fS), k + d = 100 → d < m → (∀ j, j < k → S.1 30 j = cwv (wI (j / 10) (j % 10))) → ∃ S', lp_X8_measureWays_2 24 K m (o3 k) S = K S' ∧ rW S' 30 wI ∧ eR 30 S S' := by
  intro d
  induction d with
  | zero =>
    intro k m S hk hm h
    obtain ⟨m, rfl⟩ : ∃ m', m = m' + 1 := ⟨m - 1, by omega⟩
    rw [lp_X8_measureWays_2.eq_2, if_pos (show (100 : Int32) ≤ o3 _ from (o3_le (a := 100) (by omega) (by omega)).mpr (by omega))]
    refine ⟨S, rfl, fun a b ha hb => ?_, eR.rf⟩
    rw [h (10 * a + b) (by omega), show (10 * a + b) / 10 = a by omega, show (10 * a + b) % 10 = b by omega]
  | succ d ih =>
    intro k m S hk hm h
    obtain ⟨m, rfl⟩ : ∃ m', m = m' + 1 := ⟨m - 1, by omega⟩
    rw [lp_X8_measureWays_2.eq_2, if_neg (show ¬ (100 : Int32) ≤ o3 _ from fun q => by have := (o3_le (a := 100) (by omega) (by omega)).mp q; omega)]
    rw [show (10 : Int32) = o3 10 from rfl, o3_dI (by omega) (by omega) (by omega), bd_some, o3_rI (by omega) (by omega) (by omega), bd_some, o3_s]
    have hx : ∀ x, x = cwv (wI (k / 10) (k % 10)) → ∃ S', lp_X8_measureWays_2 24 K m (o3 (k + 1)) (pI S (24 + 6) k x) = K S' ∧ rW S' 30 wI ∧ eR 30 S S' := by
      intro x hx
      obtain ⟨S', e1, e2, e3⟩ := ih (k + 1) m (pI S (24 + 6) k x) (by omega) (by omega) (fun j hj => by
        rw [pI_get]
        by_cases hc : j = k
        · rw [if_pos ⟨rfl, hc⟩, hc]; exact hx
        · rw [if_neg (fun q => hc q.2)]; exact h j (by omega))
      exact ⟨S', e1, e2, eR_pI.tr e3⟩
    by_cases hc : k / 10 = k % 10
    · rw [if_pos ((o3_inj (by omega) (by omega)).mpr hc), sI_o (by omega) (by omega), bd_some]
      refine hx 0 ?_
      unfold cwv wI
      rw [if_pos hc]
      rfl
    · rw [if_neg (fun q => hc ((o3_inj (by omega) (by omega)).mp q)), sI_o (by omega) (by omega), bd_some]
      refine hx (-1) ?_
      unfold cwv wI
      rw [if_neg hc]
      rfl
theorem gd_mem {α : Type} {l : List α} {d : α} {k : Nat} (h : k < l.length) : l.getD k d ∈ l := by
  rw [List.getD_eq_getElem?_getD, List.getElem?_eq_getElem h]
  exact List.getElem_mem h
theorem fl_take {α β : Type} {f : β → α → β} {l : List α} {w : β} {d : α} {k : Nat} (h : k < l.length) : (l.take (k + 1)).foldl f w = f ((l.take k).foldl f w) (l.getD k d) := by
  rw [List.take_succ_eq_append_getElem h, List.foldl_append]
  rw [List.getD_eq_getElem?_getD, List.getElem?_eq_getElem h]
  rfl
theorem cw_stairs {K : fS → Option fS} {F : List (Nat × Nat)} {E : List (Nat × Nat × Nat × Nat × Nat)} (hE : ∀ q ∈ E, okS 10 q) (hl : E.length ≤ 12) : ∀ d k m (S : fS), k + d = E.length → d < m → twC S 24 F E → rW S 30 ((E.take k).foldl wS1 wI) → ∃ S', lp_X8_measureWays_38 24 K m (o3 k) S = K S' ∧ rW S' 30 (wSt E) ∧ eR 30 S S' := by
  intro d
  induction d with
  | zero =>
    intro k m S hk hm ht hw
    obtain ⟨m, rfl⟩ : ∃ m', m = m' + 1 := ⟨m - 1, by omega⟩
    rw [lp_X8_measureWays_38.eq_2, ht.2.1, if_pos ((o3_le (by omega) (by omega)).mpr (by omega))]
    refine ⟨S, rfl, ?_, eR.rf⟩
    rw [show k = E.length by omega, List.take_length] at hw
    exact hw
  | succ d ih =>
    intro k m S hk hm ht hw
    obtain ⟨m, rfl⟩ : ∃ m', m = m' + 1 := ⟨m - 1, by omega⟩
    have hk2 : k < E.length := by omega
    obtain ⟨s1, s2, s3, s4, s5, -⟩ := hE _ (gd_mem (d := d5) hk2)
    have h9 : le9 ((E.take k).foldl wS1 wI) := fold_9 _ _ wI_9
    obtain ⟨r1, r2, r3, -⟩ := ht.2.2.2 k hk2
    rw [lp_X8_measureWays_38.eq_2, ht.2.1, if_neg (fun q => by have := (o3_le (by omega) (by omega)).mp q; omega)]
    rw [gI_o (by omega) (by omega), bd_some, gI_o (by omega) (by omega), bd_some, gI_o (by omega) (by omega), bd_some, r1, r2, r3]
    obtain ⟨S1, e1, w1, f1⟩ := cw_short hw h9 s1 s2 (h := (E.getD k d5).2.2.1) (by omega)
    have ht1 := eR_tw f1 ht
    obtain ⟨q1, q2, q3, -⟩ := ht1.2.2.2 k hk2
    rw [e1, bd_some, gI_o (by omega) (by omega), bd_some, gI_o (by omega) (by omega), bd_some, gI_o (by omega) (by omega), bd_some, q1, q2, q3]
    have h92 : le9 (wm ((E.take k).foldl wS1 wI) (E.getD k d5).1 (E.getD k d5).2.1 (E.getD k d5).2.2.1) := by
      intro x y
      have := h9 x y
      unfold wm
      split
      · omega
      · exact this
    obtain ⟨S2, e2, w2, f2⟩ := cw_short w1 h92 s2 s1 (h := (E.getD k d5).2.2.1) (by omega)
    rw [e2, bd_some, o3_s]
    obtain ⟨S3, e3, w3, f3⟩ := ih (k + 1) m S2 (by omega) (by omega) (eR_tw f2 ht1) (by
      rw [fl_take (d := d5) hk2]
      have e : wm (wm ((E.take k).foldl wS1 wI) (E.getD k d5).1 (E.getD k d5).2.1 (E.getD k d5).2.2.1) (E.getD k d5).2.1 (E.getD k d5).1 (E.getD k d5).2.2.1 = wS1 ((E.take k).foldl wS1 wI) (E.getD k d5) := by
        funext x y
        unfold wm wS1
        by_cases c1 : x = (E.getD k d5).1 ∧ y = (E.getD k d5).2.1
        · rw [if_pos c1, if_pos (Or.inl c1), if_neg (fun q => s3 (c1.1.symm.trans q.1))]
        · rw [if_neg c1]
          by_cases c2 : x = (E.getD k d5).2.1 ∧ y = (E.getD k d5).1
          · rw [if_pos c2, if_pos (Or.inr c2)]
          · rw [if_neg c2, if_neg (fun q => q.elim c1 c2)]
      rw [← e]
      exact w2)
    exact ⟨S3, e3, w3, f1.tr (f2.tr f3)⟩
/-- in the middle of a phase: the places before (a, b) are done -/
def mid (w : Mx) (p a b : Nat) : Mx := fun x y => if x < a ∨ (x = a ∧ y < b) then ph p w x y else w x y
theorem mid_row {w : Mx} {p a b x : Nat} (hz : z0 w) : mid w p a b x p = w x p := by
  have := hz p
  unfold mid ph
  split
  · omega
  · rfl
theorem mid_col {w : Mx} {p a b y : Nat} (hz : z0 w) : mid w p a b p y = w p y := by
  have := hz p
  unfold mid ph
  split
  · omega
  · rfl
theorem mid_9 {w : Mx} {p a b : Nat} (h : le9 w) : le9 (mid w p a b) := by
  intro x y
  have := h x y
  unfold mid ph
  split
  · omega
  · exact this
theorem mid_s {w : Mx} {p a b : Nat} : mid w p a (b + 1) = fun x y => if x = a ∧ y = b then ph p w a b else mid w p a b x y := by
  funext x y
  unfold mid
  by_cases hc : x = a ∧ y = b
  · rw [if_pos hc, if_pos (by omega), hc.1, hc.2]
  · rw [if_neg hc]
    by_cases h2 : x < a ∨ (x = a ∧ y < b)
    · rw [if_pos h2, if_pos (by omega)]
    · rw [if_neg h2, if_neg (by omega)]
theorem rW_cg {S : fS} {r : Nat} {w v : Mx} (h : rW S r w) (e : ∀ a b, a < 10 → b < 10 → v a b = w a b) : rW S r v := fun a b ha hb => by rw [e a b ha hb]; exact h a b ha hb
theorem cw_118 {K : fS → Option fS} {w : Mx} {nf M p a : Nat} (hz : z0 w) (h9 : le9 w) (hM : bd9 M w) (h2M : 2 * M < 99999) (hnf : nf ≤ 10) (hp : p < nf) (ha : a < nf) : ∀ d b m (S : fS), b + d = nf → d < m → S.1 24 6 = o3 nf → rW S 30 (mid w p a b) → ∃ S', lp_X8_measureWays_118 24 (o3 p) (o3 a) K m (o3 b) S = K S' ∧ rW S' 30 (mid w p a nf) ∧ eR 30 S S' := by
  intro d
  induction d with
  | zero =>
    intro b m S hb hm hn hw
    obtain ⟨m, rfl⟩ : ∃ m', m = m' + 1 := ⟨m - 1, by omega⟩
    rw [lp_X8_measureWays_118.eq_2, hn, if_pos ((o3_le (by omega) (by omega)).mpr (by omega))]
    rw [show b = nf by omega] at hw
    exact ⟨S, rfl, hw, eR.rf⟩
  | succ d ih =>
    intro b m S hb hm hn hw
    obtain ⟨m, rfl⟩ : ∃ m', m = m' + 1 := ⟨m - 1, by omega⟩
    have w9 := h9 a b
    have z1 := h9 a p
    have z2 := h9 p b
    rw [lp_X8_measureWays_118.eq_2, hn, if_neg (fun q => by have := (o3_le (by omega) (by omega)).mp q; omega)]
    rw [cw_hb (by omega) (by omega), bd_some, cw_hb (by omega) (by omega), bd_some, hw a p (by omega) (by omega), hw p b (by omega) (by omega), mid_row hz, mid_col hz, o3_s]
    have same : w a p + w p b ≥ 99999 → ∃ S', lp_X8_measureWays_118 24 (o3 p) (o3 a) K m (o3 (b + 1)) S = K S' ∧ rW S' 30 (mid w p a nf) ∧ eR 30 S S' := by
      intro hge
      refine ih (b + 1) m S (by omega) (by omega) hn (rW_cg hw (fun x y _ _ => ?_))
      rw [mid_s]
      by_cases hc : x = a ∧ y = b
      · show (if x = a ∧ y = b then ph p w a b else mid w p a b x y) = _
        rw [if_pos hc, hc.1, hc.2]
        unfold mid ph
        rw [if_neg (by omega)]
        omega
      · show (if x = a ∧ y = b then ph p w a b else mid w p a b x y) = _
        rw [if_neg hc]
    by_cases c1 : w a p = 99999
    · have e1 : cwv (w a p) = -1 := if_pos c1
      rw [e1, if_pos (by decide)]
      exact same (by omega)
    · have e1 : cwv (w a p) = o3 (w a p) := if_neg c1
      rw [e1, if_neg (o3_nn (by omega))]
      by_cases c2 : w p b = 99999
      · have e2 : cwv (w p b) = -1 := if_pos c2
        rw [e2, if_pos (by decide)]
        exact same (by omega)
      · have e2 : cwv (w p b) = o3 (w p b) := if_neg c2
        have m1 := hM a p (by omega)
        have m2 := hM p b (by omega)
        rw [e2, if_neg (o3_nn (by omega)), o3_add]
        obtain ⟨S1, g1, g2, g3⟩ := cw_short hw (mid_9 h9) (a := a) (b := b) (h := w a p + w p b) (by omega) (by omega) (by omega)
        rw [g1, bd_some]
        obtain ⟨S2, k1, k2, k3⟩ := ih (b + 1) m S1 (by omega) (by omega) (by rw [g3.1 24 6 (by decide)]; exact hn) (rW_cg g2 (fun x y _ _ => by
          rw [mid_s]
          show (if x = a ∧ y = b then ph p w a b else mid w p a b x y) = wm (mid w p a b) a b (w a p + w p b) x y
          unfold wm
          by_cases hc : x = a ∧ y = b
          · rw [if_pos hc, if_pos hc, hc.1, hc.2]
            unfold mid ph
            rw [if_neg (by omega)]
          · rw [if_neg hc, if_neg hc]))
        exact ⟨S2, k1, k2, g3.tr k3⟩
theorem cw_108 {K : fS → Option fS} {w : Mx} {nf M p : Nat} (hz : z0 w) (h9 : le9 w) (hM : bd9 M w) (h2M : 2 * M < 99999) (hi : iso nf w) (hnf : nf ≤ 10) (hp : p < nf) : ∀ d a m (S : fS), a + d = nf → d < m → S.1 24 6 = o3 nf → rW S 30 (mid w p a 0) → ∃ S', lp_X8_measureWays_108 24 (o3 p) K m (o3 a) S = K S' ∧ rW S' 30 (ph p w) ∧ eR 30 S S' := by
  intro d
  induction d with
  | zero =>
    intro a m S ha hm hn hw
    obtain ⟨m, rfl⟩ : ∃ m', m = m' + 1 := ⟨m - 1, by omega⟩
    rw [lp_X8_measureWays_108.eq_2, hn, if_pos ((o3_le (by omega) (by omega)).mpr (by omega))]
    refine ⟨S, rfl, rW_cg hw (fun x y _ _ => ?_), eR.rf⟩
    unfold mid
    by_cases hc : x < a ∨ (x = a ∧ y < 0)
    · rw [if_pos hc]
    · rw [if_neg hc]
      by_cases hxy : x = y
      · subst hxy
        have := hz x
        unfold ph
        omega
      · have i1 := iso_p (p := p) h9 hz hi x y hxy (Or.inl (by omega))
        have i2 := hi x y hxy (Or.inl (by omega))
        rw [i1, i2]
  | succ d ih =>
    intro a m S ha hm hn hw
    obtain ⟨m, rfl⟩ : ∃ m', m = m' + 1 := ⟨m - 1, by omega⟩
    rw [lp_X8_measureWays_108.eq_2, hn, if_neg (fun q => by have := (o3_le (by omega) (by omega)).mp q; omega)]
    obtain ⟨S1, g1, g2, g3⟩ := cw_118 (K := fun S58 => lp_X8_measureWays_108 24 (o3 p) K m (o3 a + (1 : Int32)) S58) hz h9 hM h2M hnf hp (a := a) (by omega) nf 0 FU S (by omega) (FU_lt (by omega)) hn hw
    rw [show (0 : Int32) = o3 0 from rfl, g1, o3_s]
    obtain ⟨S2, k1, k2, k3⟩ := ih (a + 1) m S1 (by omega) (by omega) (by rw [g3.1 24 6 (by decide)]; exact hn) (rW_cg g2 (fun x y hx hy => by
      unfold mid
      by_cases hc : x < a ∨ (x = a ∧ y < nf)
      · rw [if_pos hc, if_pos (by omega)]
      · rw [if_neg hc]
        by_cases h3 : x < a + 1 ∨ (x = a + 1 ∧ y < 0)
        · rw [if_pos h3]
          have hxy : x ≠ y := by omega
          rw [iso_p (p := p) h9 hz hi x y hxy (Or.inr (by omega)), hi x y hxy (Or.inr (by omega))]
        · rw [if_neg h3]))
    exact ⟨S2, k1, k2, g3.tr k3⟩
theorem cw_98 {K : fS → Option fS} {w0 : Mx} {nf : Nat} (hz : z0 w0) (h9 : le9 w0) (hM : bd9 9 w0) (hi : iso nf w0) (hnf : nf ≤ 10) : ∀ d p m (S : fS), p + d = nf → d < m → S.1 24 6 = o3 nf → rW S 30 (phs w0 p) → ∃ S', lp_X8_measureWays_98 24 K m (o3 p) S = K S' ∧ rW S' 30 (phs w0 nf) ∧ eR 30 S S' := by
  intro d
  induction d with
  | zero =>
    intro p m S hp hm hn hw
    obtain ⟨m, rfl⟩ : ∃ m', m = m' + 1 := ⟨m - 1, by omega⟩
    rw [lp_X8_measureWays_98.eq_2, hn, if_pos ((o3_le (by omega) (by omega)).mpr (by omega))]
    rw [show p = nf by omega] at hw
    exact ⟨S, rfl, hw, eR.rf⟩
  | succ d ih =>
    intro p m S hp hm hn hw
    obtain ⟨m, rfl⟩ : ∃ m', m = m' + 1 := ⟨m - 1, by omega⟩
    have hiso : ∀ k, iso nf (phs w0 k) := by
      intro k
      induction k with
      | zero => exact hi
      | succ k ihk => exact iso_p (phs_9 h9 k) (phs_z hz k) ihk
    have hb : 2 ^ p * 9 ≤ 4608 := by
      have : 2 ^ p ≤ 2 ^ 9 := Nat.pow_le_pow_right (by decide) (by omega)
      have e : (2 : Nat) ^ 9 = 512 := by decide
      omega
    rw [lp_X8_measureWays_98.eq_2, hn, if_neg (fun q => by have := (o3_le (by omega) (by omega)).mp q; omega)]
    obtain ⟨S1, g1, g2, g3⟩ := cw_108 (K := fun S60 => lp_X8_measureWays_98 24 K m (o3 p + (1 : Int32)) S60) (phs_z hz p) (phs_9 h9 p) (phs_bd hM p) (by omega) (hiso p) hnf (p := p) (by omega) nf 0 FU S (by omega) (FU_lt (by omega)) hn (rW_cg hw (fun x y _ _ => by
      unfold mid
      rw [if_neg (by omega)]))
    rw [show (0 : Int32) = o3 0 from rfl, g1, o3_s]
    obtain ⟨S2, k1, k2, k3⟩ := ih (p + 1) m S1 (by omega) (by omega) (by rw [g3.1 24 6 (by decide)]; exact hn) g2
    exact ⟨S2, k1, k2, g3.tr k3⟩
theorem phs_more {w0 : Mx} {nf : Nat} (hz : z0 w0) (h9 : le9 w0) (hi : iso nf w0) : ∀ d, phs w0 (nf + d) = phs w0 nf := by
  have hiso : ∀ k, iso nf (phs w0 k) := by
    intro k
    induction k with
    | zero => exact hi
    | succ k ihk => exact iso_p (phs_9 h9 k) (phs_z hz k) ihk
  intro d
  induction d with
  | zero => rfl
  | succ d ih =>
    show ph (nf + d) (phs w0 (nf + d)) = _
    rw [ph_id (phs_9 h9 _) (phs_z hz _) (hiso _) (by omega), ih]
theorem cw_all {X : fS} {F : List (Nat × Nat)} {E : List (Nat × Nat × Nat × Nat × Nat)} (ht : twC X 24 F E) (hF : F.length ≤ 10) (hE : E.length ≤ 12) (hq : ∀ q ∈ E, okS F.length q) : ∃ Y, f_X8_measureWays 24 X = some Y ∧ rW Y 30 (dst E) ∧ eR 30 X Y := by
  unfold f_X8_measureWays
  obtain ⟨S1, a1, a2, a3⟩ := cw_init (K := fun S15 => lp_X8_measureWays_38 24 (fun S42 => lp_X8_measureWays_98 24 (fun S62 => some S62) FU (0 : Int32) S42) FU (0 : Int32) S15) 100 0 FU X (by omega) (FU_lt (by omega)) (fun j hj => absurd hj (Nat.not_lt_zero _))
  obtain ⟨S2, b1, b2, b3⟩ := cw_stairs (F := F) (K := fun S42 => lp_X8_measureWays_98 24 (fun S62 => some S62) FU (0 : Int32) S42) (fun q h => okS_mo hF (hq q h)) hE E.length 0 FU S1 (by omega) (FU_lt (by omega)) (eR_tw a3 ht) (by rw [List.take_zero]; exact a2)
  have hz : z0 (wSt E) := fold_z _ _ wI_z
  have h9 : le9 (wSt E) := fold_9 _ _ wI_9
  have hi : iso F.length (wSt E) := iso_S _ _ (fun q h => ⟨(hq q h).1, (hq q h).2.1⟩) iso_I
  obtain ⟨S3, c1, c2, c3⟩ := cw_98 (K := fun S62 => some S62) hz h9 (fold_bd E wI (fun q h => (hq q h).2.2.2.2.1) wI_bd) hi hF F.length 0 FU S2 (by omega) (FU_lt (by omega)) ((eR_tw b3 (eR_tw a3 ht)).1) b2
  refine ⟨S3, ?_, ?_, a3.tr (b3.tr c3)⟩
  · rw [show (0 : Int32) = o3 0 from rfl] at a1 b1 ⊢
    rw [a1, b1, c1]
  · have e : dst E = phs (wSt E) F.length := by
      have := phs_more hz h9 hi (10 - F.length)
      rw [show F.length + (10 - F.length) = 10 by omega] at this
      exact this
    rw [e]; exact c2
end
section
/-! the class's tower, read to its end -/
theorem eR_TB {S T : fS} {B : TB} (h : eR 30 S T) (hB : TBc S B) : TBc T B := by
  obtain ⟨h1, h2, h3, h4⟩ := hB
  refine ⟨eR_tw h h1, by rw [h.1 31 5 (by decide)]; exact h2, by rw [h.1 31 6 (by decide)]; exact h3, fun k hk => ?_⟩
  rw [h.1 (31 + 1) k (by decide), h.1 (31 + 2) k (by decide), h.1 (31 + 3) k (by decide), h.1 (31 + 4) k (by decide), h.2]
  exact h4 k hk
theorem TBc_tS {S : fS} {B : TB} {i s f : Int32} (hB : TBc S B) : TBc (tS S i s f) B := hB
theorem tall_s {t : Nat → Int32} {n f c i : Nat} {B : TB} : tall t n (f + 1) c i B = if (tcl t n c B i).1 = 0 then
      (if sk t n (tcl t n c B i).2.1 < n then (if t (sk t n (tcl t n c B i).2.1) = 59 then tall t n f (c + 1) (sk t n (tcl t n c B i).2.1 + 1) (tcl t n c B i).2.2 else (1 + 8 * sk t n (tcl t n c B i).2.1, (tcl t n c B i).2.2)) else (0, (tcl t n c B i).2.2))
    else ((tcl t n c B i).1, B) := rfl
theorem ct_readlp {n : Nat} (hl : n ≤ 400) {f : Int32} {K : fS → Option (Int32 × fS)} {t : Nat → Int32} : ∀ d c m B (S : fS) (i : Nat) (s : Int32), S.1 1 1 = o3 n → S.1 2 = t → TBc S B → okB B → i ≤ n → c + d = 24 → d < m → ∃ Y, lp_X9_read_41 K m (o3 c) (tS S (o3 i) s f) = some (if (tall t n (d + 1) c i B).1 = 0 then 1 else 0, Y) ∧ ((tall t n (d + 1) c i B).1 = 0 → TBc Y (tall t n (d + 1) c i B).2 ∧ okB (tall t n (d + 1) c i B).2 ∧ rW Y 30 (dst (tall t n (d + 1) c i B).2.2.1)) ∧ (¬ (tall t n (d + 1) c i B).1 = 0 → Y.1 1 4 = o3 (tall t n (d + 1) c i B).1) := by
  intro d
  induction d with
  | zero =>
    intro c m B S i s hn ht hB hok hi hcd hm
    subst ht
    obtain ⟨m, rfl⟩ : ∃ m', m = m' + 1 := ⟨m - 1, by omega⟩
    rw [lp_X9_read_41.eq_2, if_neg (show ¬ (24 : Int32) < o3 _ from fun q => by have := (o3_lt (a := 24) (by omega) (by omega)).mp q; omega)]
    obtain ⟨S', i', s', e, hT⟩ := ct_clause (s := s) (f := f) hn hl hB hok (c := c) (by omega) hi
    have hz : ¬ (tcl (S.1 2) n c B i).1 = 0 := fun q => by have := (tcl_ok hok q).2; omega
    rw [e, bd_some, if_neg hz, tall_s, if_neg hz]
    dsimp only
    rw [if_pos rfl, if_neg hz]
    exact ⟨_, rfl, fun q => absurd q hz, fun _ => rfl⟩
  | succ d ih =>
    intro c m B S i s hn ht hB hok hi hcd hm
    subst ht
    obtain ⟨m, rfl⟩ : ∃ m', m = m' + 1 := ⟨m - 1, by omega⟩
    rw [lp_X9_read_41.eq_2, if_neg (show ¬ (24 : Int32) < o3 _ from fun q => by have := (o3_lt (a := 24) (by omega) (by omega)).mp q; omega)]
    obtain ⟨S', i', s', e, hT⟩ := ct_clause (s := s) (f := f) hn hl hB hok (c := c) (by omega) hi
    rw [tall_s]
    by_cases hz : (tcl (S.1 2) n c B i).1 = 0
    · rw [if_pos hz] at e
      have hk := ct_keep e
      have hn' : S'.1 1 1 = o3 n := hk.1.trans hn
      have ht' : S'.1 2 = S.1 2 := hk.2
      have hle := tcl_le hi hz
      have hok' := (tcl_ok hok hz).1
      have hB' := hT hz
      have hsk := sk_le (t := S.1 2) hle.1
      rw [e, bd_some, if_pos hz]
      dsimp only
      rw [if_neg (show ¬ (1 : Int32) = 0 by decide), ct_end hn' hl hle.1, bd_some, ht']
      by_cases h1 : sk (S.1 2) n (tcl (S.1 2) n c B i).2.1 < n
      · rw [if_pos h1, if_pos h1]
        dsimp only
        rw [if_pos rfl, ct_sign hn' hl (by decide) hsk, bd_some, ht', sk_id]
        by_cases h2 : S.1 2 (sk (S.1 2) n (tcl (S.1 2) n c B i).2.1) = 59
        · have hc : sk (S.1 2) n (tcl (S.1 2) n c B i).2.1 < n ∧ S.1 2 (sk (S.1 2) n (tcl (S.1 2) n c B i).2.1) = 59 := ⟨h1, h2⟩
          rw [if_pos hc, if_pos h2]
          dsimp only
          rw [if_neg (show ¬ (1 : Int32) = 0 by decide), o3_s]
          exact ih (c + 1) m _ S' _ _ hn' ht' hB' hok' (by omega) (by omega) (by omega)
        · have hc : ¬ (sk (S.1 2) n (tcl (S.1 2) n c B i).2.1 < n ∧ S.1 2 (sk (S.1 2) n (tcl (S.1 2) n c B i).2.1) = 59) := fun q => h2 q.2
          rw [if_neg hc, if_neg h2]
          dsimp only
          rw [if_pos rfl, ct_fail, bd_some, tS_2]
          refine ⟨pI (tS S' (o3 (sk (S.1 2) n (tcl (S.1 2) n c B i).2.1)) s' f) 1 4 (1 + 8 * o3 (sk (S.1 2) n (tcl (S.1 2) n c B i).2.1) + 0), ?_, fun q => absurd q (by show ¬ (1 + 8 * _ = 0); omega), ?_⟩
          · rw [if_neg (by show ¬ (1 + 8 * _ = 0); omega)]; rfl
          · intro _
            show 1 + 8 * o3 (sk (S.1 2) n (tcl (S.1 2) n c B i).2.1) + 0 = _
            rw [show (1 : Int32) = o3 1 from rfl, show (8 : Int32) = o3 8 from rfl, show (0 : Int32) = o3 0 from rfl, o3_mul, o3_add, o3_add]
            rfl
      · rw [if_neg h1, if_neg h1]
        dsimp only
        rw [if_neg (show ¬ (1 : Int32) = 0 by decide)]
        obtain ⟨Y, y1, y2, y3⟩ := cw_all (X := tS S' (o3 (sk (S.1 2) n (tcl (S.1 2) n c B i).2.1)) s' f) (TBc_tS hB').1 hok'.1 hok'.2.1 hok'.2.2.2.2.1
        rw [y1, bd_some]
        exact ⟨Y, rfl, fun _ => ⟨eR_TB y3 (TBc_tS hB'), hok', y2⟩, fun q => absurd rfl q⟩
    · rw [if_neg hz] at e
      rw [e, bd_some, if_neg hz]
      dsimp only
      rw [if_pos rfl, if_neg hz]
      exact ⟨_, rfl, fun q => absurd q hz, fun _ => rfl⟩
/-- the class's reading of the tape as a tower -/
def tw0 (t : Nat → Int32) (n : Nat) : Nat × TB := tall t n 25 0 0 ([], [], [])
theorem c_read {S : fS} {n : Nat} (hn : S.1 1 1 = o3 n) (hl : n ≤ 400) : ∃ Y, f_X9_read S = some (if (tw0 (S.1 2) n).1 = 0 then 1 else 0, Y) ∧ ((tw0 (S.1 2) n).1 = 0 → TBc Y (tw0 (S.1 2) n).2 ∧ okB (tw0 (S.1 2) n).2 ∧ rW Y 30 (dst (tw0 (S.1 2) n).2.2.1)) ∧ (¬ (tw0 (S.1 2) n).1 = 0 → Y.1 1 4 = o3 (tw0 (S.1 2) n).1) := by
  unfold f_X9_read
  rw [bd_some, bd_some, bd_some, bd_some]
  unfold f_X7_rewind
  rw [bd_some, bd_some, bd_some, bd_some]
  exact ct_readlp hl (f := 0) 24 0 FU ([], [], []) (pI (pI (pI (pI S 24 6 0) 24 7 0) 31 5 0) 31 6 0) 0 0 hn rfl ⟨⟨rfl, rfl, fun k hk => absurd hk (Nat.not_lt_zero _), fun k hk => absurd hk (Nat.not_lt_zero _)⟩, rfl, rfl, fun k hk => absurd hk (Nat.not_lt_zero _)⟩ ⟨by decide, by decide, by decide, fun q hq => absurd hq List.not_mem_nil, fun q hq => absurd hq List.not_mem_nil, fun q hq => absurd hq List.not_mem_nil⟩ (by omega) (by omega) (FU_lt (by omega))
end
section
/-! the reference reads a tower -/
def TBm (S : fS) (B : TB) : Prop := S.1 145 7 = o3 B.1.length ∧ S.1 145 8 = o3 B.2.1.length ∧ S.1 145 9 = o3 B.2.2.length ∧ (∀ k, k < B.1.length → S.1 151 (2 * k) = o3 (B.1.getD k (0, 0)).1 ∧ S.1 151 (2 * k + 1) = o3 (B.1.getD k (0, 0)).2) ∧ (∀ k, k < B.2.1.length → S.1 152 (5 * k) = o3 (B.2.1.getD k d5).1 ∧ S.1 152 (5 * k + 1) = o3 (B.2.1.getD k d5).2.1 ∧ S.1 152 (5 * k + 2) = o3 (B.2.1.getD k d5).2.2.1 ∧ S.1 152 (5 * k + 3) = o3 (B.2.1.getD k d5).2.2.2.1 ∧ S.1 152 (5 * k + 4) = o3 (B.2.1.getD k d5).2.2.2.2) ∧ (∀ k, k < B.2.2.length → S.1 153 k = o3 (B.2.2.getD k 0))
def wM (a k : Nat) : Prop := (a = 145 ∧ (k = 7 ∨ k = 8 ∨ k = 9)) ∨ a = 151 ∨ a = 152 ∨ a = 153
def eM (S T : fS) : Prop := (∀ a k, ¬ wM a k → T.1 a k = S.1 a k) ∧ T.2 = S.2
theorem eM.rf {S : fS} : eM S S := ⟨fun _ _ _ => rfl, rfl⟩
theorem eM.tr {S T U : fS} (h : eM S T) (g : eM T U) : eM S U := ⟨fun a k n => (g.1 a k n).trans (h.1 a k n), g.2.trans h.2⟩
theorem eM_pI {S : fS} {a k : Nat} {x : Int32} (h : wM a k) : eM S (pI S a k x) := ⟨fun b j n => by
  rw [pI_get]
  by_cases q : b = a ∧ j = k
  · exact absurd (q.1 ▸ q.2 ▸ h) n
  · rw [if_neg q], rfl⟩
theorem mS_p {S : fS} {i w u x : Int32} {a k : Nat} (h : ¬ (a = 145 ∧ (k = 13 ∨ k = 14 ∨ k = 15))) : pI (mS S i w u) a k x = mS (pI S a k x) i w u := by
  unfold mS
  rw [pI_sw (by omega), pI_sw (a := 145) (k := 14) (by omega), pI_sw (a := 145) (k := 13) (by omega)]
theorem mS_ne {S : fS} {i w u : Int32} {a k : Nat} (h : ¬ (a = 145 ∧ (k = 13 ∨ k = 14 ∨ k = 15))) : (mS S i w u).1 a k = S.1 a k := by
  unfold mS
  rw [pI_get, pI_get, pI_get, if_neg (by omega), if_neg (by omega), if_neg (by omega)]
theorem mw_L : ∀ w, w < 16 → ∀ x ∈ mm_sb.getD w [], 97 ≤ x.toInt ∧ x.toInt ≤ 122 := by decide
theorem mw_l : ∀ w, w < 16 → 0 < (mm_sb.getD w []).length ∧ (mm_sb.getD w []).length ≤ 8 := by decide
def mwc : List Int64 := [439905906546, 495873780082, 499967946343, 29807, 26982, 7237492, 7237495, 499967946343, 439905906546, 6383461, 1751478885, 1918989413, 122511331521396, 8750341718045717364, 6385252, 28530]
theorem mw_c : ∀ w, w < 16 → mwc.getD w 0 = Int64.ofNat (pkW (mm_sb.getD w [])) := by decide
section MR
variable {S : fS} {n : Nat} {u : Int32}
theorem mr_word {w : Int32} (hn : S.1 145 1 = o3 n) (hl : n ≤ 400) (c : Int64) (k : Nat) (hk : k < 16) (hc : c = mwc.getD k 0) {i : Nat} (hi : i ≤ n) : f_X11_isWord c (mS S (o3 i) w u) = some (if wat (S.1 146) n (mm_sb.getD k []) (sk (S.1 146) n i) = true then 1 else 0, mS S (o3 (sk (S.1 146) n i)) w u) := mt_isWord hn hl (mw_L k hk) (mw_l k hk).1 (mw_l k hk).2 (hc.trans (mw_c k hk)) hi
theorem mf_fails {X : fS} {i w u : Int32} {p k : Nat} (h0 : w = 0) : f_X11_fails (o3 k) (o3 p) (mS X i w u) = some (0, mS X i (o3 (1 + 8 * p + k)) u) := by
  subst h0
  rw [mt_fails (by rw [mS_14]), mS_wr, show (1 : Int32) = o3 1 from rfl, show (8 : Int32) = o3 8 from rfl, o3_mul, o3_add, o3_add]
/-- one number of a floor -/
theorem mf_floor1 (hn : S.1 145 1 = o3 n) (hl : n ≤ 400) {K : fS → Option (Int32 × fS)} {k p m : Nat} (hk : S.1 145 7 = o3 k) (h10 : k < 10) (hp : p < 2) {i : Nat} (hi : i ≤ n) : ∃ u', lp_X11_isFloorHere_22 K (m + 1) (o3 p) (mS S (o3 i) 0 u) = (if nmf (S.1 146) n i 1 20 = 0 then lp_X11_isFloorHere_22 K m (o3 (p + 1)) (mS (pI S 151 (2 * k + p) (o3 (nmv (S.1 146) n i))) (o3 (nmp (S.1 146) n i)) 0 (o3 (nmv (S.1 146) n i))) else some (0, mS S (o3 (nmp (S.1 146) n i)) (o3 (nmf (S.1 146) n i 1 20)) u')) := by
  rw [lp_X11_isFloorHere_22.eq_2, if_neg (show ¬ (2 : Int32) ≤ o3 _ from fun q => by have := (o3_le (a := 2) (by omega) (by omega)).mp q; omega)]
  obtain ⟨u1, e1⟩ := mt_num (u := u) hn hl (lo := 1) (hi := 20) hi
  rw [l1_20.1, l1_20.2.1] at e1
  refine ⟨u1, ?_⟩
  rw [e1, bd_some]
  by_cases c1 : nmf (S.1 146) n i 1 20 = 0
  · rw [if_pos c1, if_pos c1]
    dsimp only
    rw [if_neg (show ¬ (1 : Int32) = 0 by decide), mS_ne (by omega), mS_15, hk, show (2 : Int32) = o3 2 from rfl, o3_mul, o3_add, sI_o (by omega) (by omega), bd_some, mS_p (by omega), o3_s]
  · rw [if_neg c1, if_neg c1]
    dsimp only
    rw [if_pos (show (0 : Int32) = 0 from rfl)]
theorem mf_floorB {B : TB} {x y : Nat} (hB : TBm S B) : TBm (pI (pI (pI S 151 (2 * B.1.length + 0) (o3 x)) 151 (2 * B.1.length + 1) (o3 y)) 145 7 (o3 (B.1.length + 1))) (B.1 ++ [(x, y)], B.2) := by
  obtain ⟨b1, b2, b3, b4, b5, b6⟩ := hB
  refine ⟨?_, ?_, ?_, fun k hk => ?_, fun k hk => ?_, fun k hk => ?_⟩
  · rw [pI_get, if_pos ⟨rfl, rfl⟩, ln_app]
  · rw [pI_get, if_neg (by omega), pI_get, if_neg (by omega), pI_get, if_neg (by omega)]; exact b2
  · rw [pI_get, if_neg (by omega), pI_get, if_neg (by omega), pI_get, if_neg (by omega)]; exact b3
  · rw [ln_app] at hk
    rw [gd_app]
    by_cases hc : k = B.1.length
    · rw [if_pos hc]
      refine ⟨?_, ?_⟩
      · rw [pI_get, if_neg (by omega), pI_get, if_neg (by omega), pI_get, if_pos (by omega)]
      · rw [pI_get, if_neg (by omega), pI_get, if_pos (by omega)]
    · rw [if_neg hc]
      refine ⟨?_, ?_⟩
      · rw [pI_get, if_neg (by omega), pI_get, if_neg (by omega), pI_get, if_neg (by omega)]
        exact (b4 k (by omega)).1
      · rw [pI_get, if_neg (by omega), pI_get, if_neg (by omega), pI_get, if_neg (by omega)]
        exact (b4 k (by omega)).2
  · have := b5 k hk
    refine ⟨?_, ?_, ?_, ?_, ?_⟩
    · rw [pI_get, if_neg (by omega), pI_get, if_neg (by omega), pI_get, if_neg (by omega)]; exact this.1
    · rw [pI_get, if_neg (by omega), pI_get, if_neg (by omega), pI_get, if_neg (by omega)]; exact this.2.1
    · rw [pI_get, if_neg (by omega), pI_get, if_neg (by omega), pI_get, if_neg (by omega)]; exact this.2.2.1
    · rw [pI_get, if_neg (by omega), pI_get, if_neg (by omega), pI_get, if_neg (by omega)]; exact this.2.2.2.1
    · rw [pI_get, if_neg (by omega), pI_get, if_neg (by omega), pI_get, if_neg (by omega)]; exact this.2.2.2.2
  · rw [pI_get, if_neg (by omega), pI_get, if_neg (by omega), pI_get, if_neg (by omega)]; exact b6 k hk
theorem mf_floorlp (hn : S.1 145 1 = o3 n) (hl : n ≤ 400) {K : fS → Option (Int32 × fS)} {B : TB} (hB : TBm S B) (h10 : B.1.length < 10) {i : Nat} (hi : i ≤ n) : ∃ S' u' i', lp_X11_isFloorHere_22 K FU (o3 0) (mS S (o3 i) 0 u) = (if (tFl (S.1 146) n B i).1 = 0 then K (mS S' (o3 (tFl (S.1 146) n B i).2.1) 0 u') else some (0, mS S' i' (o3 (tFl (S.1 146) n B i).1) u')) ∧ eM S S' ∧ ((tFl (S.1 146) n B i).1 = 0 → TBm (pI S' 145 7 (o3 (B.1.length + 1))) (tFl (S.1 146) n B i).2.2 ∧ S'.1 145 7 = o3 B.1.length) := by
  have hi1 := nmp_le (t := S.1 146) hi
  obtain ⟨mm, hF⟩ := op_FU
  rw [hF]
  obtain ⟨u1, e1⟩ := mf_floor1 (u := u) (K := K) (m := mm + 1 + 1 + 1 + 1) (p := 0) hn hl hB.1 h10 (by omega) hi
  rw [e1]
  unfold tFl
  by_cases c1 : nmf (S.1 146) n i 1 20 = 0
  · rw [if_pos c1, if_pos c1]
    have hn1 : (pI S 151 (2 * B.1.length + 0) (o3 (nmv (S.1 146) n i))).1 145 1 = o3 n := by rw [pI_get, if_neg (by omega)]; exact hn
    have hk1 : (pI S 151 (2 * B.1.length + 0) (o3 (nmv (S.1 146) n i))).1 145 7 = o3 B.1.length := by rw [pI_get, if_neg (by omega)]; exact hB.1
    have ht1 : (pI S 151 (2 * B.1.length + 0) (o3 (nmv (S.1 146) n i))).1 146 = S.1 146 := funext fun k => by rw [pI_get, if_neg (by omega)]
    obtain ⟨u2, e2⟩ := mf_floor1 (u := o3 (nmv (S.1 146) n i)) (K := K) (m := mm + 1 + 1 + 1) (p := 0 + 1) hn1 hl hk1 h10 (by omega) hi1
    rw [ht1] at e2
    rw [e2]
    by_cases c2 : nmf (S.1 146) n (nmp (S.1 146) n i) 1 20 = 0
    · rw [if_pos c2, if_pos c2, lp_X11_isFloorHere_22.eq_2, if_pos (show (2 : Int32) ≤ o3 _ from (o3_le (a := 2) (by omega) (by omega)).mpr (by omega))]
      refine ⟨pI (pI S 151 (2 * B.1.length + 0) (o3 (nmv (S.1 146) n i))) 151 (2 * B.1.length + 1) (o3 (nmv (S.1 146) n (nmp (S.1 146) n i))), _, 0, rfl, (eM_pI (by unfold wM; omega)).tr (eM_pI (by unfold wM; omega)), fun _ => ⟨mf_floorB hB, ?_⟩⟩
      rw [pI_get, if_neg (by omega)]
      exact hk1
    · rw [if_neg c2, if_neg c2]
      exact ⟨pI S 151 (2 * B.1.length + 0) (o3 (nmv (S.1 146) n i)), u2, o3 (nmp (S.1 146) n (nmp (S.1 146) n i)), (if_neg c2).symm, eM_pI (by unfold wM; omega), fun q => absurd q c2⟩
  · rw [if_neg c1, if_neg c1]
    exact ⟨S, u1, o3 (nmp (S.1 146) n i), (if_neg c1).symm, eM.rf, fun q => absurd q c1⟩
end MR
end
section
section MR
variable {S : fS} {n : Nat} {u : Int32}
theorem mf_st1 (hn : S.1 145 1 = o3 n) (hl : n ≤ 400) {K : fS → Option (Int32 × fS)} {k p m : Nat} (h12 : k < 12) (hp2 : 2 ≤ p) (hp : p < 5) {i : Nat} (hi : i ≤ n) : ∃ u', lp_X11_isStairHere_114 (o3 (5 * k)) K (m + 1) (o3 p) (mS S (o3 i) 0 u) = (if nmf (S.1 146) n i 1 (if p = 2 then 9 else 20) = 0 then lp_X11_isStairHere_114 (o3 (5 * k)) K m (o3 (p + 1)) (mS (pI S 152 (5 * k + p) (o3 (nmv (S.1 146) n i))) (o3 (nmp (S.1 146) n i)) 0 (o3 (nmv (S.1 146) n i))) else some (0, mS S (o3 (nmp (S.1 146) n i)) (o3 (nmf (S.1 146) n i 1 (if p = 2 then 9 else 20))) u')) := by
  rw [lp_X11_isStairHere_114.eq_2, if_neg (show ¬ (5 : Int32) ≤ o3 _ from fun q => by have := (o3_le (a := 5) (by omega) (by omega)).mp q; omega)]
  by_cases h2 : p = 2
  · rw [if_pos (show o3 p = (2 : Int32) from (o3_inj (b := 2) (by omega) (by omega)).mpr h2), if_pos h2]
    obtain ⟨u1, e1⟩ := mt_num (u := u) hn hl (lo := 1) (hi := 9) hi
    rw [l1_20.1, l1_20.2.2] at e1
    refine ⟨u1, ?_⟩
    rw [e1, bd_some]
    by_cases c1 : nmf (S.1 146) n i 1 9 = 0
    · rw [if_pos c1, if_pos c1]
      dsimp only
      rw [if_neg (show ¬ (1 : Int32) = 0 by decide), mS_15, o3_add, sI_o (by omega) (by omega), bd_some, mS_p (by omega), o3_s]
    · rw [if_neg c1, if_neg c1]
      dsimp only
      rw [if_pos (show (0 : Int32) = 0 from rfl)]
  · rw [if_neg (show ¬ o3 p = (2 : Int32) from fun q => h2 ((o3_inj (b := 2) (by omega) (by omega)).mp q)), if_neg h2]
    obtain ⟨u1, e1⟩ := mt_num (u := u) hn hl (lo := 1) (hi := 20) hi
    rw [l1_20.1, l1_20.2.1] at e1
    refine ⟨u1, ?_⟩
    rw [e1, bd_some]
    by_cases c1 : nmf (S.1 146) n i 1 20 = 0
    · rw [if_pos c1, if_pos c1]
      dsimp only
      rw [if_neg (show ¬ (1 : Int32) = 0 by decide), mS_15, o3_add, sI_o (by omega) (by omega), bd_some, mS_p (by omega), o3_s]
    · rw [if_neg c1, if_neg c1]
      dsimp only
      rw [if_pos (show (0 : Int32) = 0 from rfl)]
def st5 (S : fS) (k a b c d e : Nat) : fS := pI (pI (pI (pI (pI S 152 (5 * k) (o3 a)) 152 (5 * k + 1) (o3 b)) 152 (5 * k + 2) (o3 c)) 152 (5 * k + 3) (o3 d)) 152 (5 * k + 4) (o3 e)
theorem st5_ne {k a b c d e x y : Nat} (h : x ≠ 152 ∨ y < 5 * k) : (st5 S k a b c d e).1 x y = S.1 x y := by
  unfold st5
  rw [pI_get, if_neg (by omega), pI_get, if_neg (by omega), pI_get, if_neg (by omega), pI_get, if_neg (by omega), pI_get, if_neg (by omega)]
theorem st5_eq {k a b c d e : Nat} : (st5 S k a b c d e).1 152 (5 * k) = o3 a ∧ (st5 S k a b c d e).1 152 (5 * k + 1) = o3 b ∧ (st5 S k a b c d e).1 152 (5 * k + 2) = o3 c ∧ (st5 S k a b c d e).1 152 (5 * k + 3) = o3 d ∧ (st5 S k a b c d e).1 152 (5 * k + 4) = o3 e := by
  unfold st5
  refine ⟨?_, ?_, ?_, ?_, ?_⟩
  · rw [pI_get, if_neg (by omega), pI_get, if_neg (by omega), pI_get, if_neg (by omega), pI_get, if_neg (by omega), pI_get, if_pos (by omega)]
  · rw [pI_get, if_neg (by omega), pI_get, if_neg (by omega), pI_get, if_neg (by omega), pI_get, if_pos (by omega)]
  · rw [pI_get, if_neg (by omega), pI_get, if_neg (by omega), pI_get, if_pos (by omega)]
  · rw [pI_get, if_neg (by omega), pI_get, if_pos (by omega)]
  · rw [pI_get, if_pos (by omega)]
theorem mf_stairB {B : TB} {a b c d e : Nat} (hB : TBm S B) : TBm (pI (st5 S B.2.1.length a b c d e) 145 8 (o3 (B.2.1.length + 1))) (B.1, B.2.1 ++ [(a, b, c, d, e)], B.2.2) := by
  obtain ⟨b1, b2, b3, b4, b5, b6⟩ := hB
  have he := st5_eq (S := S) (k := B.2.1.length) (a := a) (b := b) (c := c) (d := d) (e := e)
  refine ⟨?_, ?_, ?_, fun k hk => ⟨?_, ?_⟩, fun k hk => ?_, fun k hk => ?_⟩
  · rw [pI_get, if_neg (by omega), st5_ne (by omega)]; exact b1
  · rw [pI_get, if_pos ⟨rfl, rfl⟩, ln_app]
  · rw [pI_get, if_neg (by omega), st5_ne (by omega)]; exact b3
  · rw [pI_get, if_neg (by omega), st5_ne (by omega)]; exact (b4 k hk).1
  · rw [pI_get, if_neg (by omega), st5_ne (by omega)]; exact (b4 k hk).2
  · rw [ln_app] at hk
    rw [gd_app]
    by_cases hc : k = B.2.1.length
    · subst hc
      rw [if_pos rfl]
      refine ⟨?_, ?_, ?_, ?_, ?_⟩
      · rw [pI_get, if_neg (by omega)]; exact he.1
      · rw [pI_get, if_neg (by omega)]; exact he.2.1
      · rw [pI_get, if_neg (by omega)]; exact he.2.2.1
      · rw [pI_get, if_neg (by omega)]; exact he.2.2.2.1
      · rw [pI_get, if_neg (by omega)]; exact he.2.2.2.2
    · rw [if_neg hc]
      have hk2 : k < B.2.1.length := by omega
      have := b5 k hk2
      refine ⟨?_, ?_, ?_, ?_, ?_⟩
      · rw [pI_get, if_neg (by omega), st5_ne (by omega)]; exact this.1
      · rw [pI_get, if_neg (by omega), st5_ne (by omega)]; exact this.2.1
      · rw [pI_get, if_neg (by omega), st5_ne (by omega)]; exact this.2.2.1
      · rw [pI_get, if_neg (by omega), st5_ne (by omega)]; exact this.2.2.2.1
      · rw [pI_get, if_neg (by omega), st5_ne (by omega)]; exact this.2.2.2.2
  · rw [pI_get, if_neg (by omega), st5_ne (by omega)]; exact b6 k hk
/-- a state that goes on: what the reader needs of it -/
theorem mk_n {a k : Nat} {x : Int32} (hn : S.1 145 1 = o3 n) (h : ¬ (a = 145 ∧ k = 1)) : (pI S a k x).1 145 1 = o3 n := by
  rw [pI_get, if_neg (by omega)]; exact hn
theorem mk_t {a k : Nat} {x : Int32} (h : a ≠ 146) : (pI S a k x).1 146 = S.1 146 := funext fun j => by rw [pI_get, if_neg (by omega)]
/-- the last three numbers of a stair -/
theorem mf_st3 (hn : S.1 145 1 = o3 n) (hl : n ≤ 400) {K : fS → Option (Int32 × fS)} {k : Nat} (h12 : k < 12) {i : Nat} (hi : i ≤ n) : ∃ S' u' i', lp_X11_isStairHere_114 (o3 (5 * k)) K FU (o3 2) (mS S (o3 i) 0 u) = (if nmf (S.1 146) n i 1 9 = 0 then (if nmf (S.1 146) n (nmp (S.1 146) n i) 1 20 = 0 then (if nmf (S.1 146) n (nmp (S.1 146) n (nmp (S.1 146) n i)) 1 20 = 0 then K (mS (pI (pI (pI S 152 (5 * k + 2) (o3 (nmv (S.1 146) n i))) 152 (5 * k + 3) (o3 (nmv (S.1 146) n (nmp (S.1 146) n i)))) 152 (5 * k + 4) (o3 (nmv (S.1 146) n (nmp (S.1 146) n (nmp (S.1 146) n i))))) (o3 (nmp (S.1 146) n (nmp (S.1 146) n (nmp (S.1 146) n i)))) 0 u') else some (0, mS S' i' (o3 (nmf (S.1 146) n (nmp (S.1 146) n (nmp (S.1 146) n i)) 1 20)) u')) else some (0, mS S' i' (o3 (nmf (S.1 146) n (nmp (S.1 146) n i) 1 20)) u')) else some (0, mS S' i' (o3 (nmf (S.1 146) n i 1 9)) u')) ∧ eM S S' := by
  have hi1 := nmp_le (t := S.1 146) hi
  have hi2 := nmp_le (t := S.1 146) hi1
  obtain ⟨mm, hF⟩ := op_FU
  rw [hF]
  obtain ⟨u1, e1⟩ := mf_st1 (u := u) (K := K) (m := mm + 1 + 1 + 1 + 1) (p := 2) hn hl h12 (by omega) (by omega) hi
  rw [if_pos rfl] at e1
  rw [e1]
  by_cases c1 : nmf (S.1 146) n i 1 9 = 0
  · rw [if_pos c1]
    obtain ⟨u2, e2⟩ := mf_st1 (u := o3 (nmv (S.1 146) n i)) (K := K) (m := mm + 1 + 1 + 1) (p := 2 + 1) (mk_n (a := 152) (k := 5 * k + 2) (x := o3 (nmv (S.1 146) n i)) hn (by omega)) hl h12 (by omega) (by omega) hi1
    rw [if_neg (show ¬ (2 + 1 = 2) by omega), mk_t (by omega)] at e2
    rw [e2]
    by_cases c2 : nmf (S.1 146) n (nmp (S.1 146) n i) 1 20 = 0
    · rw [if_pos c2]
      obtain ⟨u3, e3⟩ := mf_st1 (u := o3 (nmv (S.1 146) n (nmp (S.1 146) n i))) (K := K) (m := mm + 1 + 1) (p := 2 + 1 + 1) (mk_n (a := 152) (k := 5 * k + (2 + 1)) (x := o3 (nmv (S.1 146) n (nmp (S.1 146) n i))) (mk_n (a := 152) (k := 5 * k + 2) (x := o3 (nmv (S.1 146) n i)) hn (by omega)) (by omega)) hl h12 (by omega) (by omega) hi2
      rw [if_neg (show ¬ (2 + 1 + 1 = 2) by omega), mk_t (by omega), mk_t (by omega)] at e3
      rw [e3]
      by_cases c3 : nmf (S.1 146) n (nmp (S.1 146) n (nmp (S.1 146) n i)) 1 20 = 0
      · rw [if_pos c3, lp_X11_isStairHere_114.eq_2, if_pos (show (5 : Int32) ≤ o3 _ from (o3_le (a := 5) (by omega) (by omega)).mpr (by omega))]
        exact ⟨S, _, 0, by rw [if_pos c1, if_pos c2, if_pos c3], eM.rf⟩
      · rw [if_neg c3]
        refine ⟨pI (pI S 152 (5 * k + 2) (o3 (nmv (S.1 146) n i))) 152 (5 * k + (2 + 1)) (o3 (nmv (S.1 146) n (nmp (S.1 146) n i))), u3, _, by rw [if_pos c1, if_pos c2, if_neg c3], (eM_pI (by unfold wM; omega)).tr (eM_pI (by unfold wM; omega))⟩
    · rw [if_neg c2]
      exact ⟨pI S 152 (5 * k + 2) (o3 (nmv (S.1 146) n i)), u2, _, by rw [if_pos c1, if_neg c2], eM_pI (by unfold wM; omega)⟩
  · rw [if_neg c1]
    exact ⟨S, u1, _, by rw [if_neg c1], eM.rf⟩
end MR
end
