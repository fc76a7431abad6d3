noncomputable section
/-! needed() -/
/-- a set of floors, spread along one stair; along all but one; so many rounds -/
def nst (q : St5) (s : Nat → Bool) : Nat → Bool := if s q.1 = true ∨ s q.2.1 = true then fun j => s j || decide (j = q.1) || decide (j = q.2.1) else s
def nro (E : List St5) (v : Nat) : Nat → Nat → (Nat → Bool) → (Nat → Bool)
  | 0, _, s => s
  | d + 1, k, s => nro E v d (k + 1) (if k = v then s else nst (E.getD k d5) s)
def nit (E : List St5) (v : Nat) : Nat → (Nat → Bool) → (Nat → Bool)
  | 0, s => s
  | r + 1, s => nit E v r (nro E v E.length 0 s)
theorem nst_le {q : St5} {s : Nat → Bool} {j : Nat} (h : s j = true) : nst q s j = true := by
  unfold nst
  split
  · show (s j || decide (j = q.1) || decide (j = q.2.1)) = true
    rw [h]; rfl
  · exact h
theorem nst_in {m : Nat} {q : St5} {s : Nat → Bool} (hq : okS m q) (hs : ∀ j, s j = true → j < m) : ∀ j, nst q s j = true → j < m := by
  intro j h
  unfold nst at h
  split at h
  · replace h : (s j || decide (j = q.1) || decide (j = q.2.1)) = true := h
    rw [Bool.or_eq_true, Bool.or_eq_true, decide_eq_true_eq, decide_eq_true_eq] at h
    rcases h with (h | h) | h
    · exact hs j h
    · rw [h]; exact hq.1
    · rw [h]; exact hq.2.1
  · exact hs j h
section NE
variable {E : List St5} {v m : Nat}
theorem nro_le : ∀ d k (s : Nat → Bool) j, s j = true → nro E v d k s j = true := by
  intro d
  induction d with
  | zero => intro k s j h; exact h
  | succ d ih =>
    intro k s j h
    refine ih (k + 1) _ j ?_
    split
    · exact h
    · exact nst_le h
theorem nro_in (hE : ∀ q ∈ E, okS m q) : ∀ d k (s : Nat → Bool), k + d ≤ E.length → (∀ j, s j = true → j < m) → ∀ j, nro E v d k s j = true → j < m := by
  intro d
  induction d with
  | zero => intro k s _ h; exact h
  | succ d ih =>
    intro k s hk h
    refine ih (k + 1) _ (by omega) ?_
    split
    · exact h
    · exact nst_in (hE _ (gd_mem (by omega))) h
/-- how many of the first ones are in -/
def ct (s : Nat → Bool) : Nat → Nat
  | 0 => 0
  | k + 1 => ct s k + (if s k = true then 1 else 0)
theorem ct_le {s : Nat → Bool} : ∀ k, ct s k ≤ k := by
  intro k
  induction k with
  | zero => exact Nat.le_refl 0
  | succ k ih =>
    show ct s k + (if s k = true then 1 else 0) ≤ k + 1
    split <;> omega
theorem ct_mo {s t : Nat → Bool} (h : ∀ j, s j = true → t j = true) : ∀ k, ct s k ≤ ct t k := by
  intro k
  induction k with
  | zero => exact Nat.le_refl 0
  | succ k ih =>
    show ct s k + (if s k = true then 1 else 0) ≤ ct t k + (if t k = true then 1 else 0)
    by_cases z : s k = true
    · rw [if_pos z, if_pos (h k z)]; omega
    · rw [if_neg z]; split <;> omega
theorem ct_st {s t : Nat → Bool} (h : ∀ j, s j = true → t j = true) : ∀ k, ct t k ≤ ct s k → ∀ j, j < k → t j = true → s j = true := by
  intro k
  induction k with
  | zero => intro _ j hj; omega
  | succ k ih =>
    intro hc j hj ht
    have hc : ct t k + (if t k = true then 1 else 0) ≤ ct s k + (if s k = true then 1 else 0) := hc
    have hm := ct_mo h k
    by_cases z : s k = true
    · rw [if_pos z, if_pos (h k z)] at hc
      by_cases e : j = k
      · rw [e]; exact z
      · exact ih (by omega) j (by omega) ht
    · rw [if_neg z] at hc
      by_cases e : j = k
      · subst e
        rw [if_pos ht] at hc
        omega
      · exact ih (by omega) j (by omega) ht
theorem nit_fx {s : Nat → Bool} (h : nro E v E.length 0 s = s) : ∀ r, nit E v r s = s := by
  intro r
  induction r with
  | zero => rfl
  | succ r ih => show nit E v r (nro E v E.length 0 s) = s; rw [h]; exact ih
theorem nit_ad : ∀ a b (s : Nat → Bool), nit E v (a + b) s = nit E v b (nit E v a s) := by
  intro a
  induction a with
  | zero => intro b s; rw [Nat.zero_add]; rfl
  | succ a ih => intro b s; rw [show a + 1 + b = (a + b) + 1 by omega]; exact ih b _
theorem nit_cl (hE : ∀ q ∈ E, okS m q) : ∀ r (s : Nat → Bool), (∀ j, s j = true → j < m) → m ≤ ct s m + r → nro E v E.length 0 (nit E v r s) = nit E v r s := by
  intro r
  have one : ∀ (s : Nat → Bool), (∀ j, s j = true → j < m) → ct (nro E v E.length 0 s) m ≤ ct s m → nro E v E.length 0 s = s := fun s hs hc => by
    refine funext fun j => ?_
    have h1 := nro_le (E := E) (v := v) E.length 0 s j
    have h2 : nro E v E.length 0 s j = true → s j = true := fun q => ct_st (fun j => nro_le (E := E) (v := v) E.length 0 s j) m hc j (nro_in hE E.length 0 s (by omega) hs j q) q
    cases e : s j with
    | true => exact h1 e
    | false =>
      cases e2 : nro E v E.length 0 s j with
      | true => rw [h2 e2] at e; exact e
      | false => rfl
  induction r with
  | zero =>
    intro s hs hc
    exact one s hs (by have := ct_le (s := nro E v E.length 0 s) m; omega)
  | succ r ih =>
    intro s hs hc
    show nro E v E.length 0 (nit E v r (nro E v E.length 0 s)) = nit E v r (nro E v E.length 0 s)
    by_cases z : ct (nro E v E.length 0 s) m ≤ ct s m
    · have := one s hs z
      rw [this, nit_fx this, this]
    · exact ih _ (nro_in hE E.length 0 s (by omega) hs) (by omega)
theorem nit_10 (hE : ∀ q ∈ E, okS m q) (hm : m ≤ 10) {s : Nat → Bool} (hs : ∀ j, s j = true → j < m) : nit E v 10 s = nit E v m s := by
  rw [show (10 : Nat) = m + (10 - m) by omega, nit_ad, nit_fx (nit_cl hE m s hs (by omega))]
/-- bits -/
def bi (x : Int32) (s : Nat → Bool) : Prop := ∀ j, j < 10 → x.toBitVec.getLsbD j = s j
theorem sh_tp : ∀ a, a < 10 → ((1 : Int32) <<< (o3 a &&& 31)).toBitVec = BitVec.twoPow 32 a := by decide
theorem tp_g {a j : Nat} (ha : a < 10) : (BitVec.twoPow 32 a).getLsbD j = decide (j = a) := by
  rw [BitVec.getLsbD_twoPow, decide_eq_true (show a < 32 by omega), Bool.true_and]
  by_cases h : a = j
  · rw [decide_eq_true h, decide_eq_true h.symm]
  · rw [decide_eq_false h, decide_eq_false (fun q => h q.symm)]
theorem bi_or {x : Int32} {s : Nat → Bool} {a b : Nat} (ha : a < 10) (hb : b < 10) (h : bi x s) : bi (x ||| (((1 : Int32) <<< (o3 a &&& 31)) ||| ((1 : Int32) <<< (o3 b &&& 31)))) (fun j => s j || decide (j = a) || decide (j = b)) := by
  intro j hj
  rw [Int32.toBitVec_or, Int32.toBitVec_or, sh_tp a ha, sh_tp b hb, BitVec.getLsbD_or, BitVec.getLsbD_or, tp_g ha, tp_g hb, h j hj]; exact (Bool.or_assoc _ _ _).symm
theorem bi_and {x y : Int32} {s : Nat → Bool} (h : bi x s) (hy : ∀ j, y.toBitVec.getLsbD j = true → j < 10) : x &&& y = 0 ↔ ∀ j, y.toBitVec.getLsbD j = true → s j = false := by
  rw [← Int32.toBitVec_inj, Int32.toBitVec_and]
  constructor
  · intro q j hj
    have := congrArg (fun z => BitVec.getLsbD z j) q
    replace this : (x.toBitVec &&& y.toBitVec).getLsbD j = (0#32).getLsbD j := this
    rw [BitVec.getLsbD_and, hj, Bool.and_true, BitVec.getLsbD_zero, h j (hy j hj)] at this
    exact this
  · intro q
    refine BitVec.eq_of_getLsbD_eq fun j hj => ?_
    show (x.toBitVec &&& y.toBitVec).getLsbD j = (0#32).getLsbD j
    rw [BitVec.getLsbD_and, BitVec.getLsbD_zero]
    cases e : y.toBitVec.getLsbD j with
    | false => rw [Bool.and_false]
    | true => rw [Bool.and_true, h j (hy j e), q j e]
theorem bi_2 {x : Int32} {s : Nat → Bool} {a b : Nat} (ha : a < 10) (hb : b < 10) (h : bi x s) : x &&& (((1 : Int32) <<< (o3 a &&& 31)) ||| ((1 : Int32) <<< (o3 b &&& 31))) = 0 ↔ ¬ (s a = true ∨ s b = true) := by
  have e : ∀ j, (((1 : Int32) <<< (o3 a &&& 31)) ||| ((1 : Int32) <<< (o3 b &&& 31))).toBitVec.getLsbD j = (decide (j = a) || decide (j = b)) := fun j => by rw [Int32.toBitVec_or, sh_tp a ha, sh_tp b hb, BitVec.getLsbD_or, tp_g ha, tp_g hb]
  rw [bi_and h (fun j q => by
    rw [e, Bool.or_eq_true, decide_eq_true_eq, decide_eq_true_eq] at q
    omega)]
  constructor
  · intro q w
    rcases w with w | w
    · rw [q a (by rw [e, decide_eq_true rfl]; rfl)] at w; exact nomatch w
    · rw [q b (by rw [e, decide_eq_true (show b = b from rfl), Bool.or_true])] at w; exact nomatch w
  · intro q j hj
    rw [e, Bool.or_eq_true, decide_eq_true_eq, decide_eq_true_eq] at hj
    cases w : s j with
    | false => rfl
    | true => exact absurd (hj.imp (fun z => z ▸ w) (fun z => z ▸ w)) q
theorem bi_1 {x : Int32} {s : Nat → Bool} {a : Nat} (ha : a < 10) (h : bi x s) : x &&& ((1 : Int32) <<< (o3 a &&& 31)) = 0 ↔ ¬ s a = true := by
  have e : ∀ j, ((1 : Int32) <<< (o3 a &&& 31)).toBitVec.getLsbD j = decide (j = a) := fun j => by rw [sh_tp a ha, tp_g ha]
  rw [bi_and h (fun j q => by
    rw [e, decide_eq_true_eq] at q
    omega)]
  constructor
  · intro q w
    rw [q a (by rw [e, decide_eq_true rfl])] at w; exact nomatch w
  · intro q j hj
    rw [e, decide_eq_true_eq] at hj
    cases w : s j with
    | false => rfl
    | true => exact absurd (hj ▸ w) q
theorem bi_s {a : Nat} (ha : a < 10) : bi ((1 : Int32) <<< (o3 a &&& 31)) (fun j => decide (j = a)) := fun j _ => by rw [sh_tp a ha, tp_g ha]
variable {F : List (Nat × Nat)}
theorem cn_22 {S : fS} {p3 : Int32} (b1 : twC S 4 F E) (hE : ∀ q ∈ E, okS F.length q) (hm : F.length ≤ 10) (hl : E.length ≤ 12) (hv : v < E.length) {K : Int32 → Option Int32} : ∀ d k nn x s, k + d = E.length → d < nn → bi x s → ∃ y, bi y (nro E v d k s) ∧ lp_X8_isWayAround_22 4 (o3 v) p3 S K nn x (o3 k) = K y := by
  intro d
  induction d with
  | zero =>
    intro k nn x s hk hnn h
    obtain ⟨nn, rfl⟩ : ∃ z, nn = z + 1 := ⟨nn - 1, by omega⟩
    refine ⟨x, h, ?_⟩
    rw [lp_X8_isWayAround_22.eq_2, b1.2.1, if_pos ((o3_le (by omega) (by omega)).mpr (by omega))]
  | succ d ih =>
    intro k nn x s hk hnn h
    obtain ⟨nn, rfl⟩ : ∃ z, nn = z + 1 := ⟨nn - 1, by omega⟩
    have hq := hE _ (gd_mem (d := d5) (show k < E.length by omega))
    have h1 := hq.1
    have h2 := hq.2.1
    obtain ⟨z1, z2, _, _⟩ := b1.2.2.2 k (by omega)
    rw [lp_X8_isWayAround_22.eq_2, b1.2.1, if_neg (fun q => by have := (o3_le (by omega) (by omega)).mp q; omega), gI_o (by omega) (by omega), bd_some, z1, gI_o (by omega) (by omega), bd_some, z2, o3_s]
    have hn : nro E v (d + 1) k s = nro E v d (k + 1) (if k = v then s else nst (E.getD k d5) s) := rfl
    rw [hn]
    by_cases e : k = v
    · rw [if_pos ((o3_inj (by omega) (by omega)).mpr e), if_pos e]
      exact ih (k + 1) nn x s (by omega) (by omega) h
    · rw [if_neg (fun q => e ((o3_inj (by omega) (by omega)).mp q)), if_neg e]
      unfold nst
      by_cases w : s (E.getD k d5).1 = true ∨ s (E.getD k d5).2.1 = true
      · rw [if_neg (fun q => (bi_2 (by omega) (by omega) h).mp q w), if_pos w]
        exact ih (k + 1) nn _ _ (by omega) (by omega) (bi_or (by omega) (by omega) h)
      · rw [if_pos ((bi_2 (by omega) (by omega) h).mpr w), if_neg w]
        exact ih (k + 1) nn x s (by omega) (by omega) h
theorem cn_11 {S : fS} (b1 : twC S 4 F E) (hE : ∀ q ∈ E, okS F.length q) (hm : F.length ≤ 10) (hl : E.length ≤ 12) (hv : v < E.length) {K : Int32 → Option Int32} : ∀ d k nn x s, k + d = F.length → d < nn → bi x s → ∃ y, bi y (nit E v d s) ∧ lp_X8_isWayAround_11 4 (o3 v) S K nn x (o3 k) = K y := by
  intro d
  induction d with
  | zero =>
    intro k nn x s hk hnn h
    obtain ⟨nn, rfl⟩ : ∃ z, nn = z + 1 := ⟨nn - 1, by omega⟩
    refine ⟨x, h, ?_⟩
    rw [lp_X8_isWayAround_11.eq_2, b1.1, if_pos ((o3_le (by omega) (by omega)).mpr (by omega))]
  | succ d ih =>
    intro k nn x s hk hnn h
    obtain ⟨nn, rfl⟩ : ∃ z, nn = z + 1 := ⟨nn - 1, by omega⟩
    rw [lp_X8_isWayAround_11.eq_2, b1.1, if_neg (fun q => by have := (o3_le (by omega) (by omega)).mp q; omega)]
    obtain ⟨y, y1, y2⟩ := cn_22 (p3 := o3 k) b1 hE hm hl hv (K := fun u14 => lp_X8_isWayAround_11 4 (o3 v) S K nn u14 (o3 k + (1 : Int32))) E.length 0 FU x s (by omega) (FU_lt (by omega)) h
    obtain ⟨y', w1, w2⟩ := ih (k + 1) nn y _ (by omega) (by omega) y1
    refine ⟨y', w1, y2.trans ?_⟩
    rw [o3_s]
    exact w2
/-- is there a way around? -/
def wA (F : List (Nat × Nat)) (E : List St5) (v : Nat) : Int32 := if nit E v F.length (fun j => decide (j = (E.getD v d5).1)) (E.getD v d5).2.1 = true then 1 else 0
theorem c_wa {S : fS} (b1 : twC S 4 F E) (hE : ∀ q ∈ E, okS F.length q) (hm : F.length ≤ 10) (hl : E.length ≤ 12) (hv : v < E.length) : f_X8_isWayAround 4 (o3 v) S = some (wA F E v) := by
  have hq := hE _ (gd_mem (d := d5) hv)
  have h1 := hq.1
  have h2 := hq.2.1
  obtain ⟨z1, z2, _, _⟩ := b1.2.2.2 v hv
  unfold f_X8_isWayAround wA
  rw [gI_o (by omega) (by omega), bd_some, z1]
  obtain ⟨y, y1, y2⟩ := cn_11 b1 hE hm hl hv (K := fun u16 => (gI S (4 + 3) 12 (o3 v)).bind fun a18 => if (u16 &&& ((1 : Int32) <<< (a18 &&& 31))) = (0 : Int32) then (some (0 : Int32)) else (some (1 : Int32))) F.length 0 FU _ _ (by omega) (FU_lt (by omega)) (bi_s (a := (E.getD v d5).1) (by omega))
  refine y2.trans ?_
  show (gI S (4 + 3) 12 (o3 v)).bind _ = _
  rw [gI_o (by omega) (by omega), bd_some, z2]
  by_cases w : nit E v F.length (fun j => decide (j = (E.getD v d5).1)) (E.getD v d5).2.1 = true
  · rw [if_neg (fun q => (bi_1 (by omega) y1).mp q w), if_pos w]
  · rw [if_pos ((bi_1 (by omega) y1).mpr w), if_neg w]
/-- the reference's row of booleans -/
def bo (S : fS) (s : Nat → Bool) : Prop := ∀ j, j < 10 → S.1 163 j = if s j = true then 1 else 0
def e163 (S T : fS) : Prop := T.2 = S.2 ∧ ∀ a k, a ≠ 163 → T.1 a k = S.1 a k
theorem e163.rf {S : fS} : e163 S S := ⟨rfl, fun _ _ _ => rfl⟩
theorem e163.tr {S T U : fS} (h : e163 S T) (g : e163 T U) : e163 S U := ⟨g.1.trans h.1, fun a k n => (g.2 a k n).trans (h.2 a k n)⟩
theorem e163_p {S : fS} {k : Nat} {x : Int32} : e163 S (pI S 163 k x) := ⟨rfl, fun a j h => pI_ne (by omega)⟩
theorem twM_163 {S T : fS} (m1 : twM (S.1 157) F E) (h : e163 S T) : twM (T.1 157) F E := by
  rw [show T.1 157 = S.1 157 from funext fun k => h.2 157 k (by omega)]; exact m1
theorem bo_p {S : fS} {s : Nat → Bool} {a b : Nat} (h : bo S s) : bo (pI (pI S 163 a 1) 163 b 1) (fun j => s j || decide (j = a) || decide (j = b)) := by
  intro j hj
  show _ = if (s j || decide (j = a) || decide (j = b)) = true then (1 : Int32) else 0
  by_cases e : j = b
  · rw [e, pI_eq, decide_eq_true (show b = b from rfl), Bool.or_true, if_pos rfl]
  · rw [pI_ne (by omega), decide_eq_false e, Bool.or_false]
    by_cases e : j = a
    · rw [e, pI_eq, decide_eq_true (show a = a from rfl), Bool.or_true, if_pos rfl]
    · rw [pI_ne (by omega), decide_eq_false e, Bool.or_false]
      exact h j hj
theorem nar1 : vp_nar .boolean (1 : Int32) = 1 := by decide
theorem nar0 : vp_nar .boolean (0 : Int32) = 0 := by decide
theorem mn_45 {p2 : Int32} (hE : ∀ q ∈ E, okS F.length q) (hm : F.length ≤ 10) (hl : E.length ≤ 12) (hv : v < E.length) {K : fS → Option (Int32 × fS)} : ∀ d k nn (S : fS) s, k + d = E.length → d < nn → twM (S.1 157) F E → bo S s → ∃ T, lp_X11_isSpare_45 (o3 v) p2 K nn (o3 k) S = K T ∧ bo T (nro E v d k s) ∧ e163 S T := by
  intro d
  induction d with
  | zero =>
    intro k nn S s hk hnn m1 h
    obtain ⟨nn, rfl⟩ : ∃ z, nn = z + 1 := ⟨nn - 1, by omega⟩
    refine ⟨S, ?_, h, e163.rf⟩
    rw [lp_X11_isSpare_45.eq_2, show gI S 157 158 1 = some (o3 E.length) from (gI_o (k := 1) (by omega) (by omega)).trans (congrArg some m1.2.1), bd_some, if_pos ((o3_le (by omega) (by omega)).mpr (by omega))]
  | succ d ih =>
    intro k nn S s hk hnn m1 h
    obtain ⟨nn, rfl⟩ : ∃ z, nn = z + 1 := ⟨nn - 1, by omega⟩
    have hq := hE _ (gd_mem (d := d5) (show k < E.length by omega))
    have h1 := hq.1
    have h2 := hq.2.1
    have h1' : (E.getD k d5).1 < 10 := by omega
    have h2' : (E.getD k d5).2.1 < 10 := by omega
    have z1 : ∀ T : fS, e163 S T → f_X11_stairOf (o3 k) 0 T = some (o3 (E.getD k d5).1) := fun T hT => (m_stairOf (k := 0) (by omega) (by omega)).trans (congrArg some ((twM_163 m1 hT).2.2.2 k (by omega)).1)
    have z2 : ∀ T : fS, e163 S T → f_X11_stairOf (o3 k) 1 T = some (o3 (E.getD k d5).2.1) := fun T hT => (m_stairOf (k := 1) (by omega) (by omega)).trans (congrArg some ((twM_163 m1 hT).2.2.2 k (by omega)).2.1)
    rw [lp_X11_isSpare_45.eq_2, show gI S 157 158 1 = some (o3 E.length) from (gI_o (k := 1) (by omega) (by omega)).trans (congrArg some m1.2.1), bd_some, if_neg (fun q => by have := (o3_le (by omega) (by omega)).mp q; omega), o3_s]
    have hn : nro E v (d + 1) k s = nro E v d (k + 1) (if k = v then s else nst (E.getD k d5) s) := rfl
    rw [hn]
    by_cases e : k = v
    · rw [if_pos ((o3_inj (by omega) (by omega)).mpr e), if_pos e]
      exact ih (k + 1) nn S s (by omega) (by omega) m1 h
    · rw [if_neg (fun q => e ((o3_inj (by omega) (by omega)).mp q)), if_neg e, z1 S e163.rf, bd_some, gI_o h1' (by omega), bd_some, h _ h1', z2 S e163.rf, bd_some, gI_o h2' (by omega), bd_some, h _ h2', bd_some, nar1, sI_o h1' (by omega), bd_some, z2 _ e163_p, bd_some, sI_o h2' (by omega), bd_some]
      obtain ⟨T, t1, t2, t3⟩ := ih (k + 1) nn _ _ (by omega) (by omega) (twM_163 m1 (e163_p.tr e163_p)) (bo_p (a := (E.getD k d5).1) (b := (E.getD k d5).2.1) h)
      have e13 := (e163_p.tr e163_p).tr t3
      unfold nst
      by_cases w1 : s (E.getD k d5).1 = true
      · rw [if_pos w1, if_neg (show ¬ (1 : Int32) = 0 by decide), if_pos (Or.inl w1)]
        exact ⟨T, t1, t2, e13⟩
      · rw [if_neg w1, if_pos rfl]
        by_cases w2 : s (E.getD k d5).2.1 = true
        · rw [if_pos w2, if_neg (show ¬ (1 : Int32) = 0 by decide), if_pos (Or.inr w2)]
          exact ⟨T, t1, t2, e13⟩
        · rw [if_neg w2, if_pos rfl, if_neg (fun q => q.elim w1 w2)]
          exact ih (k + 1) nn S s (by omega) (by omega) m1 h
theorem mn_37 (hE : ∀ q ∈ E, okS F.length q) (hm : F.length ≤ 10) (hl : E.length ≤ 12) (hv : v < E.length) {K : fS → Option (Int32 × fS)} : ∀ d k nn (S : fS) s, k + d = 10 → d < nn → twM (S.1 157) F E → bo S s → ∃ T, lp_X11_isSpare_37 (o3 v) K nn (o3 k) S = K T ∧ bo T (nit E v d s) ∧ e163 S T := by
  intro d
  induction d with
  | zero =>
    intro k nn S s hk hnn m1 h
    obtain ⟨nn, rfl⟩ : ∃ z, nn = z + 1 := ⟨nn - 1, by omega⟩
    refine ⟨S, ?_, h, e163.rf⟩
    rw [lp_X11_isSpare_37.eq_2, if_pos (show (10 : Int32) ≤ o3 k from (o3_le (a := 10) (by omega) (by omega)).mpr (by omega))]
  | succ d ih =>
    intro k nn S s hk hnn m1 h
    obtain ⟨nn, rfl⟩ : ∃ z, nn = z + 1 := ⟨nn - 1, by omega⟩
    rw [lp_X11_isSpare_37.eq_2, if_neg (show ¬ (10 : Int32) ≤ o3 k from fun q => by have := (o3_le (a := 10) (by omega) (by omega)).mp q; omega)]
    obtain ⟨T, t1, t2, t3⟩ := mn_45 (p2 := o3 k) hE hm hl hv (K := fun S58 => lp_X11_isSpare_37 (o3 v) K nn (o3 k + (1 : Int32)) S58) E.length 0 FU S s (by omega) (FU_lt (by omega)) m1 h
    obtain ⟨U, u1, u2, u3⟩ := ih (k + 1) nn T _ (by omega) (by omega) (twM_163 m1 t3) t2
    refine ⟨U, t1.trans ?_, u2, t3.tr u3⟩
    rw [o3_s]
    exact u1
theorem mn_2 (hE : ∀ q ∈ E, okS F.length q) (hm : F.length ≤ 10) (hl : E.length ≤ 12) (hv : v < E.length) {K : fS → Option (Int32 × fS)} : ∀ d k nn (S : fS), k + d = 10 → d < nn → twM (S.1 157) F E → (∀ j, j < k → S.1 163 j = if decide (j = (E.getD v d5).1) = true then 1 else 0) → ∃ T, lp_X11_isSpare_2 (o3 v) K nn (o3 k) S = K T ∧ bo T (fun j => decide (j = (E.getD v d5).1)) ∧ e163 S T := by
  intro d
  induction d with
  | zero =>
    intro k nn S hk hnn m1 h
    obtain ⟨nn, rfl⟩ : ∃ z, nn = z + 1 := ⟨nn - 1, by omega⟩
    refine ⟨S, ?_, fun j hj => h j (by omega), e163.rf⟩
    rw [lp_X11_isSpare_2.eq_2, if_pos (show (10 : Int32) ≤ o3 k from (o3_le (a := 10) (by omega) (by omega)).mpr (by omega))]
  | succ d ih =>
    intro k nn S hk hnn m1 h
    obtain ⟨nn, rfl⟩ : ∃ z, nn = z + 1 := ⟨nn - 1, by omega⟩
    have h1 := (hE _ (gd_mem (d := d5) hv)).1
    rw [lp_X11_isSpare_2.eq_2, if_neg (show ¬ (10 : Int32) ≤ o3 k from fun q => by have := (o3_le (a := 10) (by omega) (by omega)).mp q; omega), show f_X11_stairOf (o3 v) 0 S = some (o3 (E.getD v d5).1) from (m_stairOf (k := 0) (by omega) (by omega)).trans (congrArg some (m1.2.2.2 v hv).1), bd_some, nar1, nar0, sI_o (by omega) (by omega), sI_o (by omega) (by omega), bd_some, bd_some, o3_s]
    have key : ∀ x, x = (if decide (k = (E.getD v d5).1) = true then (1 : Int32) else 0) → ∃ T, lp_X11_isSpare_2 (o3 v) K nn (o3 (k + 1)) (pI S 163 k x) = K T ∧ bo T (fun j => decide (j = (E.getD v d5).1)) ∧ e163 S T := fun x hx => by
      obtain ⟨T, t1, t2, t3⟩ := ih (k + 1) nn (pI S 163 k x) (by omega) (by omega) (twM_163 m1 e163_p) (fun j hj => by
        by_cases e : j = k
        · rw [e, pI_eq, hx]
        · rw [pI_ne (by omega)]; exact h j (by omega))
      exact ⟨T, t1, t2, e163_p.tr t3⟩
    by_cases e : k = (E.getD v d5).1
    · rw [if_pos ((o3_inj (by omega) (by omega)).mpr e)]
      exact key 1 (by rw [decide_eq_true e, if_pos rfl])
    · rw [if_neg (fun q => e ((o3_inj (by omega) (by omega)).mp q))]
      exact key 0 (by rw [decide_eq_false e, if_neg (by decide)])
theorem m_sp {S : fS} (m1 : twM (S.1 157) F E) (hE : ∀ q ∈ E, okS F.length q) (hm : F.length ≤ 10) (hl : E.length ≤ 12) (hv : v < E.length) : ∃ T, f_X11_isSpare (o3 v) S = some (wA F E v, T) ∧ e163 S T := by
  have h1 := (hE _ (gd_mem (d := d5) hv)).1
  have h2 := (hE _ (gd_mem (d := d5) hv)).2.1
  unfold f_X11_isSpare
  obtain ⟨T, t1, t2, t3⟩ := mn_2 hE hm hl hv (K := fun S12 => lp_X11_isSpare_37 (o3 v) (fun S60 => (f_X11_stairOf (o3 v) (1 : Int32) S60).bind fun q62 => (gI S60 163 10 q62).bind fun a65 => (bZ a65).bind fun z68 => some (z68, S60)) FU (0 : Int32) S12) 10 0 FU S (by omega) (FU_lt (by omega)) m1 (fun j hj => absurd hj (Nat.not_lt_zero _))
  obtain ⟨U, u1, u2, u3⟩ := mn_37 hE hm hl hv (K := fun S60 => (f_X11_stairOf (o3 v) (1 : Int32) S60).bind fun q62 => (gI S60 163 10 q62).bind fun a65 => (bZ a65).bind fun z68 => some (z68, S60)) 10 0 FU T _ (by omega) (FU_lt (by omega)) (twM_163 m1 t3) t2
  have e2 := t3.tr u3
  refine ⟨U, (t1.trans u1).trans ?_, e2⟩
  show (f_X11_stairOf (o3 v) 1 U).bind _ = _
  rw [show f_X11_stairOf (o3 v) 1 U = some (o3 (E.getD v d5).2.1) from (m_stairOf (k := 1) (by omega) (by omega)).trans (congrArg some ((twM_163 m1 e2).2.2.2 v hv).2.1), bd_some, gI_o (by omega) (by omega), bd_some, u2 _ (by omega), nit_10 hE hm (fun j hj => by rw [decide_eq_true_eq] at hj; omega)]
  unfold wA bZ
  by_cases w : nit E v F.length (fun j => decide (j = (E.getD v d5).1)) (E.getD v d5).2.1 = true
  · rw [if_pos w, if_pos (Or.inr rfl), bd_some]
  · rw [if_neg w, if_pos (Or.inl rfl), bd_some]
end NE
def nd (F : List (Nat × Nat)) (E : List St5) : Nat → Nat → Int32 → Int32
  | 0, _, x => x
  | d + 1, k, x => nd F E d (k + 1) (if wA F E k = 0 then x ||| ((1 : Int32) <<< (o3 k &&& 31)) else x)
theorem t_26 (S : fS) (hR : Rel S) : ∃ r S2, f_X10_needed S = some r ∧ f_X11_needed S = some (r, S2) ∧ Rel S2 := by
  obtain ⟨n', s, L, M, hT, hS, hL, hM⟩ := hR
  have hS0 := hS
  obtain ⟨⟨n1, n2, n3, n4, n5, n6⟩, ⟨b1, b2, b3, b4, b5⟩, ⟨m1, m2, m3, m4⟩, d⟩ := hS
  have hc : ∀ d k nn x, k + d = s.2.1.length → d < nn → lp_X10_needed_4 S (fun u6 => some u6) nn x (o3 k) = some (nd s.1 s.2.1 d k x) := by
    intro d
    induction d with
    | zero =>
      intro k nn x hk hnn
      obtain ⟨nn, rfl⟩ : ∃ z, nn = z + 1 := ⟨nn - 1, by omega⟩
      rw [lp_X10_needed_4.eq_2, b1.2.1, if_pos ((o3_le (by omega) (by omega)).mpr (by omega))]
      rfl
    | succ d ih =>
      intro k nn x hk hnn
      obtain ⟨nn, rfl⟩ : ∃ z, nn = z + 1 := ⟨nn - 1, by omega⟩
      rw [lp_X10_needed_4.eq_2, b1.2.1, if_neg (fun q => by have := (o3_le (by omega) (by omega)).mp q; omega), c_wa b1 n4 n1 n2 (by omega), bd_some, o3_s]
      show _ = some (nd s.1 s.2.1 d (k + 1) (if wA s.1 s.2.1 k = 0 then x ||| ((1 : Int32) <<< (o3 k &&& 31)) else x))
      by_cases w : wA s.1 s.2.1 k = 0
      · rw [if_pos w, if_pos w]; exact ih (k + 1) nn _ (by omega) (by omega)
      · rw [if_neg w, if_neg w]; exact ih (k + 1) nn _ (by omega) (by omega)
  have hm : ∀ d k nn x (T : fS), k + d = s.2.1.length → d < nn → twM (T.1 157) s.1 s.2.1 → ∃ U, lp_X11_needed_4 (fun u9 S10 => some (u9, S10)) nn x (o3 k) T = some (nd s.1 s.2.1 d k x, U) ∧ e163 T U := by
    intro d
    induction d with
    | zero =>
      intro k nn x T hk hnn m1
      obtain ⟨nn, rfl⟩ : ∃ z, nn = z + 1 := ⟨nn - 1, by omega⟩
      rw [lp_X11_needed_4.eq_2, show gI T 157 158 1 = some (o3 s.2.1.length) from (gI_o (k := 1) (by omega) (by omega)).trans (congrArg some m1.2.1), bd_some, if_pos ((o3_le (by omega) (by omega)).mpr (by omega))]
      exact ⟨T, rfl, e163.rf⟩
    | succ d ih =>
      intro k nn x T hk hnn m1
      obtain ⟨nn, rfl⟩ : ∃ z, nn = z + 1 := ⟨nn - 1, by omega⟩
      obtain ⟨U, u1, u2⟩ := m_sp m1 n4 n1 n2 (v := k) (by omega)
      rw [lp_X11_needed_4.eq_2, show gI T 157 158 1 = some (o3 s.2.1.length) from (gI_o (k := 1) (by omega) (by omega)).trans (congrArg some m1.2.1), bd_some, if_neg (fun q => by have := (o3_le (by omega) (by omega)).mp q; omega), u1, bd_some, o3_s, Int32.or_zero]
      have hnd : nd s.1 s.2.1 (d + 1) k x = nd s.1 s.2.1 d (k + 1) (if wA s.1 s.2.1 k = 0 then x ||| ((1 : Int32) <<< (o3 k &&& 31)) else x) := rfl
      rw [hnd]
      obtain ⟨V, v1, v2⟩ := ih (k + 1) nn (if wA s.1 s.2.1 k = 0 then x ||| ((1 : Int32) <<< (o3 k &&& 31)) else x) U (by omega) (by omega) (twM_163 m1 u2)
      refine ⟨V, ?_, u2.tr v2⟩
      by_cases w : wA s.1 s.2.1 k = 0
      · rw [if_pos w] at v1 ⊢; rw [if_pos w]; exact v1
      · rw [if_neg w] at v1 ⊢; rw [if_neg w]; exact v1
  obtain ⟨U, u1, u2⟩ := hm s.2.1.length 0 FU 0 S (by omega) (FU_lt (by omega)) m1
  refine ⟨_, U, hc s.2.1.length 0 FU 0 (by omega) (FU_lt (by omega)), u1, n', s, L, M, ?_, ?_, ?_, ?_⟩
  · exact rTp_eq hT (u2.2 _ _ (by omega)) (u2.2 _ _ (by omega)) (fun k => u2.2 _ _ (by omega)) (fun k => u2.2 _ _ (by omega))
  · exact rSc_eq hS0 (fun a k _ _ => u2.2 a k (by omega)) (fun a k _ _ => by rw [u2.1]) (by rw [u2.2 3 3 (by omega)]; exact hS0.2.1.2.2.2.2) (fun k => u2.2 _ _ (by omega)) (fun a k _ => by rw [u2.1])
  · exact rRu_eq hL (u2.2 _ _ (by omega)) (u2.2 _ _ (by omega)) (fun a k _ _ _ => u2.2 a k (by omega)) (fun a k _ => u2.2 a k (by omega))
  · exact rIm_eq hM (fun a k _ _ => u2.2 a k (by omega)) (fun a k _ _ => by rw [u2.1]) (fun k => u2.2 _ _ (by omega)) (fun k => by rw [u2.1]) (fun k => u2.2 _ _ (by omega))
end
noncomputable section
/-! meetings(): the class goes on -/
theorem and31 (y : Int64) : ∃ x, x < 2147483648 ∧ Int64.toInt32 (y &&& 2147483647) = o3 x := by
  have h1 : (y &&& 2147483647).toBitVec.toNat < 2147483648 := by
    rw [Int64.toBitVec_and, BitVec.toNat_and]
    have : (2147483647 : Int64).toBitVec.toNat = 2147483647 := by decide
    rw [this]
    exact Nat.lt_of_le_of_lt Nat.and_le_right (by omega)
  have h2 : (y &&& 2147483647).toInt = ((y &&& 2147483647).toBitVec.toNat : Int) := BitVec.toInt_eq_toNat_of_lt (by omega)
  generalize y &&& 2147483647 = w at h1 h2
  refine ⟨w.toBitVec.toNat, h1, ?_⟩
  rw [← o6_to3 h1]
  exact congrArg Int64.toInt32 (nl_eq.mpr (by rw [h2, o6_int (by omega)]))
theorem c_draw {S : fS} : ∃ a x, a < 2147483648 ∧ x < 2147483648 ∧ f_X6_draw 3 S = some (o3 a, pI S 3 3 (o3 x)) := by
  obtain ⟨x, x1, x2⟩ := and31 ((((Int32.toInt64 (S.1 3 3)) * (1103515245 : Int64)) + (12345 : Int64)))
  unfold f_X6_draw
  rw [x2, bd_some, pI_eq, show (65536 : Int32) = o3 65536 from rfl, o3_dI x1 (by omega) (by omega), bd_some]
  exact ⟨x / 65536, x, by omega, x1, rfl⟩
def eMt (S T : fS) : Prop := (∀ a k, ¬ (31 ≤ a ∧ a ≤ 36) → ¬ (a = 3 ∧ k = 3) → T.1 a k = S.1 a k) ∧ (∀ a k, ¬ (31 ≤ a ∧ a ≤ 36) → T.2 a k = S.2 a k)
theorem eMt.rf {S : fS} : eMt S S := ⟨fun _ _ _ _ => rfl, fun _ _ _ => rfl⟩
theorem eMt.tr {S T U : fS} (h : eMt S T) (g : eMt T U) : eMt S U := ⟨fun a k x y => (g.1 a k x y).trans (h.1 a k x y), fun a k x => (g.2 a k x).trans (h.2 a k x)⟩
theorem eMt_G {S T : fS} (h : ∀ p, eG 31 p S T) : eMt S T := ⟨fun a k x _ => (h (a + 1)).1 a k (by omega) (by omega) (by omega), fun a k x => (h a).2 a k (by omega) (by omega)⟩
theorem eMt_p {S : fS} {x : Int32} : eMt S (pI S 3 3 x) := ⟨fun a k _ y => pI_ne y, fun _ _ _ => rfl⟩
def mI (F : List (Nat × Nat)) (E : List St5) (n h : Nat) (T : fS) : Prop := twC T 4 F E ∧ 0 ≤ (T.1 3 3).toInt ∧ ∃ C : Cw, C.1 = n ∧ C.2.1 = h ∧ okD F.length E C ∧ cwC T 31 C
theorem oe_ok {m : Nat} {E : List St5} {C : Cw} {th s f : Nat} (hC : okD m E C) (hE : ∀ q ∈ E, okS m q) (hs : s < E.length) (h : oeI (E.getD s d5) f ≠ -1) : okD m E (cOff C th s (oeI (E.getD s d5) f)) := by
  have hq := hE _ (gd_mem (d := d5) hs)
  refine cOff_ok (D := fun x _ => if x = f then (E.getD s d5).2.2.1 else 0) (b := 0) hC hE hs ?_
  by_cases e : (E.getD s d5).1 = f
  · refine Or.inl ⟨e, ?_, ?_⟩
    · show (if (E.getD s d5).2.1 = f then (E.getD s d5).2.2.1 else 0) < 99999
      have := hq.2.2.2.2.1
      split <;> omega
    · show (E.getD s d5).2.2.1 + (if (E.getD s d5).2.1 = f then (E.getD s d5).2.2.1 else 0) = if f = f then (E.getD s d5).2.2.1 else 0
      rw [if_pos rfl, if_neg (fun z => hq.2.2.1 (e.trans z.symm))]; rfl
  · by_cases e2 : (E.getD s d5).2.1 = f
    · refine Or.inr ⟨e, e2, ?_, ?_⟩
      · show (if (E.getD s d5).1 = f then (E.getD s d5).2.2.1 else 0) < 99999
        rw [if_neg e]; omega
      · show (E.getD s d5).2.2.1 + (if (E.getD s d5).1 = f then (E.getD s d5).2.2.1 else 0) = if f = f then (E.getD s d5).2.2.1 else 0
        rw [if_pos rfl, if_neg e]; rfl
    · exfalso
      apply h
      unfold oeI
      rw [if_neg e, if_neg e2]
section CMT
variable {F : List (Nat × Nat)} {E : List St5}
theorem mI_p {n h : Nat} {T : fS} {x : Nat} (hx : x < 2147483648) (hI : mI F E n h T) : mI F E n h (pI T 3 3 (o3 x)) := by
  obtain ⟨a, b, C, c1, c2, c3, c4⟩ := hI
  refine ⟨twC_eq a (fun a k _ _ => pI_ne (by omega)) (fun _ _ _ _ => rfl), by rw [pI_eq, o3_int hx]; omega, C, c1, c2, c3, cwC_eq c4 (fun a k _ _ => pI_ne (by omega)) (fun _ => rfl)⟩
theorem cm_at {S : fS} (hT : twC S 4 F E) (hE : ∀ q ∈ E, okS F.length q) (hm : F.length ≤ 10) (hl : E.length ≤ 12) {f : Nat} (hf : f < F.length) : ∃ c, c ≤ 12 ∧ f_X8_stairsAt 4 (o3 f) S = some (o3 c) := by
  have key : ∀ d k nn c, k + d = E.length → d < nn → ∃ c', c' ≤ c + d ∧ lp_X8_stairsAt_4 4 (o3 f) S (fun u6 => some u6) nn (o3 c) (o3 k) = some (o3 c') := by
    intro d
    induction d with
    | zero =>
      intro k nn c hk hnn
      obtain ⟨nn, rfl⟩ : ∃ z, nn = z + 1 := ⟨nn - 1, by omega⟩
      rw [lp_X8_stairsAt_4.eq_2, hT.2.1, if_pos ((o3_le (by omega) (by omega)).mpr (by omega))]
      exact ⟨c, by omega, rfl⟩
    | succ d ih =>
      intro k nn c hk hnn
      obtain ⟨nn, rfl⟩ : ∃ z, nn = z + 1 := ⟨nn - 1, by omega⟩
      rw [lp_X8_stairsAt_4.eq_2, hT.2.1, if_neg (fun q => by have := (o3_le (by omega) (by omega)).mp q; omega), ch_other hT hE hm hl (by omega) (by omega), bd_some, o3_s, o3_s, show (0 : Int32) = o3 0 from rfl, o3_add]
      split
      · obtain ⟨c', c1, c2⟩ := ih (k + 1) nn (c + 1) (by omega) (by omega)
        exact ⟨c', by omega, c2⟩
      · obtain ⟨c', c1, c2⟩ := ih (k + 1) nn (c + 0) (by omega) (by omega)
        exact ⟨c', by omega, c2⟩
  obtain ⟨c, c1, c2⟩ := key E.length 0 FU 0 (by omega) (FU_lt (by omega))
  exact ⟨c, by omega, c2⟩
theorem cm_pl {S : fS} (hT : twC S 4 F E) (hE : ∀ q ∈ E, okS F.length q) (hm : F.length ≤ 10) (hl : E.length ≤ 12) {f : Nat} (hf : f < F.length) {v : Int32} : f_X8_stairInPlace 4 (o3 f) v S = some (-1) ∨ ∃ k, k < E.length ∧ f_X8_stairInPlace 4 (o3 f) v S = some (o3 k) := by
  have key : ∀ d k nn (c : Int32), k + d = E.length → d < nn → lp_X8_stairInPlace_5 4 (o3 f) v S (fun (_ : Unit) => some (-1 : Int32)) nn c (o3 k) = some (-1) ∨ ∃ i, i < E.length ∧ lp_X8_stairInPlace_5 4 (o3 f) v S (fun (_ : Unit) => some (-1 : Int32)) nn c (o3 k) = some (o3 i) := by
    intro d
    induction d with
    | zero =>
      intro k nn c hk hnn
      obtain ⟨nn, rfl⟩ : ∃ z, nn = z + 1 := ⟨nn - 1, by omega⟩
      rw [lp_X8_stairInPlace_5.eq_2, hT.2.1, if_pos ((o3_le (by omega) (by omega)).mpr (by omega))]
      exact Or.inl rfl
    | succ d ih =>
      intro k nn c hk hnn
      obtain ⟨nn, rfl⟩ : ∃ z, nn = z + 1 := ⟨nn - 1, by omega⟩
      rw [lp_X8_stairInPlace_5.eq_2, hT.2.1, if_neg (fun q => by have := (o3_le (by omega) (by omega)).mp q; omega), ch_other hT hE hm hl (by omega) (by omega), bd_some, o3_s]
      split
      · split
        · exact Or.inr ⟨k, by omega, rfl⟩
        · exact ih (k + 1) nn _ (by omega) (by omega)
      · exact ih (k + 1) nn _ (by omega) (by omega)
  exact key E.length 0 FU 0 (by omega) (FU_lt (by omega))
theorem cm_off {n h : Nat} {T : fS} (hE : ∀ q ∈ E, okS F.length q) (hm : F.length ≤ 10) (hl : E.length ≤ 12) {th f : Nat} {v : Int32} (hth : th < n) (hf : f < F.length) (hv : v = -1 ∨ ∃ k, k < E.length ∧ v = o3 k) (hI : mI F E n h T) (hp : T.1 32 th = o3 f) : ∃ r U, f_X0_setOff 31 4 (o3 th) v T = some (r, U) ∧ mI F E n h U ∧ eMt T U := by
  have hI0 := hI
  obtain ⟨a, b, C, c1, c2, c3, c4⟩ := hI
  rcases hv with hv | ⟨k, k1, k2⟩
  · refine ⟨0, T, ?_, hI0, eMt.rf⟩
    unfold f_X0_setOff
    rw [hv, if_neg (show ¬ (0 : Int32) ≤ -1 by decide), if_neg (show ¬ (0 : Int32) ≤ -1 by decide)]
  · obtain ⟨U, u1, u2, u3⟩ := ch_off c4 c3.1 a hE hm hl (th := th) (k := k) (a := f) (by omega) k1 hf ((c4.2.2 th (by omega)).1.symm.trans hp)
    rw [k2, u1]
    by_cases z : oeI (E.getD k d5) f = -1
    · rw [if_pos z]; exact ⟨0, T, rfl, hI0, eMt.rf⟩
    · rw [if_neg z]
      have eq := eMt_G u3
      refine ⟨1, U, rfl, ⟨twC_eq a (fun a k _ _ => eq.1 a k (by omega) (by omega)) (fun a k _ _ => eq.2 a k (by omega)), ?_, cOff C th k (oeI (E.getD k d5) f), c1, c2, oe_ok c3 hE k1 z, u2⟩, eq⟩
      have := (u3 1000).1 3 3 (by omega) (by omega) (by omega)
      rw [this]; exact b
theorem cm_wan {n h : Nat} (hE : ∀ q ∈ E, okS F.length q) (hm : F.length ≤ 10) (hl : E.length ≤ 12) {K : fS → Option fS} : ∀ d k nn T, k + d = n → d < nn → mI F E n h T → ∃ U, lp_X10_wander_2 K nn (o3 k) T = K U ∧ mI F E n h U ∧ eMt T U := by
  intro d
  induction d with
  | zero =>
    intro k nn T hk hnn hI
    obtain ⟨nn, rfl⟩ : ∃ z, nn = z + 1 := ⟨nn - 1, by omega⟩
    refine ⟨T, ?_, hI, eMt.rf⟩
    obtain ⟨a, b, C, c1, c2, c3, c4⟩ := hI
    have h8 := c3.1
    rw [lp_X10_wander_2.eq_2, c4.1, if_pos ((o3_le (by omega) (by omega)).mpr (by omega))]
  | succ d ih =>
    intro k nn T hk hnn hI
    obtain ⟨nn, rfl⟩ : ∃ z, nn = z + 1 := ⟨nn - 1, by omega⟩
    have hI0 := hI
    obtain ⟨a, b, C, c1, c2, c3, c4⟩ := hI
    have h8 := c3.1
    have st : f_X0_isStanding 31 (o3 k) T = some (if C.2.2.1 k < 0 then 0 else 1) := by
      unfold f_X0_isStanding
      rw [gI_o (by omega) (by omega), bd_some, show T.1 (31 + 1) k = _ from (c4.2.2 k (by omega)).1]
      by_cases z : C.2.2.1 k < 0
      · rw [if_pos z, if_pos z]
      · rw [if_neg z, if_neg z]
    rw [lp_X10_wander_2.eq_2, c4.1, if_neg (fun q => by have := (o3_le (by omega) (by omega)).mp q; omega), st, bd_some, o3_s]
    by_cases z : C.2.2.1 k < 0
    · rw [if_pos z, if_pos rfl]
      exact ih (k + 1) nn T (by omega) (by omega) hI0
    · rw [if_neg z, if_neg (show ¬ (1 : Int32) = 0 by decide)]
      obtain ⟨f, f1, f2⟩ := okT_nn (c3.2.2 k (by omega)).1 hm z
      have hp : T.1 32 k = o3 f := ((c4.2.2 k (by omega)).1).trans f2
      obtain ⟨q, x, q1, x1, dr⟩ := c_draw (S := T)
      have hI1 := mI_p (x := x) x1 hI0
      obtain ⟨c, cc1, cc2⟩ := cm_at hI1.1 hE hm hl f1
      rw [gI_o (by omega) (by omega), bd_some, hp, dr, bd_some, show (4 : Int32) = o3 4 from rfl, o3_rI q1 (by omega) (by omega), bd_some]
      dsimp only
      rw [cc2, bd_some, bd_some]
      obtain ⟨U0, u1, u2, u3⟩ := ih (k + 1) nn (pI T 3 3 (o3 x)) (by omega) (by omega) hI1
      by_cases z4 : o3 (q % 4) = (0 : Int32)
      · rw [if_pos z4, if_neg (show ¬ (1 : Int32) = 0 by decide)]
        by_cases zc : o3 c ≤ (0 : Int32)
        · rw [if_pos zc]; exact ⟨U0, u1, u2, eMt_p.tr u3⟩
        · rw [if_neg zc]
          have hc0 : c ≠ 0 := fun e => zc (by rw [e]; decide)
          obtain ⟨q', x', q1', x1', dr'⟩ := c_draw (S := pI T 3 3 (o3 x))
          rw [dr', bd_some]
          dsimp only
          rw [o3_rI q1' (by omega) hc0, bd_some]
          have hI2 := mI_p (x := x') x1' hI1
          have hv := cm_pl hI2.1 hE hm hl f1 (v := o3 (q' % c))
          have hv' : ∃ v, f_X8_stairInPlace 4 (o3 f) (o3 (q' % c)) (pI (pI T 3 3 (o3 x)) 3 3 (o3 x')) = some v ∧ (v = -1 ∨ ∃ k, k < E.length ∧ v = o3 k) := by
            rcases hv with hv | ⟨i, i1, i2⟩
            · exact ⟨_, hv, Or.inl rfl⟩
            · exact ⟨_, i2, Or.inr ⟨i, i1, rfl⟩⟩
          obtain ⟨v, v1, v2⟩ := hv'
          obtain ⟨r, W, w1, w2, w3⟩ := cm_off (th := k) (f := f) (v := v) hE hm hl (by omega) f1 v2 hI2 (by rw [pI_ne (by omega), pI_ne (by omega)]; exact hp)
          obtain ⟨U, y1, y2, y3⟩ := ih (k + 1) nn W (by omega) (by omega) w2
          refine ⟨U, ?_, y2, ((eMt_p.tr eMt_p).tr w3).tr y3⟩
          rw [v1, bd_some, show (4 : Nat) = 4 from rfl, w1, bd_some]
          exact y1
      · rw [if_neg z4, if_pos rfl]; exact ⟨U0, u1, u2, eMt_p.tr u3⟩
theorem cm_hrs {n : Nat} {p1 p2 : Int32} (hF : ∀ q ∈ F, okF q) (hE : ∀ q ∈ E, okS F.length q) (hm : F.length ≤ 10) (hl : E.length ≤ 12) {i j m : Nat} (hi : i < n) (hj : j < n) (hm2 : m < 2147483648) {K : Int32 → fS → Option (Int32 × fS)} : ∀ d k nn (c : Int32) h T, k + d = m → d < nn → h + d ≤ 10199 → mI F E n h T → ∃ r U, lp_X10_hoursMet_20 (o3 i) (o3 j) (o3 m) K nn c (o3 k) T = K r U ∧ (∃ h', mI F E n h' U) ∧ eMt T U := by
  intro d
  induction d with
  | zero =>
    intro k nn c h T hk hnn hh hI
    obtain ⟨nn, rfl⟩ : ∃ z, nn = z + 1 := ⟨nn - 1, by omega⟩
    refine ⟨c, T, ?_, ⟨h, hI⟩, eMt.rf⟩
    rw [lp_X10_hoursMet_20.eq_2, if_pos ((o3_le (by omega) (by omega)).mpr (by omega))]
  | succ d ih =>
    intro k nn c h T hk hnn hh hI
    obtain ⟨nn, rfl⟩ : ∃ z, nn = z + 1 := ⟨nn - 1, by omega⟩
    have h8 : n ≤ 8 := by
      obtain ⟨_, _, C, c1, _, c3, _⟩ := hI
      rw [← c1]; exact c3.1
    obtain ⟨U, u1, u2, u3⟩ := cm_wan (K := fun S50 => some S50) hE hm hl n 0 FU T (by omega) (FU_lt (by omega)) hI
    obtain ⟨a, b, C, c1, c2, c3, c4⟩ := u2
    obtain ⟨V, v1, v2, v3⟩ := c_pass (t := 4) (c := 31) (by omega) hF hE hm hl c3 c4 a
    have eq := eMt_G v3
    have hIV : mI F E n (h + 1) V := ⟨twC_eq a (fun a k _ _ => eq.1 a k (by omega) (by omega)) (fun a k _ _ => eq.2 a k (by omega)), by rw [(v3 1000).1 3 3 (by omega) (by omega) (by omega)]; exact b, cPs F E C, c1, by show C.2.1 + 1 = h + 1; omega, cPs_ok c3 hF hE hm hl (by omega), v2⟩
    have tog : ∃ r, f_X0_isTogether 31 (o3 i) (o3 j) V = some r := by
      unfold f_X0_isTogether f_X0_isStanding
      rw [gI_o (by omega) (by omega), gI_o (by omega) (by omega), bd_some, bd_some, bd_some]
      by_cases z : V.1 (31 + 1) i < 0
      · rw [if_pos z, bd_some, if_pos rfl]; exact ⟨_, rfl⟩
      · rw [if_neg z, bd_some, if_neg (by decide)]
        split
        · exact ⟨_, rfl⟩
        · exact ⟨_, rfl⟩
    obtain ⟨r, r1⟩ := tog
    have w1 : f_X10_wander T = some U := u1
    rw [lp_X10_hoursMet_20.eq_2, if_neg (fun q => by have := (o3_le (by omega) (by omega)).mp q; omega), w1, bd_some, v1, bd_some, r1, bd_some, o3_s]
    split
    · obtain ⟨r', W, y1, y2, y3⟩ := ih (k + 1) nn c (h + 1) V (by omega) (by omega) (by omega) hIV
      exact ⟨r', W, y1, y2, (u3.tr eq).tr y3⟩
    · obtain ⟨r', W, y1, y2, y3⟩ := ih (k + 1) nn (c + 1) (h + 1) V (by omega) (by omega) (by omega) hIV
      exact ⟨r', W, y1, y2, (u3.tr eq).tr y3⟩
theorem cm_met {n h : Nat} (hF : ∀ q ∈ F, okF q) (hE : ∀ q ∈ E, okS F.length q) (hm : F.length ≤ 10) (hl : E.length ≤ 12) {i j m : Nat} (hi : i < n) (hj : j < n) (hm2 : m ≤ 200) {C : Cw} {T : fS} (c1 : C.1 = n) (c2 : C.2.1 = h) (h9 : h ≤ 9999) (c3 : okD F.length E C) (c4 : cwC T 11 C) (hT : twC T 4 F E) (hx : 0 ≤ (T.1 3 3).toInt) : ∃ r U, f_X10_hoursMet (o3 i) (o3 j) (o3 m) T = some (r, U) ∧ cwC U 11 C ∧ twC U 4 F E ∧ 0 ≤ (U.1 3 3).toInt ∧ eMt T U := by
  obtain ⟨Y, y1, y2, y3, y4, y5⟩ := c_copyC (S := T) (b := 31) (c := 11) (by omega)
  have h8 := c3.1
  have eq : eMt T Y := ⟨fun a k x _ => (y5 a k (by omega)).1, fun a k x => (y5 a k (by omega)).2⟩
  have hI : mI F E n h Y := ⟨twC_eq hT (fun a k _ _ => eq.1 a k (by omega) (by omega)) (fun a k _ _ => eq.2 a k (by omega)), by rw [(y5 3 3 (by omega)).1]; exact hx, C, c1, c2, c3, y2.trans c4.1, y3.trans c4.2.1, fun k hk => by
    obtain ⟨z1, z2, z3, z4, z5⟩ := c4.2.2 k hk
    obtain ⟨w1, w2, w3, w4, w5⟩ := y4 k (by omega)
    exact ⟨w1.trans z1, w2.trans z2, w3.trans z3, w4.trans z4, w5.trans z5⟩⟩
  obtain ⟨r, U, u1, ⟨h', u2⟩, u3⟩ := cm_hrs (n := n) (p1 := 0) (p2 := 0) hF hE hm hl hi hj (m := m) (by omega) (K := fun u15 S16 => some (u15, S16)) m 0 FU 0 h Y (by omega) (FU_lt (by omega)) (by omega) hI
  have e2 := eq.tr u3
  refine ⟨r, U, ?_, cwC_eq c4 (fun a k _ _ => e2.1 a k (by omega) (by omega)) (fun k => e2.2 _ k (by omega)), u2.1, u2.2.1, e2⟩
  unfold f_X10_hoursMet
  rw [y1, bd_some]
  exact u1
end CMT
end
noncomputable section
/-! meetings(): the reference goes on -/
def eMm (S T : fS) : Prop := (∀ a k, ¬ (a = 157 ∧ (k = 3 ∨ (90 ≤ k ∧ k < 122))) → ¬ (a = 145 ∧ k = 23) → T.1 a k = S.1 a k) ∧ (∀ a k, a ≠ 155 → a ≠ 156 → a ≠ 158 → ¬ (a = 145 ∧ k = 37) → T.2 a k = S.2 a k)
theorem eMm.rf {S : fS} : eMm S S := ⟨fun _ _ _ _ => rfl, fun _ _ _ _ _ _ => rfl⟩
theorem eMm.tr {S T U : fS} (h : eMm S T) (g : eMm T U) : eMm S U := ⟨fun a k x y => (g.1 a k x y).trans (h.1 a k x y), fun a k x y z w => (g.2 a k x y z w).trans (h.2 a k x y z w)⟩
theorem eMm_I {S T : fS} (h : eI S T) : eMm S T := ⟨h.1, fun a k x y z _ => h.2 a k x y z⟩
theorem eMm_p {S : fS} {x : Int64} : eMm S (pL S 145 37 x) := ⟨fun _ _ _ _ => rfl, fun a k _ _ _ w => pL_ne w⟩
def mJ (F : List (Nat × Nat)) (E : List St5) (n h : Nat) (T : fS) : Prop := twM (T.1 157) F E ∧ (∃ x, x < 2147483648 ∧ T.2 145 37 = o6 x) ∧ ∃ C : Cw, C.1 = n ∧ C.2.1 = h ∧ okD F.length E C ∧ cwM (T.1 157) (T.2 158) C
section MMT
variable {F : List (Nat × Nat)} {E : List St5}
theorem mJ_p {n h : Nat} {T : fS} {x : Nat} (hx : x < 2147483648) (hI : mJ F E n h T) : mJ F E n h (pL T 145 37 (o6 x)) := by
  obtain ⟨a, b, C, c1, c2, c3, c4⟩ := hI
  exact ⟨a, ⟨x, hx, pL_eq⟩, C, c1, c2, c3, c4⟩
theorem mJ_I {n h : Nat} {T U : fS} {C : Cw} (hm : F.length ≤ 10) (hl : E.length ≤ 12) (hI : mJ F E n h T) {h' : Nat} (c1 : C.1 = n) (c2 : C.2.1 = h') (c3 : okD F.length E C) (c4 : cwM (U.1 157) (U.2 158) C) (e : eI T U) : mJ F E n h' U := by
  obtain ⟨a, ⟨x, x1, x2⟩, _⟩ := hI
  exact ⟨twM_eq hm hl a (fun k hk => e.1 _ _ (by omega) (by omega)), ⟨x, x1, (e.2 _ _ (by omega) (by omega) (by omega)).trans x2⟩, C, c1, c2, c3, c4⟩
theorem m_draw {S : fS} {x : Nat} (hx : x < 2147483648) (h : S.2 145 37 = o6 x) : ∃ a y, a < 2147483648 ∧ y < 2147483648 ∧ f_X11_draw S = some (o6 a, pL S 145 37 (o6 y)) := by
  unfold f_X11_draw
  have hb : x * 1103515245 + 12345 < 9223372036854775808 := by omega
  rw [h, show (1103515245 : Int64) = o6 1103515245 from rfl, show (12345 : Int64) = o6 12345 from rfl, show (2147483648 : Int64) = o6 2147483648 from rfl, show (65536 : Int64) = o6 65536 from rfl, o6_mul, o6_add, o6_rL hb (by omega) (by omega), bd_some, bd_some, pL_eq]
  have hy : (x * 1103515245 + 12345) % 2147483648 < 2147483648 := Nat.mod_lt _ (by omega)
  generalize (x * 1103515245 + 12345) % 2147483648 = y at hy
  rw [o6_dL (by omega) (by omega) (by omega), bd_some]
  exact ⟨y / 65536, y, by omega, hy, rfl⟩
/-- how many stairs from k on are at f -/
def ca (E : List St5) (f : Nat) : Nat → Nat → Nat
  | 0, _ => 0
  | d + 1, k => (if oeI (E.getD k d5) f < 0 then 0 else 1) + ca E f d (k + 1)
theorem ca_le {f : Nat} : ∀ d k, ca E f d k ≤ d := by
  intro d
  induction d with
  | zero => intro k; exact Nat.le_refl 0
  | succ d ih =>
    intro k
    have := ih (k + 1)
    show (if oeI (E.getD k d5) f < 0 then 0 else 1) + ca E f d (k + 1) ≤ d + 1
    split <;> omega
theorem mm_30 {T : fS} {p1 : Int32} (hT : twM (T.1 157) F E) (hE : ∀ q ∈ E, okS F.length q) (hm : F.length ≤ 10) (hl : E.length ≤ 12) {f : Nat} (hf : f < F.length) {K : Int32 → fS → Option fS} : ∀ d k nn c, k + d = E.length → d < nn → lp_X11_wanders_30 p1 (o3 f) K nn (o3 c) (o3 k) T = K (o3 (c + ca E f d k)) T := by
  have h1 : gI T 157 158 1 = some (o3 E.length) := (gI_o (k := 1) (by omega) (by omega)).trans (congrArg some hT.2.1)
  intro d
  induction d with
  | zero =>
    intro k nn c hk hnn
    obtain ⟨nn, rfl⟩ : ∃ z, nn = z + 1 := ⟨nn - 1, by omega⟩
    rw [lp_X11_wanders_30.eq_2, h1, bd_some, if_pos ((o3_le (by omega) (by omega)).mpr (by omega))]
    rfl
  | succ d ih =>
    intro k nn c hk hnn
    obtain ⟨nn, rfl⟩ : ∃ z, nn = z + 1 := ⟨nn - 1, by omega⟩
    rw [lp_X11_wanders_30.eq_2, h1, bd_some, if_neg (fun q => by have := (o3_le (by omega) (by omega)).mp q; omega), mh_other hT hE hm hl (by omega) (by omega), bd_some, o3_s, o3_s]
    have e : ca E f (d + 1) k = (if oeI (E.getD k d5) f < 0 then 0 else 1) + ca E f d (k + 1) := rfl
    rw [e]
    by_cases z : oeI (E.getD k d5) f < 0
    · rw [if_pos z, if_pos z, show o3 c + (0 : Int32) = o3 c from by rw [show (0 : Int32) = o3 0 from rfl, o3_add]; rfl, ih (k + 1) nn c (by omega) (by omega), Nat.zero_add]
    · rw [if_neg z, if_neg z, ih (k + 1) nn (c + 1) (by omega) (by omega), Nat.add_assoc]
theorem mm_83 {T : fS} {p1 : Int32} (hT : twM (T.1 157) F E) (hE : ∀ q ∈ E, okS F.length q) (hm : F.length ≤ 10) (hl : E.length ≤ 12) {f : Nat} (hf : f < F.length) {K : Int32 → fS → Option fS} : ∀ d k nn j, k + d = E.length → d < nn → j < ca E f d k → ∃ i, i < E.length ∧ ¬ oeI (E.getD i d5) f < 0 ∧ lp_X11_wanders_83 p1 (o3 f) K nn (o3 j) (o3 k) T = K (o3 i) T := by
  intro d
  induction d with
  | zero => intro k nn j _ _ h; exact absurd h (Nat.not_lt_zero _)
  | succ d ih =>
    intro k nn j hk hnn h
    obtain ⟨nn, rfl⟩ : ∃ z, nn = z + 1 := ⟨nn - 1, by omega⟩
    have hc := ca_le (E := E) (f := f) d (k + 1)
    have e : ca E f (d + 1) k = (if oeI (E.getD k d5) f < 0 then 0 else 1) + ca E f d (k + 1) := rfl
    rw [e] at h
    rw [lp_X11_wanders_83.eq_2, mh_other hT hE hm hl (by omega) (by omega), bd_some, bd_some, o3_s]
    by_cases z : oeI (E.getD k d5) f < 0
    · rw [if_pos z] at h
      rw [if_pos z, if_pos z, show o3 j - (0 : Int32) = o3 j from by rw [show (0 : Int32) = o3 0 from rfl, o3_sub (by omega)]; rfl]
      exact ih (k + 1) nn j (by omega) (by omega) (by omega)
    · rw [if_neg z] at h
      rw [if_neg z, if_neg z]
      by_cases zj : j = 0
      · rw [if_pos (show o3 j ≤ (0 : Int32) by rw [zj]; decide)]
        exact ⟨k, by omega, z, rfl⟩
      · rw [if_neg (show ¬ o3 j ≤ (0 : Int32) from fun q => zj (by have := (o3_le (b := 0) (by omega) (by omega)).mp q; omega)), show o3 j - (1 : Int32) = o3 (j - 1) from by rw [show (1 : Int32) = o3 1 from rfl, o3_sub (by omega)]]
        exact ih (k + 1) nn (j - 1) (by omega) (by omega) (by omega)
theorem mm_wan {n h : Nat} (hE : ∀ q ∈ E, okS F.length q) (hm : F.length ≤ 10) (hl : E.length ≤ 12) {k : Nat} (hk : k < n) {T : fS} (hI : mJ F E n h T) : ∃ U, f_X11_wanders (o3 k) T = some U ∧ mJ F E n h U ∧ eMm T U := by
  have hI0 := hI
  obtain ⟨a, ⟨x, x1, x2⟩, C, c1, c2, c3, c4⟩ := hI
  have h8 := c3.1
  have th : f_X11_thingOf (o3 k) 0 T = some (C.2.2.1 k) := (mw_thing (a := 0) (by omega) (by omega)).trans (congrArg some (c4.2.2 k (by omega)).1)
  unfold f_X11_wanders
  rw [th, bd_some]
  by_cases z : C.2.2.1 k < 0
  · rw [if_pos z]; exact ⟨T, rfl, hI0, eMm.rf⟩
  · rw [if_neg z]
    obtain ⟨f, f1, f2⟩ := okT_nn (c3.2.2 k (by omega)).1 hm z
    obtain ⟨q, y, q1, y1, dr⟩ := m_draw x1 x2
    have hI1 := mJ_p y1 hI0
    rw [dr, bd_some]
    dsimp only
    rw [show (4 : Int64) = o6 4 from rfl, o6_rL (by omega) (by omega) (by omega), bd_some]
    by_cases z4 : o6 (q % 4) = (0 : Int64)
    · rw [if_pos z4, f2, show (0 : Int32) = o3 0 from rfl, mm_30 hI1.1 hE hm hl f1 E.length 0 FU 0 (by omega) (FU_lt (by omega)), Nat.zero_add]
      have hc := ca_le (E := E) (f := f) E.length 0
      by_cases zc : o3 (ca E f E.length 0) = o3 0
      · rw [if_pos zc]; exact ⟨_, rfl, hI1, eMm_p⟩
      · rw [if_neg zc]
        have hc0 : ca E f E.length 0 ≠ 0 := fun e => zc (by rw [e])
        obtain ⟨q', y', q1', y1', dr'⟩ := m_draw (S := pL T 145 37 (o6 y)) y1 pL_eq
        have hI2 := mJ_p y1' hI1
        rw [dr', bd_some]
        dsimp only
        have hmd : q' % ca E f E.length 0 < ca E f E.length 0 := Nat.mod_lt _ (by omega)
        rw [o6_of3 (by omega), o6_rL (by omega) (by omega) hc0, bd_some, o6_to3 (by omega)]
        obtain ⟨i, i1, i2, i3⟩ := mm_83 (p1 := o3 k) hI2.1 hE hm hl f1 (K := fun u43 S44 => (f_X11_setsOff (o3 k) u43 S44).bind fun q46 => some q46) E.length 0 FU (q' % ca E f E.length 0) (by omega) (FU_lt (by omega)) (Nat.mod_lt _ (by omega))
        have i2' : oeI (E.getD i d5) f ≠ -1 := fun e => i2 (by rw [e]; decide)
        obtain ⟨U, u1, u2, u3⟩ := mh_off (S := pL (pL T 145 37 (o6 y)) 145 37 (o6 y')) c4 c3.1 hI2.1 hE hm hl (th := k) (k := i) (a := f) (by omega) i1 f1 f2
        refine ⟨U, i3.trans ?_, mJ_I hm hl hI2 (C := cOff C k i (oeI (E.getD i d5) f)) c1 c2 (oe_ok c3 hE i1 i2') u2 u3, (eMm_p.tr eMm_p).tr (eMm_I u3)⟩
        show (f_X11_setsOff (o3 k) (o3 i) _).bind _ = _
        rw [u1, bd_some]
    · rw [if_neg z4]; exact ⟨_, rfl, hI1, eMm_p⟩
theorem mm_105 {n h : Nat} {p1 p2 p3 p4 p5 p6 p7 p8 p9 p10 : Int32} (hE : ∀ q ∈ E, okS F.length q) (hm : F.length ≤ 10) (hl : E.length ≤ 12) {K : fS → Option (Int32 × fS)} : ∀ d k nn T, k + d = n → d < nn → mJ F E n h T → ∃ U, lp_X11_meetings_105 p1 p2 p3 p4 p5 p6 p7 p8 p9 p10 K nn (o3 k) T = K U ∧ mJ F E n h U ∧ eMm T U := by
  intro d
  induction d with
  | zero =>
    intro k nn T hk hnn hI
    obtain ⟨nn, rfl⟩ : ∃ z, nn = z + 1 := ⟨nn - 1, by omega⟩
    refine ⟨T, ?_, hI, eMm.rf⟩
    obtain ⟨a, b, C, c1, c2, c3, c4⟩ := hI
    have h8 := c3.1
    rw [lp_X11_meetings_105.eq_2, show gI T 157 158 2 = some (o3 C.1) from (gI_o (k := 2) (by omega) (by omega)).trans (congrArg some c4.1), bd_some, if_pos ((o3_le (by omega) (by omega)).mpr (by omega))]
  | succ d ih =>
    intro k nn T hk hnn hI
    obtain ⟨nn, rfl⟩ : ∃ z, nn = z + 1 := ⟨nn - 1, by omega⟩
    have hI0 := hI
    obtain ⟨a, b, C, c1, c2, c3, c4⟩ := hI
    have h8 := c3.1
    obtain ⟨U, u1, u2, u3⟩ := mm_wan hE hm hl (k := k) (by omega) hI0
    obtain ⟨V, v1, v2, v3⟩ := ih (k + 1) nn U (by omega) (by omega) u2
    refine ⟨V, ?_, v2, u3.tr v3⟩
    rw [lp_X11_meetings_105.eq_2, show gI T 157 158 2 = some (o3 C.1) from (gI_o (k := 2) (by omega) (by omega)).trans (congrArg some c4.1), bd_some, if_neg (fun q => by have := (o3_le (by omega) (by omega)).mp q; omega), u1, bd_some, o3_s]
    exact v1
theorem mm_95 {n : Nat} {p3 p5 p6 p7 p8 : Int32} (hF : ∀ q ∈ F, okF q) (hE : ∀ q ∈ E, okS F.length q) (hm : F.length ≤ 10) (hl : E.length ≤ 12) {i j m : Nat} (hi : i < n) (hj : j < n) (hm2 : m < 2147483648) {K : Int32 → fS → Option (Int32 × fS)} : ∀ d k nn (c : Int32) h T, k + d = m → d < nn → h + d ≤ 10199 → mJ F E n h T → ∃ r U, lp_X11_meetings_95 (o3 i) (o3 j) p3 (o3 m) p5 p6 p7 p8 K nn c (o3 k) T = K r U ∧ (∃ h', mJ F E n h' U) ∧ eMm T U := by
  intro d
  induction d with
  | zero =>
    intro k nn c h T hk hnn hh hI
    obtain ⟨nn, rfl⟩ : ∃ z, nn = z + 1 := ⟨nn - 1, by omega⟩
    refine ⟨c, T, ?_, ⟨h, hI⟩, eMm.rf⟩
    rw [lp_X11_meetings_95.eq_2, if_pos ((o3_le (by omega) (by omega)).mpr (by omega))]
  | succ d ih =>
    intro k nn c h T hk hnn hh hI
    obtain ⟨nn, rfl⟩ : ∃ z, nn = z + 1 := ⟨nn - 1, by omega⟩
    have h8 : n ≤ 8 := by
      obtain ⟨_, _, C, c1, _, c3, _⟩ := hI
      rw [← c1]; exact c3.1
    rw [lp_X11_meetings_95.eq_2, if_neg (fun q => by have := (o3_le (by omega) (by omega)).mp q; omega), o3_s]
    obtain ⟨U, u1, u2, u3⟩ := mm_105 (p1 := o3 i) (p2 := o3 j) (p3 := p3) (p4 := o3 m) (p5 := p5) (p6 := p6) (p7 := p7) (p8 := p8) (p9 := c) (p10 := o3 k) hE hm hl (K := (fun S40 => (f_X11_ageAll  S40).bind fun q42 =>
    (f_X11_thingOf (o3 i) (0 : Int32) q42).bind fun q45 =>
    if q45 < (0 : Int32) then (lp_X11_meetings_95 (o3 i) (o3 j) p3 (o3 m) p5 p6 p7 p8 K nn (c + (0 : Int32)) (o3 (k + 1)) q42) else
    ((f_X11_thingOf (o3 i) (0 : Int32) q42).bind fun q49 =>
    (f_X11_thingOf (o3 j) (0 : Int32) q42).bind fun q52 =>
    if q49 = q52 then (lp_X11_meetings_95 (o3 i) (o3 j) p3 (o3 m) p5 p6 p7 p8 K nn (c + (1 : Int32)) (o3 (k + 1)) q42) else
    (lp_X11_meetings_95 (o3 i) (o3 j) p3 (o3 m) p5 p6 p7 p8 K nn (c + (0 : Int32)) (o3 (k + 1)) q42)))) n 0 FU T (by omega) (FU_lt (by omega)) hI
    have u2' := u2
    obtain ⟨a, b, C, c1, c2, c3, c4⟩ := u2
    obtain ⟨V, v1, v2, v3⟩ := m_pass hF hE hm hl c3 c4 a
    have hIV : mJ F E n (h + 1) V := mJ_I hm hl u2' (C := cPs F E C) c1 (by show C.2.1 + 1 = h + 1; omega) (cPs_ok c3 hF hE hm hl (by omega)) v2 v3
    have t1 : f_X11_thingOf (o3 i) 0 V = some _ := mw_thing (a := 0) (by omega) (by omega)
    have t2 : f_X11_thingOf (o3 j) 0 V = some _ := mw_thing (a := 0) (by omega) (by omega)
    have fin : ∀ c', ∃ r W, lp_X11_meetings_95 (o3 i) (o3 j) p3 (o3 m) p5 p6 p7 p8 K nn c' (o3 (k + 1)) V = K r W ∧ (∃ h', mJ F E n h' W) ∧ eMm T W := fun c' => by
      obtain ⟨r', W, y1, y2, y3⟩ := ih (k + 1) nn c' (h + 1) V (by omega) (by omega) (by omega) hIV
      exact ⟨r', W, y1, y2, (u3.tr (eMm_I v3)).tr y3⟩
    have u1 := (show lp_X11_meetings_105 (o3 i) (o3 j) p3 (o3 m) p5 p6 p7 p8 c (o3 k) _ FU (0 : Int32) T = _ from u1)
    rw [u1, v1, bd_some, t1, bd_some, bd_some, t2, bd_some]
    split
    · exact fin _
    · split
      · exact fin _
      · exact fin _
theorem mk_2 {K : fS → Option fS} : ∀ d k nn (S : fS), k + d = 158 → d < nn → (∀ j, j < k → S.1 159 j = S.1 157 j) → ∃ T, lp_X11_keeps_2 K nn (o3 k) S = K T ∧ (∀ j, j < 158 → T.1 159 j = S.1 157 j) ∧ (∀ a j, a ≠ 159 → T.1 a j = S.1 a j) ∧ T.2 = S.2 := by
  intro d
  induction d with
  | zero =>
    intro k nn S hk hnn h
    obtain ⟨nn, rfl⟩ : ∃ z, nn = z + 1 := ⟨nn - 1, by omega⟩
    rw [lp_X11_keeps_2.eq_2, if_pos (show (158 : Int32) ≤ o3 k from (o3_le (a := 158) (by omega) (by omega)).mpr (by omega))]
    exact ⟨S, rfl, fun j hj => h j (by omega), fun _ _ _ => rfl, rfl⟩
  | succ d ih =>
    intro k nn S hk hnn h
    obtain ⟨nn, rfl⟩ : ∃ z, nn = z + 1 := ⟨nn - 1, by omega⟩
    rw [lp_X11_keeps_2.eq_2, if_neg (show ¬ (158 : Int32) ≤ o3 k from fun q => by have := (o3_le (a := 158) (by omega) (by omega)).mp q; omega), gI_o (by omega) (by omega), bd_some, sI_o (by omega) (by omega), bd_some, o3_s]
    obtain ⟨T, t1, t2, t3, t4⟩ := ih (k + 1) nn (pI S 159 k (S.1 157 k)) (by omega) (by omega) (fun j hj => by
      rw [pI_ne (a := 159) (b := 157) (by omega)]
      by_cases e : j = k
      · rw [e, pI_eq]
      · rw [pI_ne (by omega)]; exact h j (by omega))
    exact ⟨T, t1, fun j hj => by rw [t2 j hj, pI_ne (by omega)], fun a j ha => by rw [t3 a j ha, pI_ne (by omega)], t4⟩
theorem mk_29 {K : fS → Option fS} : ∀ d k nn (S : fS), k + d = 8 → d < nn → (∀ j, j < k → S.2 160 j = S.2 158 j) → ∃ T, lp_X11_keeps_29 K nn (o3 k) S = K T ∧ (∀ j, j < 8 → T.2 160 j = S.2 158 j) ∧ (∀ a j, a ≠ 160 → T.2 a j = S.2 a j) ∧ T.1 = S.1 := by
  intro d
  induction d with
  | zero =>
    intro k nn S hk hnn h
    obtain ⟨nn, rfl⟩ : ∃ z, nn = z + 1 := ⟨nn - 1, by omega⟩
    rw [lp_X11_keeps_29.eq_2, if_pos (show (8 : Int32) ≤ o3 k from (o3_le (a := 8) (by omega) (by omega)).mpr (by omega))]
    exact ⟨S, rfl, fun j hj => h j (by omega), fun _ _ _ => rfl, rfl⟩
  | succ d ih =>
    intro k nn S hk hnn h
    obtain ⟨nn, rfl⟩ : ∃ z, nn = z + 1 := ⟨nn - 1, by omega⟩
    rw [lp_X11_keeps_29.eq_2, if_neg (show ¬ (8 : Int32) ≤ o3 k from fun q => by have := (o3_le (a := 8) (by omega) (by omega)).mp q; omega), gL_o (by omega) (by omega), bd_some, sL_o (by omega) (by omega), bd_some, o3_s]
    obtain ⟨T, t1, t2, t3, t4⟩ := ih (k + 1) nn (pL S 160 k (S.2 158 k)) (by omega) (by omega) (fun j hj => by
      rw [pL_ne (a := 160) (b := 158) (by omega)]
      by_cases e : j = k
      · rw [e, pL_eq]
      · rw [pL_ne (by omega)]; exact h j (by omega))
    exact ⟨T, t1, fun j hj => by rw [t2 j hj, pL_ne (by omega)], fun a j ha => by rw [t3 a j ha, pL_ne (by omega)], t4⟩
theorem mb_2 {K : fS → Option fS} : ∀ d k nn (S : fS), k + d = 158 → d < nn → (∀ j, j < k → S.1 157 j = S.1 159 j) → ∃ T, lp_X11_putsBack_2 K nn (o3 k) S = K T ∧ (∀ j, j < 158 → T.1 157 j = S.1 159 j) ∧ (∀ a j, a ≠ 157 → T.1 a j = S.1 a j) ∧ T.2 = S.2 := by
  intro d
  induction d with
  | zero =>
    intro k nn S hk hnn h
    obtain ⟨nn, rfl⟩ : ∃ z, nn = z + 1 := ⟨nn - 1, by omega⟩
    rw [lp_X11_putsBack_2.eq_2, if_pos (show (158 : Int32) ≤ o3 k from (o3_le (a := 158) (by omega) (by omega)).mpr (by omega))]
    exact ⟨S, rfl, fun j hj => h j (by omega), fun _ _ _ => rfl, rfl⟩
  | succ d ih =>
    intro k nn S hk hnn h
    obtain ⟨nn, rfl⟩ : ∃ z, nn = z + 1 := ⟨nn - 1, by omega⟩
    rw [lp_X11_putsBack_2.eq_2, if_neg (show ¬ (158 : Int32) ≤ o3 k from fun q => by have := (o3_le (a := 158) (by omega) (by omega)).mp q; omega), gI_o (by omega) (by omega), bd_some, sI_o (by omega) (by omega), bd_some, o3_s]
    obtain ⟨T, t1, t2, t3, t4⟩ := ih (k + 1) nn (pI S 157 k (S.1 159 k)) (by omega) (by omega) (fun j hj => by
      rw [pI_ne (a := 157) (b := 159) (by omega)]
      by_cases e : j = k
      · rw [e, pI_eq]
      · rw [pI_ne (by omega)]; exact h j (by omega))
    exact ⟨T, t1, fun j hj => by rw [t2 j hj, pI_ne (by omega)], fun a j ha => by rw [t3 a j ha, pI_ne (by omega)], t4⟩
theorem mb_29 {K : fS → Option fS} : ∀ d k nn (S : fS), k + d = 8 → d < nn → (∀ j, j < k → S.2 158 j = S.2 160 j) → ∃ T, lp_X11_putsBack_29 K nn (o3 k) S = K T ∧ (∀ j, j < 8 → T.2 158 j = S.2 160 j) ∧ (∀ a j, a ≠ 158 → T.2 a j = S.2 a j) ∧ T.1 = S.1 := by
  intro d
  induction d with
  | zero =>
    intro k nn S hk hnn h
    obtain ⟨nn, rfl⟩ : ∃ z, nn = z + 1 := ⟨nn - 1, by omega⟩
    rw [lp_X11_putsBack_29.eq_2, if_pos (show (8 : Int32) ≤ o3 k from (o3_le (a := 8) (by omega) (by omega)).mpr (by omega))]
    exact ⟨S, rfl, fun j hj => h j (by omega), fun _ _ _ => rfl, rfl⟩
  | succ d ih =>
    intro k nn S hk hnn h
    obtain ⟨nn, rfl⟩ : ∃ z, nn = z + 1 := ⟨nn - 1, by omega⟩
    rw [lp_X11_putsBack_29.eq_2, if_neg (show ¬ (8 : Int32) ≤ o3 k from fun q => by have := (o3_le (a := 8) (by omega) (by omega)).mp q; omega), gL_o (by omega) (by omega), bd_some, sL_o (by omega) (by omega), bd_some, o3_s]
    obtain ⟨T, t1, t2, t3, t4⟩ := ih (k + 1) nn (pL S 158 k (S.2 160 k)) (by omega) (by omega) (fun j hj => by
      rw [pL_ne (a := 158) (b := 160) (by omega)]
      by_cases e : j = k
      · rw [e, pL_eq]
      · rw [pL_ne (by omega)]; exact h j (by omega))
    exact ⟨T, t1, fun j hj => by rw [t2 j hj, pL_ne (by omega)], fun a j ha => by rw [t3 a j ha, pL_ne (by omega)], t4⟩
theorem m_keep {S : fS} : ∃ T, f_X11_keeps S = some T ∧ (∀ j, j < 158 → T.1 159 j = S.1 157 j) ∧ (∀ j, j < 8 → T.2 160 j = S.2 158 j) ∧ (∀ a j, a ≠ 159 → T.1 a j = S.1 a j) ∧ (∀ a j, a ≠ 160 → T.2 a j = S.2 a j) := by
  obtain ⟨T, t1, t2, t3, t4⟩ := mk_2 (K := fun S8 => lp_X11_keeps_29 (fun S17 => some S17) FU (0 : Int32) S8) 158 0 FU S (by omega) (FU_lt (by omega)) (fun j hj => absurd hj (Nat.not_lt_zero _))
  obtain ⟨U, u1, u2, u3, u4⟩ := mk_29 (K := fun S17 => some S17) 8 0 FU T (by omega) (FU_lt (by omega)) (fun j hj => absurd hj (Nat.not_lt_zero _))
  exact ⟨U, t1.trans u1, fun j hj => by rw [u4]; exact t2 j hj, fun j hj => by rw [u2 j hj, t4], fun a j ha => by rw [u4]; exact t3 a j ha, fun a j ha => by rw [u3 a j ha, t4]⟩
theorem m_putb {S : fS} : ∃ T, f_X11_putsBack S = some T ∧ (∀ j, j < 158 → T.1 157 j = S.1 159 j) ∧ (∀ j, j < 8 → T.2 158 j = S.2 160 j) ∧ (∀ a j, a ≠ 157 → T.1 a j = S.1 a j) ∧ (∀ a j, a ≠ 158 → T.2 a j = S.2 a j) := by
  obtain ⟨T, t1, t2, t3, t4⟩ := mb_2 (K := fun S8 => lp_X11_putsBack_29 (fun S17 => some S17) FU (0 : Int32) S8) 158 0 FU S (by omega) (FU_lt (by omega)) (fun j hj => absurd hj (Nat.not_lt_zero _))
  obtain ⟨U, u1, u2, u3, u4⟩ := mb_29 (K := fun S17 => some S17) 8 0 FU T (by omega) (FU_lt (by omega)) (fun j hj => absurd hj (Nat.not_lt_zero _))
  exact ⟨U, t1.trans u1, fun j hj => by rw [u4]; exact t2 j hj, fun j hj => by rw [u2 j hj, t4], fun a j ha => by rw [u4]; exact t3 a j ha, fun a j ha => by rw [u3 a j ha, t4]⟩
/-- kept, and what stays as it was -/
def eMk (S T : fS) : Prop := (∀ j, j < 158 → T.1 157 j = S.1 157 j) ∧ (∀ j, j < 8 → T.2 158 j = S.2 158 j) ∧ (∀ j, j < 158 → T.1 159 j = S.1 157 j) ∧ (∀ j, j < 8 → T.2 160 j = S.2 158 j) ∧ (∀ a k, a ≠ 157 → a ≠ 159 → ¬ (a = 145 ∧ k = 23) → T.1 a k = S.1 a k) ∧ (∀ a k, a ≠ 155 → a ≠ 156 → a ≠ 158 → a ≠ 160 → ¬ (a = 145 ∧ k = 37) → T.2 a k = S.2 a k)
theorem cwM_k {I J : Nat → Int32} {A B : Nat → Int64} {C : Cw} (h8 : C.1 ≤ 8) (h : cwM I A C) (h1 : ∀ k, k < 158 → J k = I k) (h2 : ∀ k, k < 8 → B k = A k) : cwM J B C := by
  refine ⟨(h1 _ (by omega)).trans h.1, (h1 _ (by omega)).trans h.2.1, fun k hk => ?_⟩
  obtain ⟨a, b, c, d, e⟩ := h.2.2 k hk
  exact ⟨(h1 _ (by omega)).trans a, (h1 _ (by omega)).trans b, (h1 _ (by omega)).trans c, (h1 _ (by omega)).trans d, (h2 _ (by omega)).trans e⟩
theorem mm_83r {S : fS} {n h : Nat} {p5 : Int32} (hF : ∀ q ∈ F, okF q) (hE : ∀ q ∈ E, okS F.length q) (hm : F.length ≤ 10) (hl : E.length ≤ 12) {i j m r : Nat} (hi : i < n) (hj : j < n) (hm2 : m ≤ 200) (hr : r < 2147483648) (h9 : h ≤ 9999) {C : Cw} (c1 : C.1 = n) (c2 : C.2.1 = h) (c3 : okD F.length E C) (c4 : cwM (S.1 157) (S.2 158) C) (c5 : twM (S.1 157) F E) {K : Int32 → Int32 → fS → Option (Int32 × fS)} : ∀ d k nn (x y : Int32) T, k + d = r → d < nn → (∃ x, x < 2147483648 ∧ T.2 145 37 = o6 x) → eMk S T → ∃ x' y' U, lp_X11_meetings_83 (o3 i) (o3 j) (o3 r) (o3 m) p5 K nn x y (o3 k) T = K x' y' U ∧ eMk S U := by
  intro d
  induction d with
  | zero =>
    intro k nn x y T hk hnn hx hT
    obtain ⟨nn, rfl⟩ : ∃ z, nn = z + 1 := ⟨nn - 1, by omega⟩
    rw [lp_X11_meetings_83.eq_2, if_pos ((o3_le (by omega) (by omega)).mpr (by omega))]
    exact ⟨x, y, T, rfl, hT⟩
  | succ d ih =>
    intro k nn x y T hk hnn hx hT
    obtain ⟨nn, rfl⟩ : ∃ z, nn = z + 1 := ⟨nn - 1, by omega⟩
    have h8 := c3.1
    rw [lp_X11_meetings_83.eq_2, if_neg (fun q => by have := (o3_le (by omega) (by omega)).mp q; omega), o3_s]
    have hI : mJ F E n h T := ⟨twM_eq hm hl c5 (fun k hk => hT.1 k (by omega)), hx, C, c1, c2, c3, cwM_k c3.1 c4 hT.1 hT.2.1⟩
    obtain ⟨u, U, u1, ⟨h', u2⟩, u3⟩ := mm_95 (p3 := o3 r) (p5 := p5) (p6 := x) (p7 := y) (p8 := o3 k) hF hE hm hl hi hj (m := m) (by omega) (K := (fun u56 S57 => if u56 ≤ (0 : Int32) then ((f_X11_putsBack  S57).bind fun q60 =>
    lp_X11_meetings_83 (o3 i) (o3 j) (o3 r) (o3 m) p5 K nn (x + u56) (y + (0 : Int32)) (o3 (k + 1)) q60) else
    ((f_X11_putsBack  S57).bind fun q63 =>
    lp_X11_meetings_83 (o3 i) (o3 j) (o3 r) (o3 m) p5 K nn (x + u56) (y + (1 : Int32)) (o3 (k + 1)) q63))) m 0 FU 0 h T (by omega) (FU_lt (by omega)) (by omega) hI
    obtain ⟨V, v1, v2, v3, v4, v5⟩ := m_putb (S := U)
    have k1 : ∀ j, j < 158 → U.1 159 j = S.1 157 j := fun j hj => (u3.1 _ _ (by omega) (by omega)).trans (hT.2.2.1 j hj)
    have k2 : ∀ j, j < 8 → U.2 160 j = S.2 158 j := fun j hj => (u3.2 _ _ (by omega) (by omega) (by omega) (by omega)).trans (hT.2.2.2.1 j hj)
    have hV : eMk S V := ⟨fun j hj => (v2 j hj).trans (k1 j hj), fun j hj => (v3 j hj).trans (k2 j hj), fun j hj => (v4 _ _ (by omega)).trans (k1 j hj), fun j hj => (v5 _ _ (by omega)).trans (k2 j hj), fun a k x y z => (v4 a k x).trans ((u3.1 a k (by omega) z).trans (hT.2.2.2.2.1 a k x y z)), fun a k x y z w q => (v5 a k z).trans ((u3.2 a k x y z q).trans (hT.2.2.2.2.2 a k x y z w q))⟩
    have hxV : ∃ x, x < 2147483648 ∧ V.2 145 37 = o6 x := by
      obtain ⟨x, x1, x2⟩ := u2.2.1
      exact ⟨x, x1, (v5 _ _ (by omega)).trans x2⟩
    have u1 := (show lp_X11_meetings_95 (o3 i) (o3 j) (o3 r) (o3 m) p5 x y (o3 k) _ FU (0 : Int32) (0 : Int32) T = _ from u1)
    rw [u1, v1, bd_some, bd_some]
    split
    · exact ih (k + 1) nn _ _ V (by omega) (by omega) hxV hV
    · exact ih (k + 1) nn _ _ V (by omega) (by omega) hxV hV
end MMT
end
noncomputable section
theorem if1z {p : Prop} [Decidable p] {α : Type} {A B : α} : (if (if p then (1 : Int32) else 0) = 0 then A else B) = if p then B else A := by
  by_cases h : p
  · rw [if_pos h, if_pos h, if_neg (by decide)]
  · rw [if_neg h, if_neg h, if_pos rfl]
/-- the class: so many tries -/
theorem cm_66 {F : List (Nat × Nat)} {E : List St5} {n h : Nat} {p5 : Int32} (hF : ∀ q ∈ F, okF q) (hE : ∀ q ∈ E, okS F.length q) (hm : F.length ≤ 10) (hl : E.length ≤ 12) {i j m r : Nat} (hi : i < n) (hj : j < n) (hm2 : m ≤ 200) (hr : r < 2147483648) (h9 : h ≤ 9999) {C : Cw} (c1 : C.1 = n) (c2 : C.2.1 = h) (c3 : okD F.length E C) {K : Int32 → Int32 → fS → Option (Int32 × fS)} : ∀ d k nn (x y : Int32) T, k + d = r → d < nn → cwC T 11 C → twC T 4 F E → 0 ≤ (T.1 3 3).toInt → ∃ x' y' U, lp_X10_meetings_66 (o3 i) (o3 j) (o3 r) (o3 m) p5 K nn x y (o3 k) T = K x' y' U ∧ 0 ≤ (U.1 3 3).toInt ∧ eMt T U := by
  intro d
  induction d with
  | zero =>
    intro k nn x y T hk hnn c4 hT hx
    obtain ⟨nn, rfl⟩ : ∃ z, nn = z + 1 := ⟨nn - 1, by omega⟩
    rw [lp_X10_meetings_66.eq_2, if_pos ((o3_le (by omega) (by omega)).mpr (by omega))]
    exact ⟨x, y, T, rfl, hx, eMt.rf⟩
  | succ d ih =>
    intro k nn x y T hk hnn c4 hT hx
    obtain ⟨nn, rfl⟩ : ∃ z, nn = z + 1 := ⟨nn - 1, by omega⟩
    obtain ⟨q, U, u1, u2, u3, u4, u5⟩ := cm_met hF hE hm hl hi hj hm2 c1 c2 h9 c3 c4 hT hx
    rw [lp_X10_meetings_66.eq_2, if_neg (fun q => by have := (o3_le (by omega) (by omega)).mp q; omega), u1, bd_some, o3_s]
    split
    · obtain ⟨x', y', V, v1, v2, v3⟩ := ih (k + 1) nn (x + q) (y + 0) U (by omega) (by omega) u2 u3 u4
      exact ⟨x', y', V, v1, v2, u5.tr v3⟩
    · obtain ⟨x', y', V, v1, v2, v3⟩ := ih (k + 1) nn (x + q) (y + 1) U (by omega) (by omega) u2 u3 u4
      exact ⟨x', y', V, v1, v2, u5.tr v3⟩
theorem t_33 (a1 a2 a3 a4 a5 : Int32) (S : fS) (hR : Rel S) : ∃ r r' S1 S2, f_X10_meetings a1 a2 a3 a4 a5 S = some (r, S1) ∧ f_X11_meetings a1 a2 a3 a4 a5 S1 = some (r', S2) ∧ Rel S2 := by
  have hR0 := hR
  obtain ⟨n', s, L, M, hT, hS, hL, hM⟩ := hR
  have hS0 := hS
  obtain ⟨⟨n1, n2, n3, n4, n5, n6⟩, ⟨b1, b2, b3, b4, b5⟩, ⟨m1, m2, m3, m4⟩, d⟩ := hS
  have h8 := n5.1
  have i1 : f_X10_isFrom a5 0 1 S = some (if ((0 : Nat) : Int) ≤ a5.toInt ∧ a5.toInt ≤ ((1 : Nat) : Int) then 1 else 0) := from_c (a := 0) (b := 1) (by omega) (by omega)
  have i2 : f_X10_isFrom a3 1 20 S = some (if ((1 : Nat) : Int) ≤ a3.toInt ∧ a3.toInt ≤ ((20 : Nat) : Int) then 1 else 0) := from_c (a := 1) (b := 20) (by omega) (by omega)
  have i3 : f_X10_isFrom a4 1 200 S = some (if ((1 : Nat) : Int) ≤ a4.toInt ∧ a4.toInt ≤ ((200 : Nat) : Int) then 1 else 0) := from_c (a := 1) (b := 200) (by omega) (by omega)
  have j1 : ∀ T : fS, f_X11_in (Int32.toInt64 a5) 0 1 T = some (if ((0 : Nat) : Int) ≤ a5.toInt ∧ a5.toInt ≤ ((1 : Nat) : Int) then 1 else 0) := fun T => in_c (a := 0) (b := 1) (by omega) (by omega)
  have j2 : ∀ T : fS, f_X11_in (Int32.toInt64 a3) 1 20 T = some (if ((1 : Nat) : Int) ≤ a3.toInt ∧ a3.toInt ≤ ((20 : Nat) : Int) then 1 else 0) := fun T => in_c (a := 1) (b := 20) (by omega) (by omega)
  have j3 : ∀ T : fS, f_X11_in (Int32.toInt64 a4) 1 200 T = some (if ((1 : Nat) : Int) ≤ a4.toInt ∧ a4.toInt ≤ ((200 : Nat) : Int) then 1 else 0) := fun T => in_c (a := 1) (b := 200) (by omega) (by omega)
  have no : f_X10_meetings a1 a2 a3 a4 a5 S = some (-1, S) → f_X11_meetings a1 a2 a3 a4 a5 S = some (-1, S) → ∃ r r' S1 S2, f_X10_meetings a1 a2 a3 a4 a5 S = some (r, S1) ∧ f_X11_meetings a1 a2 a3 a4 a5 S1 = some (r', S2) ∧ Rel S2 := fun h g => ⟨-1, -1, S, S, h, g, hR0⟩
  have n1z : ¬ (1 : Int32) = 0 := by decide
  by_cases h1 : ¬ (0 ≤ a1.toInt ∧ a1.toInt < s.2.2.1.1)
  · refine no ?_ ?_
    · unfold f_X10_meetings; rw [ci_thing b3.1 (by omega), bd_some, if_neg h1, if_pos rfl]
    · unfold f_X11_meetings; rw [mi_thing m2.1 (by omega), bd_some, if_neg h1, if_pos rfl]
  have h1 := Decidable.not_not.mp h1
  by_cases h2 : ¬ (0 ≤ a2.toInt ∧ a2.toInt < s.2.2.1.1)
  · refine no ?_ ?_
    · unfold f_X10_meetings; rw [ci_thing b3.1 (by omega), bd_some, if_pos h1, if_neg n1z, ci_thing b3.1 (by omega), bd_some, if_neg h2, if_pos rfl]
    · unfold f_X11_meetings; rw [mi_thing m2.1 (by omega), bd_some, if_pos h1, if_neg n1z, mi_thing m2.1 (by omega), bd_some, if_neg h2, if_pos rfl]
  have h2 := Decidable.not_not.mp h2
  by_cases h3 : a1 = a2
  · refine no ?_ ?_
    · unfold f_X10_meetings; rw [ci_thing b3.1 (by omega), bd_some, if_pos h1, if_neg n1z, ci_thing b3.1 (by omega), bd_some, if_pos h2, if_neg n1z, if_pos h3]
    · unfold f_X11_meetings; rw [mi_thing m2.1 (by omega), bd_some, if_pos h1, if_neg n1z, mi_thing m2.1 (by omega), bd_some, if_pos h2, if_neg n1z, if_pos h3]
  have cP : f_X10_meetings a1 a2 a3 a4 a5 S = if ((0 : Nat) : Int) ≤ a5.toInt ∧ a5.toInt ≤ ((1 : Nat) : Int) then (if ((1 : Nat) : Int) ≤ a3.toInt ∧ a3.toInt ≤ ((20 : Nat) : Int) then (if ((1 : Nat) : Int) ≤ a4.toInt ∧ a4.toInt ≤ ((200 : Nat) : Int) then (lp_X10_meetings_66 a1 a2 a3 a4 a5 (fun u27 u28 S29 => if a5 = (0 : Int32) then (some (u27, S29)) else (some (u28, S29))) FU (0 : Int32) (0 : Int32) (0 : Int32) S) else some (-1, S)) else some (-1, S)) else some (-1, S) := by
    unfold f_X10_meetings; rw [ci_thing b3.1 (by omega), bd_some, if_pos h1, if_neg n1z, ci_thing b3.1 (by omega), bd_some, if_pos h2, if_neg n1z, if_neg h3, i1, bd_some, i2, bd_some, i3, bd_some]
    rw [if1z, if1z, if1z]
  have mP : ∀ T : fS, T.1 157 2 = S.1 157 2 → f_X11_meetings a1 a2 a3 a4 a5 T = if ((1 : Nat) : Int) ≤ a3.toInt ∧ a3.toInt ≤ ((20 : Nat) : Int) then (if ((1 : Nat) : Int) ≤ a4.toInt ∧ a4.toInt ≤ ((200 : Nat) : Int) then (if ((0 : Nat) : Int) ≤ a5.toInt ∧ a5.toInt ≤ ((1 : Nat) : Int) then ((f_X11_keeps T).bind fun q22 => (gI q22 157 158 (5 : Int32)).bind fun a25 => (some (pL q22 145 37 (Int32.toInt64 a25))).bind fun S28 => lp_X11_meetings_83 a1 a2 a3 a4 a5 (fun u66 u67 S68 => if a5 = (0 : Int32) then (some (u66, S68)) else (some (u67, S68))) FU (0 : Int32) (0 : Int32) (0 : Int32) S28) else some (-1, T)) else some (-1, T)) else some (-1, T) := fun T hTT => by
    unfold f_X11_meetings; rw [mi_thing (hTT.trans m2.1) (by omega), bd_some, if_pos h1, if_neg n1z, mi_thing (hTT.trans m2.1) (by omega), bd_some, if_pos h2, if_neg n1z, if_neg h3, j2, bd_some, j3, bd_some, j1, bd_some]
    rw [if1z, if1z, if1z]
  by_cases g5 : ¬ (((0 : Nat) : Int) ≤ a5.toInt ∧ a5.toInt ≤ ((1 : Nat) : Int))
  · refine no (by rw [cP, if_neg g5]) ?_
    rw [mP S rfl, if_neg g5]
    split
    · split
      · rfl
      · rfl
    · rfl
  have g5 := Decidable.not_not.mp g5
  by_cases g3 : ¬ (((1 : Nat) : Int) ≤ a3.toInt ∧ a3.toInt ≤ ((20 : Nat) : Int))
  · exact no (by rw [cP, if_pos g5, if_neg g3]) (by rw [mP S rfl, if_neg g3])
  have g3 := Decidable.not_not.mp g3
  by_cases g4 : ¬ (((1 : Nat) : Int) ≤ a4.toInt ∧ a4.toInt ≤ ((200 : Nat) : Int))
  · exact no (by rw [cP, if_pos g5, if_pos g3, if_neg g4]) (by rw [mP S rfl, if_pos g3, if_neg g4])
  have g4 := Decidable.not_not.mp g4
  rw [if_pos g5, if_pos g3, if_pos g4] at cP
  obtain ⟨i, e1, e2⟩ := o3_ex h1.1
  obtain ⟨j, e3, e4⟩ := o3_ex h2.1
  obtain ⟨r, e5, e6⟩ := o3_ex (x := a3) (by omega)
  obtain ⟨m, e7, e8⟩ := o3_ex (x := a4) (by omega)
  obtain ⟨x', y', S1, u1, u2, u3⟩ := cm_66 (p5 := a5) (n := s.2.2.1.1) (h := s.2.2.1.2.1) n3 n4 n1 n2 (i := i) (j := j) (m := m) (r := r) (by omega) (by omega) (by omega) (by omega) n5.2.1 rfl rfl (okD_of n5) (K := fun u27 u28 S29 => if a5 = (0 : Int32) then (some (u27, S29)) else (some (u28, S29))) r 0 FU 0 0 S (by omega) (FU_lt (by omega)) b3 b1 b5
  have k157 : S1.1 157 = S.1 157 := funext fun k => u3.1 157 k (by omega) (by omega)
  have k158 : S1.2 158 = S.2 158 := funext fun k => u3.2 158 k (by omega)
  obtain ⟨T, t1, t2, t3, t4, t5⟩ := m_keep (S := S1)
  obtain ⟨x5, e9, e10⟩ := o3_ex (x := S.1 157 5) m4
  have hx5 : x5 < 2147483648 := by
    have := (S.1 157 5).toInt_lt
    omega
  have gk : gI T 157 158 5 = some (o3 x5) := (gI_o (k := 5) (by omega) (by omega)).trans (congrArg some ((t4 157 5 (by omega)).trans ((congrFun k157 5).trans e9)))
  have ek : eMk S1 (pL T 145 37 (o6 x5)) := ⟨fun j hj => t4 157 j (by omega), fun j hj => by rw [pL_ne (by omega)]; exact t5 158 j (by omega), t2, fun j hj => by rw [pL_ne (by omega)]; exact t3 j hj, fun a k x y _ => t4 a k y, fun a k _ _ _ y z => by rw [pL_ne z]; exact t5 a k y⟩
  obtain ⟨x'', y'', S2, w1, w2⟩ := mm_83r (S := S1) (p5 := a5) (n := s.2.2.1.1) (h := s.2.2.1.2.1) n3 n4 n1 n2 (i := i) (j := j) (m := m) (r := r) (by omega) (by omega) (by omega) (by omega) n5.2.1 rfl rfl (okD_of n5) (by rw [k157, k158]; exact m2) (by rw [k157]; exact m1) (K := fun u66 u67 S68 => if a5 = (0 : Int32) then (some (u66, S68)) else (some (u67, S68))) r 0 FU 0 0 (pL T 145 37 (o6 x5)) (by omega) (FU_lt (by omega)) ⟨x5, hx5, pL_eq⟩ ek
  have hc : ∃ q, f_X10_meetings a1 a2 a3 a4 a5 S = some (q, S1) := by
    rw [cP, e1, e3, e5, e7]
    by_cases z : a5 = 0
    · exact ⟨x', u1.trans (if_pos z)⟩
    · exact ⟨y', u1.trans (if_neg z)⟩
  have hmm : ∃ q, f_X11_meetings a1 a2 a3 a4 a5 S1 = some (q, S2) := by
    rw [mP S1 (congrFun k157 2), if_pos g3, if_pos g4, if_pos g5, t1, bd_some, gk, bd_some, bd_some, o6_of3 hx5, e1, e3, e5, e7]
    by_cases z : a5 = 0
    · exact ⟨x'', w1.trans (if_pos z)⟩
    · exact ⟨y'', w1.trans (if_neg z)⟩
  obtain ⟨q, hq⟩ := hc
  obtain ⟨q', hq'⟩ := hmm
  have f1 : ∀ a k, ¬ (31 ≤ a ∧ a ≤ 36) → ¬ (a = 3 ∧ k = 3) → a ≠ 157 → a ≠ 159 → ¬ (a = 145 ∧ k = 23) → S2.1 a k = S.1 a k := fun a k x y z w v => (w2.2.2.2.2.1 a k z w v).trans (u3.1 a k x y)
  have f2 : ∀ a k, ¬ (31 ≤ a ∧ a ≤ 36) → a ≠ 155 → a ≠ 156 → a ≠ 158 → a ≠ 160 → ¬ (a = 145 ∧ k = 37) → S2.2 a k = S.2 a k := fun a k x y z w v q => (w2.2.2.2.2.2 a k y z w v q).trans (u3.2 a k x)
  refine ⟨q, q', S1, S2, hq, hq', n', s, L, M, ?_, ⟨⟨n1, n2, n3, n4, n5, n6⟩, ?_, ?_, ?_⟩, ?_, ?_⟩
  · exact rTp_eq hT (f1 _ _ (by omega) (by omega) (by omega) (by omega) (by omega)) (f1 _ _ (by omega) (by omega) (by omega) (by omega) (by omega)) (fun k => f1 _ _ (by omega) (by omega) (by omega) (by omega) (by omega)) (fun k => f1 _ _ (by omega) (by omega) (by omega) (by omega) (by omega))
  · exact scC_eq hS0.2.1 (fun a k _ _ => f1 _ _ (by omega) (by omega) (by omega) (by omega) (by omega)) (fun a k _ _ => f2 _ _ (by omega) (by omega) (by omega) (by omega) (by omega) (by omega)) (by rw [w2.2.2.2.2.1 3 3 (by omega) (by omega) (by omega)]; exact u2)
  · exact scM_cg hS0.1 hS0.2.2.1 (fun k hk => (w2.1 k hk).trans (congrFun k157 k)) (fun k hk => (w2.2.1 k hk).trans (congrFun k158 k))
  · exact rHm_eq d (fun k => f2 _ _ (by omega) (by omega) (by omega) (by omega) (by omega) (by omega))
  · exact rRu_eq hL (f1 _ _ (by omega) (by omega) (by omega) (by omega) (by omega)) (f1 _ _ (by omega) (by omega) (by omega) (by omega) (by omega)) (fun a k _ _ _ => f1 _ _ (by omega) (by omega) (by omega) (by omega) (by omega)) (fun a k _ => f1 _ _ (by omega) (by omega) (by omega) (by omega) (by omega))
  · exact rIm_eq hM (fun a k _ _ => f1 _ _ (by omega) (by omega) (by omega) (by omega) (by omega)) (fun a k _ _ => f2 _ _ (by omega) (by omega) (by omega) (by omega) (by omega) (by omega)) (fun k => f1 _ _ (by omega) (by omega) (by omega) (by omega) (by omega)) (fun k => f2 _ _ (by omega) (by omega) (by omega) (by omega) (by omega) (by omega)) (fun k => f1 _ _ (by omega) (by omega) (by omega) (by omega) (by omega))
end
noncomputable section
/-! ripe(): the class goes on -/
def eRp (S T : fS) : Prop := (∀ a k, ¬ (45 ≤ a ∧ a ≤ 50) → T.1 a k = S.1 a k) ∧ (∀ a k, ¬ (45 ≤ a ∧ a ≤ 50) → T.2 a k = S.2 a k)
theorem eRp.rf {S : fS} : eRp S S := ⟨fun _ _ _ => rfl, fun _ _ _ => rfl⟩
theorem eRp.tr {S T U : fS} (h : eRp S T) (g : eRp T U) : eRp S U := ⟨fun a k x => (g.1 a k x).trans (h.1 a k x), fun a k x => (g.2 a k x).trans (h.2 a k x)⟩
def okW (T : fS) (i : Nat) : Prop := ∀ j, j ≤ i → ∃ s, s ≤ 4000 ∧ T.1 47 j = o3 s
def okq (T : fS) : Prop := ∃ q, q ≤ 13 ∧ T.1 45 6 = o3 q ∧ ∀ k, k < q → ∃ a b, a ≤ 4000 ∧ b ≤ 4000 ∧ T.1 48 k = o3 a ∧ T.1 49 k = o3 b
def okr (T : fS) (c : Nat) : Prop := T.1 45 5 = o3 c ∧ c ≤ 4000
theorem okW_eq {T U : fS} {i : Nat} (h : okW T i) (g : ∀ k, U.1 47 k = T.1 47 k) : okW U i := fun j hj => by
  obtain ⟨s, s1, s2⟩ := h j hj
  exact ⟨s, s1, (g j).trans s2⟩
theorem k_keep {T : fS} {c st : Nat} {x : Int64} (hc : okr T c) (hs : st ≤ c) : ∃ r U c', f_X3_keep (o3 st) x T = some (r, U) ∧ okr U c' ∧ c ≤ c' ∧ (∀ a k, ¬ (a = 45 ∧ k = 5) → U.1 a k = T.1 a k) ∧ (∀ a k, a ≠ 46 → U.2 a k = T.2 a k) := by
  obtain ⟨hc, h4⟩ := hc
  have app : c < 4000 → ((sL T 46 4000 (o3 c) x).bind fun S3 => (some (pI S3 45 5 ((S3.1 45 5) + (1 : Int32)))).bind fun S6 => some ((1 : Int32), S6)) = some (1, pI (pL T 46 c x) 45 5 (o3 (c + 1))) := fun h => by
    rw [sL_o h (by omega), bd_some, bd_some, show (pL T 46 c x).1 45 5 = o3 c from hc, o3_s]
  have fin : ∃ r U c', (if o3 c < (4000 : Int32) then ((sL T 46 4000 (o3 c) x).bind fun S3 => (some (pI S3 45 5 ((S3.1 45 5) + (1 : Int32)))).bind fun S6 => some ((1 : Int32), S6)) else some (0, T)) = some (r, U) ∧ okr U c' ∧ c ≤ c' ∧ (∀ a k, ¬ (a = 45 ∧ k = 5) → U.1 a k = T.1 a k) ∧ (∀ a k, a ≠ 46 → U.2 a k = T.2 a k) := by
    by_cases h : c < 4000
    · rw [if_pos (show o3 c < (4000 : Int32) from (o3_lt (b := 4000) (by omega) (by omega)).mpr h), app h]
      exact ⟨1, _, c + 1, rfl, ⟨pI_eq, by omega⟩, by omega, fun a k h => pI_ne h, fun a k h => pL_ne (by omega)⟩
    · rw [if_neg (show ¬ o3 c < (4000 : Int32) from fun q => h ((o3_lt (b := 4000) (by omega) (by omega)).mp q))]
      exact ⟨0, T, c, rfl, ⟨hc, h4⟩, by omega, fun _ _ _ => rfl, fun _ _ _ => rfl⟩
  unfold f_X3_keep f_X3_ageOf
  rw [hc]
  by_cases h : c ≤ st
  · rw [if_pos ((o3_le (by omega) (by omega)).mpr h)]
    exact fin
  · rw [if_neg (fun q => h ((o3_le (by omega) (by omega)).mp q)), show o3 c - (1 : Int32) = o3 (c - 1) from by rw [show (1 : Int32) = o3 1 from rfl, o3_sub (by omega)], gL_o (by omega) (by omega), bd_some, bd_some, bd_some]
    split
    · exact ⟨1, T, c, rfl, ⟨hc, h4⟩, by omega, fun _ _ _ => rfl, fun _ _ _ => rfl⟩
    · exact fin
/-- sources: what stays -/
def eGs (S T : fS) : Prop := (∀ a k, ¬ (a = 45 ∧ k = 6) → a ≠ 48 → a ≠ 49 → T.1 a k = S.1 a k) ∧ (∀ a k, a ≠ 50 → T.2 a k = S.2 a k)
theorem eGs.rf {S : fS} : eGs S S := ⟨fun _ _ _ _ _ => rfl, fun _ _ _ => rfl⟩
theorem eGs.tr {S T U : fS} (h : eGs S T) (g : eGs T U) : eGs S U := ⟨fun a k x y z => (g.1 a k x y z).trans (h.1 a k x y z), fun a k x => (g.2 a k x).trans (h.2 a k x)⟩
theorem eRp_G {S T : fS} (h : eGs S T) : eRp S T := ⟨fun a k x => h.1 a k (by omega) (by omega) (by omega), fun a k x => h.2 a k (by omega)⟩
theorem k_add {T : fS} {i w : Nat} {x : Int64} (hW : okW T w) (hi : i + 1 ≤ w) (hw : w ≤ 170) (hq : okq T) : ∃ U, f_X3_addSource (o3 i) x T = some U ∧ okq U ∧ eGs T U := by
  obtain ⟨q, q1, q2, q3⟩ := id hq
  obtain ⟨s, s1, s2⟩ := hW i (by omega)
  obtain ⟨t, t1, t2⟩ := hW (i + 1) hi
  unfold f_X3_addSource
  rw [q2]
  by_cases h : 13 ≤ q
  · rw [if_pos (show (13 : Int32) ≤ o3 q from (o3_le (a := 13) (by omega) (by omega)).mpr h)]
    exact ⟨T, rfl, hq, eGs.rf⟩
  · rw [if_neg (show ¬ (13 : Int32) ≤ o3 q from fun z => h ((o3_le (a := 13) (by omega) (by omega)).mp z)), gI_o (by omega) (by omega), bd_some, o3_s, gI_o (by omega) (by omega), bd_some, s2, t2]
    by_cases h2 : t ≤ s
    · rw [if_pos ((o3_le (by omega) (by omega)).mpr h2)]
      exact ⟨T, rfl, hq, eGs.rf⟩
    · rw [if_neg (fun z => h2 ((o3_le (by omega) (by omega)).mp z)), bd_some, sI_o (by omega) (by omega), bd_some, gI_o (by omega) (by omega), bd_some, pI_ne (by omega), q2, pI_ne (by omega), t2, sI_o (by omega) (by omega), bd_some, pI_ne (by omega), pI_ne (by omega), q2, sL_o (by omega) (by omega), bd_some, bd_some]
      have e : (pL (pI (pI T 48 q (o3 s)) 49 q (o3 t)) 50 q x).1 45 6 = o3 q := by
        show (pI (pI T 48 q (o3 s)) 49 q (o3 t)).1 45 6 = o3 q
        rw [pI_ne (by omega), pI_ne (by omega), q2]
      rw [e, o3_s]
      refine ⟨_, rfl, ⟨q + 1, by omega, pI_eq, fun k hk => ?_⟩, fun a k x y z => ?_, fun a k x => ?_⟩
      · by_cases e : k = q
        · subst e
          refine ⟨s, t, s1, t1, ?_, ?_⟩
          · rw [pI_ne (by omega)]
            show (pI (pI T 48 k (o3 s)) 49 k (o3 t)).1 48 k = o3 s
            rw [pI_ne (by omega), pI_eq]
          · rw [pI_ne (by omega)]
            show (pI (pI T 48 k (o3 s)) 49 k (o3 t)).1 49 k = o3 t
            rw [pI_eq]
        · obtain ⟨a, b, c1, c2, c3, c4⟩ := q3 k (by omega)
          refine ⟨a, b, c1, c2, ?_, ?_⟩
          · rw [pI_ne (by omega)]
            show (pI (pI T 48 q (o3 s)) 49 q (o3 t)).1 48 k = o3 a
            rw [pI_ne (by omega), pI_ne (by omega), c3]
          · rw [pI_ne (by omega)]
            show (pI (pI T 48 q (o3 s)) 49 q (o3 t)).1 49 k = o3 b
            rw [pI_ne (by omega), pI_ne (by omega), c4]
      · rw [pI_ne (by omega)]
        show (pI (pI T 48 q (o3 s)) 49 q (o3 t)).1 a k = T.1 a k
        rw [pI_ne (by omega), pI_ne (by omega)]
      · show (pL (pI (pI T 48 q (o3 s)) 49 q (o3 t)) 50 q _).2 a k = T.2 a k
        rw [pL_ne (by omega)]
        rfl
section KR
variable {F : List (Nat × Nat)} {E : List St5}
theorem twC_R {S T : fS} (h : twC S 4 F E) (e : eRp S T) : twC T 4 F E := twC_eq h (fun a k _ _ => e.1 a k (by omega)) (fun a k _ _ => e.2 a k (by omega))
theorem idx_le {m t l o : Nat} (hl : 1 ≤ l) (hlt : l ≤ t) (ho : o < m) : (t - l) * m + o + 1 ≤ t * m := by
  obtain ⟨u, rfl⟩ : ∃ u, t = u + l := ⟨t - l, by omega⟩
  rw [Nat.add_sub_cancel, Nat.add_mul]
  have : 1 * m ≤ l * m := Nat.mul_le_mul_right m hl
  omega
theorem k_37 (hE : ∀ q ∈ E, okS F.length q) (hm : F.length ≤ 10) (hl : E.length ≤ 12) {t p w : Nat} (ht : t ≤ 16) (hp : p < F.length) (hw : w ≤ 170) (hw2 : t * F.length ≤ w) {K : fS → Option fS} : ∀ d k nn T, k + d = E.length → d < nn → twC T 4 F E → okW T w → okq T → ∃ U, lp_X3_gatherSources_37 4 (o3 t) (o3 p) K nn (o3 k) T = K U ∧ okq U ∧ eGs T U := by
  intro d
  induction d with
  | zero =>
    intro k nn T hk hnn b1 hW hq
    obtain ⟨nn, rfl⟩ : ∃ z, nn = z + 1 := ⟨nn - 1, by omega⟩
    refine ⟨T, ?_, hq, eGs.rf⟩
    rw [lp_X3_gatherSources_37.eq_2, b1.2.1, if_pos ((o3_le (by omega) (by omega)).mpr (by omega))]
  | succ d ih =>
    intro k nn T hk hnn b1 hW hq
    obtain ⟨nn, rfl⟩ : ∃ z, nn = z + 1 := ⟨nn - 1, by omega⟩
    have hkl : k < E.length := by omega
    have hq' := hE _ (gd_mem (d := d5) hkl)
    have z3 : T.1 (4 + 4) k = o3 (E.getD k d5).2.2.1 := (b1.2.2.2 k hkl).2.2.1
    have h9 := hq'.2.2.2.2.1
    have h1 := hq'.2.2.2.1
    rw [lp_X3_gatherSources_37.eq_2, b1.2.1, if_neg (fun q => by have := (o3_le (by omega) (by omega)).mp q; omega), ch_other b1 hE hm hl hkl (by omega), bd_some, gI_o (by omega) (by omega), bd_some, z3, o3_s]
    rcases oe_or (a := p) hq' hm with ⟨o, o1, o2, _⟩ | ⟨o2, _⟩
    · rw [o2, if_neg (o3_nn (by omega))]
      by_cases h : t < (E.getD k d5).2.2.1
      · rw [if_pos ((o3_lt (by omega) (by omega)).mpr h)]
        exact ih (k + 1) nn T (by omega) (by omega) b1 hW hq
      · rw [if_neg (fun q => h ((o3_lt (by omega) (by omega)).mp q)), gL_o (by omega) (by omega), bd_some]
        unfold f_X3_stateOf
        have hix := idx_le (m := F.length) (t := t) (l := (E.getD k d5).2.2.1) (o := o) h1 (by omega) o1
        rw [bd_some, b1.1, o3_sub (by omega), o3_mul, o3_add]
        obtain ⟨U, u1, u2, u3⟩ := k_add (x := ((Int32.toInt64 (o3 (E.getD k d5).2.2.1) * T.2 (4 + 5) k) <<< (Int32.toInt64 (5 : Int32) &&& 63)) ||| (Int32.toInt64 (o3 (E.getD k d5).2.2.1))) hW (i := (t - (E.getD k d5).2.2.1) * F.length + o) (by omega) hw hq
        rw [u1, bd_some]
        obtain ⟨V, v1, v2, v3⟩ := ih (k + 1) nn U (by omega) (by omega) (twC_R b1 (eRp_G u3)) (okW_eq hW (fun k => u3.1 _ _ (by omega) (by omega) (by omega))) u2
        exact ⟨V, v1, v2, u3.tr v3⟩
    · rw [o2, if_pos (show (-1 : Int32) < 0 by decide)]
      exact ih (k + 1) nn T (by omega) (by omega) b1 hW hq
theorem k_ga (hE : ∀ q ∈ E, okS F.length q) (hm : F.length ≤ 10) (hl : E.length ≤ 12) {t p w : Nat} (ht : t ≤ 16) (hp : p < F.length) (hw : w ≤ 170) (hw2 : t * F.length ≤ w) {T : fS} (b1 : twC T 4 F E) (hW : okW T w) : ∃ U, f_X3_gatherSources 4 (o3 t) (o3 p) T = some U ∧ okq U ∧ eGs T U := by
  unfold f_X3_gatherSources
  have e0 : eGs T (pI T 45 6 0) := ⟨fun a k x _ _ => pI_ne x, fun _ _ _ => rfl⟩
  have q0 : okq (pI T 45 6 0) := ⟨0, by omega, pI_eq, fun k hk => absurd hk (Nat.not_lt_zero _)⟩
  have b2 := twC_R b1 (eRp_G e0)
  have hW2 : okW (pI T 45 6 0) w := okW_eq hW (fun k => pI_ne (by omega))
  rw [bd_some]
  by_cases h : t < 1
  · rw [if_pos (show o3 t < (1 : Int32) from (o3_lt (b := 1) (by omega) (by omega)).mpr h)]
    obtain ⟨U, u1, u2, u3⟩ := k_37 hE hm hl ht hp hw hw2 (K := fun S23 => some S23) E.length 0 FU _ (by omega) (FU_lt (by omega)) b2 hW2 q0
    exact ⟨U, u1, u2, e0.tr u3⟩
  · have hix := idx_le (m := F.length) (t := t) (l := 1) (o := p) (by omega) (by omega) hp
    rw [if_neg (show ¬ o3 t < (1 : Int32) from fun z => h ((o3_lt (b := 1) (by omega) (by omega)).mp z)), gL_o (by omega) (by omega), bd_some]
    unfold f_X3_stateOf
    rw [bd_some, b2.1, show (1 : Int32) = o3 1 from rfl, o3_sub (by omega), o3_mul, o3_add]
    obtain ⟨V, v1, v2, v3⟩ := k_add (x := ((pI T 45 6 0).2 (4 + 1) p <<< (Int32.toInt64 (5 : Int32) &&& 63)) ||| (Int32.toInt64 (0 : Int32))) hW2 (i := (t - 1) * F.length + p) (by omega) hw q0
    rw [v1, bd_some]
    obtain ⟨U, u1, u2, u3⟩ := k_37 hE hm hl ht hp hw hw2 (K := fun S34 => some S34) E.length 0 FU V (by omega) (FU_lt (by omega)) (twC_R b2 (eRp_G v3)) (okW_eq hW2 (fun k => v3.1 _ _ (by omega) (by omega) (by omega))) v2
    exact ⟨U, u1, u2, (e0.tr v3).tr u3⟩
end KR
def vls (T : fS) (q : Nat) (r : Int32) : Prop := r = -1 ∨ ∃ k a b, k < q ∧ r = o3 k ∧ T.1 48 k = o3 a ∧ T.1 49 k = o3 b ∧ a < b ∧ b ≤ 4000
theorem k_least {T : fS} {q : Nat} (q1 : q ≤ 13) (q2 : T.1 45 6 = o3 q) (q3 : ∀ k, k < q → ∃ a b, a ≤ 4000 ∧ b ≤ 4000 ∧ T.1 48 k = o3 a ∧ T.1 49 k = o3 b) : ∃ r, f_X3_leastSource T = some r ∧ vls T q r := by
  have key : ∀ d k nn (p1 : Int32) (p2 : Int64), k + d = q → d < nn → vls T q p1 → ∃ r, lp_X3_leastSource_7 T (fun u20 => some u20) nn p1 p2 (o3 k) = some r ∧ vls T q r := by
    intro d
    induction d with
    | zero =>
      intro k nn p1 p2 hk hnn hv
      obtain ⟨nn, rfl⟩ : ∃ z, nn = z + 1 := ⟨nn - 1, by omega⟩
      rw [lp_X3_leastSource_7.eq_2, q2, if_pos ((o3_le (by omega) (by omega)).mpr (by omega))]
      exact ⟨p1, rfl, hv⟩
    | succ d ih =>
      intro k nn p1 p2 hk hnn hv
      obtain ⟨nn, rfl⟩ : ∃ z, nn = z + 1 := ⟨nn - 1, by omega⟩
      obtain ⟨a, b, a1, b1, a2, b2⟩ := q3 k (by omega)
      rw [lp_X3_leastSource_7.eq_2, q2, if_neg (fun q => by have := (o3_le (by omega) (by omega)).mp q; omega), gI_o (by omega) (by omega), bd_some, gI_o (by omega) (by omega), bd_some, a2, b2, o3_s]
      by_cases h : a < b
      · rw [if_pos ((o3_lt (by omega) (by omega)).mpr h), bd_some, gL_o (by omega) (by omega), bd_some, gL_o (by omega) (by omega), bd_some]
        have hk' : vls T q (o3 k) := Or.inr ⟨k, a, b, by omega, rfl, a2, b2, h, b1⟩
        split
        · exact ih (k + 1) nn _ _ (by omega) (by omega) hk'
        · split
          · exact ih (k + 1) nn _ _ (by omega) (by omega) hv
          · exact ih (k + 1) nn _ _ (by omega) (by omega) hk'
      · rw [if_neg (fun z => h ((o3_lt (by omega) (by omega)).mp z))]
        exact ih (k + 1) nn _ _ (by omega) (by omega) hv
  exact key q 0 FU (-1) 0 (by omega) (FU_lt (by omega)) (Or.inl rfl)
/-- merging: what stays -/
def eMg (S T : fS) : Prop := (∀ a k, ¬ (a = 45 ∧ k = 5) → a ≠ 48 → T.1 a k = S.1 a k) ∧ (∀ a k, a ≠ 46 → T.2 a k = S.2 a k)
theorem eMg.rf {S : fS} : eMg S S := ⟨fun _ _ _ _ => rfl, fun _ _ _ => rfl⟩
theorem eMg.tr {S T U : fS} (h : eMg S T) (g : eMg T U) : eMg S U := ⟨fun a k x y => (g.1 a k x y).trans (h.1 a k x y), fun a k x => (g.2 a k x).trans (h.2 a k x)⟩
theorem eRp_M {S T : fS} (h : eMg S T) : eRp S T := ⟨fun a k x => h.1 a k (by omega) (by omega), fun a k x => h.2 a k (by omega)⟩
theorem k_merge {st : Nat} : ∀ d k nn T c, k + d = 52001 → d < nn → okr T c → st ≤ c → okq T → ∃ r U c', lp_X3_merge_2 (o3 st) (fun S25 => some ((0 : Int32), S25)) nn (o3 k) T = some (r, U) ∧ okr U c' ∧ eMg T U := by
  intro d
  induction d with
  | zero =>
    intro k nn T c hk hnn hc hs hq
    obtain ⟨nn, rfl⟩ : ∃ z, nn = z + 1 := ⟨nn - 1, by omega⟩
    rw [lp_X3_merge_2.eq_2, if_pos (show (52000 : Int32) < o3 k from (o3_lt (a := 52000) (by omega) (by omega)).mpr (by omega))]
    exact ⟨0, T, c, rfl, hc, eMg.rf⟩
  | succ d ih =>
    intro k nn T c hk hnn hc hs hq
    obtain ⟨nn, rfl⟩ : ∃ z, nn = z + 1 := ⟨nn - 1, by omega⟩
    obtain ⟨q, q1, q2, q3⟩ := id hq
    obtain ⟨r, r1, r2⟩ := k_least q1 q2 q3
    rw [lp_X3_merge_2.eq_2, if_neg (show ¬ (52000 : Int32) < o3 k from fun z => by have := (o3_lt (a := 52000) (by omega) (by omega)).mp z; omega), r1, bd_some, o3_s]
    rcases r2 with r2 | ⟨i, a, b, i1, i2, i3, i4, i5, i6⟩
    · rw [r2, if_neg (show ¬ (0 : Int32) ≤ -1 by decide)]
      exact ⟨1, T, c, rfl, hc, eMg.rf⟩
    · rw [i2, if_pos (o3_0le (by omega)), gI_o (by omega) (by omega), bd_some, bd_some, sI_o (by omega) (by omega), bd_some, i3, o3_s, gL_o (by omega) (by omega), bd_some, gL_o (by omega) (by omega), bd_some]
      have e1 : eMg T (pI T 48 i (o3 (a + 1))) := ⟨fun a k _ y => pI_ne (by omega), fun _ _ _ => rfl⟩
      have hc1 : okr (pI T 48 i (o3 (a + 1))) c := ⟨(pI_ne (by omega)).trans hc.1, hc.2⟩
      obtain ⟨r', U, c', u1, u2, u3, u4, u5⟩ := k_keep (x := (pI T 48 i (o3 (a + 1))).2 46 a + (pI T 48 i (o3 (a + 1))).2 50 i) hc1 hs
      have e2 : eMg (pI T 48 i (o3 (a + 1))) U := ⟨fun a k x _ => u4 a k x, u5⟩
      rw [u1, bd_some]
      by_cases z : r' = 0
      · rw [if_pos z]
        exact ⟨0, U, c', rfl, u2, e1.tr e2⟩
      · rw [if_neg z]
        have hqU : okq U := ⟨q, q1, by rw [u4 _ _ (by omega), pI_ne (by omega), q2], fun j hj => by
          rw [u4 48 j (by omega), u4 49 j (by omega), pI_ne (a := 48) (b := 49) (by omega)]
          by_cases e : j = i
          · subst e
            exact ⟨a + 1, b, by omega, i6, pI_eq, i4⟩
          · obtain ⟨a', b', w1, w2, w3, w4⟩ := q3 j hj
            exact ⟨a', b', w1, w2, by rw [pI_ne (by omega)]; exact w3, w4⟩⟩
        obtain ⟨r'', V, c'', v1, v2, v3⟩ := ih (k + 1) nn U c' (by omega) (by omega) u2 (by omega) hqU
        exact ⟨r'', V, c'', v1, v2, (e1.tr e2).tr v3⟩
end
noncomputable section
section KS
variable {F : List (Nat × Nat)} {E : List St5}
theorem k_mg {T : fS} {c st : Nat} (hc : okr T c) (hs : st ≤ c) (hq : okq T) : ∃ r U c', f_X3_merge (o3 st) T = some (r, U) ∧ okr U c' ∧ eMg T U := k_merge 52001 0 FU T c (by omega) (FU_lt (by omega)) hc hs hq
/-- gathering and merging at one place -/
theorem k_one (hE : ∀ q ∈ E, okS F.length q) (hm : F.length ≤ 10) (hl : E.length ≤ 12) {t p st c : Nat} (ht : t ≤ 16) (hp : p < F.length) {T : fS} (b1 : twC T 4 F E) (hW : okW T (t * F.length + p)) (hc : okr T c) (hs : st ≤ c) {G : Int32 × fS → Option (Int32 × fS)} : ∃ V U r c', f_X3_gatherSources 4 (o3 t) (o3 p) T = some V ∧ f_X3_merge (o3 st) V = some (r, U) ∧ okr U c' ∧ okW U (t * F.length + p) ∧ eRp T U ∧ eRp T V := by
  have h16 : t * F.length ≤ 16 * 10 := Nat.mul_le_mul ht hm
  obtain ⟨V, v1, v2, v3⟩ := k_ga hE hm hl ht hp (w := t * F.length + p) (by omega) (by omega) b1 hW
  obtain ⟨r, U, c', u1, u2, u3⟩ := k_mg (T := V) (c := c) (st := st) ⟨(v3.1 _ _ (by omega) (by omega) (by omega)).trans hc.1, hc.2⟩ hs v2
  exact ⟨V, U, r, c', v1, u1, u2, okW_eq hW (fun k => (u3.1 _ _ (by omega) (by omega)).trans (v3.1 _ _ (by omega) (by omega) (by omega))), (eRp_G v3).tr (eRp_M u3), eRp_G v3⟩
theorem okW_s {T : fS} {i s : Nat} (hs : s ≤ 4000) (h : i = 0 ∨ okW T i) : okW (pI T 47 i (o3 s)) i := fun j hj => by
  by_cases e : j = i
  · rw [e]; exact ⟨s, hs, pI_eq⟩
  · rcases h with h | h
    · omega
    · obtain ⟨z, z1, z2⟩ := h j hj
      exact ⟨z, z1, by rw [pI_ne (by omega)]; exact z2⟩
theorem okW_n {T : fS} {i s : Nat} (hs : s ≤ 4000) (h : okW T i) : okW (pI T 47 (i + 1) (o3 s)) (i + 1) := fun j hj => by
  by_cases e : j = i + 1
  · rw [e]; exact ⟨s, hs, pI_eq⟩
  · obtain ⟨z, z1, z2⟩ := h j (by omega)
    exact ⟨z, z1, by rw [pI_ne (by omega)]; exact z2⟩
theorem eRp_47 {T : fS} {i : Nat} {x : Int32} : eRp T (pI T 47 i x) := ⟨fun a k h => pI_ne (by omega), fun _ _ _ => rfl⟩
theorem k_24 {p3 : Int32} {f : Nat} (hE : ∀ q ∈ E, okS F.length q) (hm : F.length ≤ 10) (hl : E.length ≤ 12) (hf : f < F.length) {t : Nat} (ht : t ≤ 16) {K : fS → Option (Int32 × fS)} : ∀ d p nn T c, p + d = F.length → d < nn → twC T 4 F E → okr T c → (t * F.length + p = 0 ∨ okW T (t * F.length + p)) → ∃ U, eRp T U ∧ (lp_X3_spread_24 4 (o3 f) p3 (o3 t) K nn (o3 p) T = some (0, U) ∨ (lp_X3_spread_24 4 (o3 f) p3 (o3 t) K nn (o3 p) T = K U ∧ (∃ c', okr U c') ∧ (t * F.length + F.length = 0 ∨ okW U (t * F.length + F.length)))) := by
  have h16 : t * F.length ≤ 16 * 10 := Nat.mul_le_mul ht hm
  intro d
  induction d with
  | zero =>
    intro p nn T c hk hnn b1 hc hW
    obtain ⟨nn, rfl⟩ : ∃ z, nn = z + 1 := ⟨nn - 1, by omega⟩
    rw [lp_X3_spread_24.eq_2, b1.1, if_pos ((o3_le (by omega) (by omega)).mpr (by omega))]
    refine ⟨T, eRp.rf, Or.inr ⟨rfl, ⟨c, hc⟩, ?_⟩⟩
    rw [show F.length = p by omega] at hW ⊢
    exact hW
  | succ d ih =>
    intro p nn T c hk hnn b1 hc hW
    obtain ⟨nn, rfl⟩ : ∃ z, nn = z + 1 := ⟨nn - 1, by omega⟩
    have hp : p < F.length := by omega
    have W1 : okW (pI T 47 (t * F.length + p) (o3 c)) (t * F.length + p) := okW_s hc.2 hW
    have c1 : okr (pI T 47 (t * F.length + p) (o3 c)) c := ⟨(pI_ne (by omega)).trans hc.1, hc.2⟩
    have b2 := twC_R b1 (eRp_47 (i := t * F.length + p) (x := o3 c))
    /- the rest, from any state with that -/
    have rest : ∀ V c', eRp T V → twC V 4 F E → okr V c' → c ≤ c' → okW V (t * F.length + p) → ∃ X U r, f_X3_gatherSources 4 (o3 t) (o3 p) V = some X ∧ f_X3_merge (o3 c) X = some (r, U) ∧ eRp T U ∧ eRp T X ∧ (∃ Z, eRp T Z ∧ (((sI U 47 171 (((o3 t * (U.1 4 6)) + o3 p) + (1 : Int32)) (U.1 45 5)).bind fun S31 => lp_X3_spread_24 4 (o3 f) p3 (o3 t) K nn (o3 (p + 1)) S31) = some (0, Z) ∨ (((sI U 47 171 (((o3 t * (U.1 4 6)) + o3 p) + (1 : Int32)) (U.1 45 5)).bind fun S31 => lp_X3_spread_24 4 (o3 f) p3 (o3 t) K nn (o3 (p + 1)) S31) = K Z ∧ (∃ c', okr Z c') ∧ (t * F.length + F.length = 0 ∨ okW Z (t * F.length + F.length))))) := fun V c' eV bV cV hcc WV => by
      obtain ⟨X, U, r, c'', x1, u1, u2, u3, u4, u5⟩ := k_one hE hm hl ht hp bV WV cV hcc (G := fun _ => none)
      have bU := twC_R bV u4
      refine ⟨X, U, r, x1, u1, eV.tr u4, eV.tr u5, ?_⟩
      rw [bU.1, u2.1, o3_mul, o3_add, o3_s, sI_o (by omega) (by omega), bd_some]
      obtain ⟨Z, z1, z2⟩ := ih (p + 1) nn (pI U 47 (t * F.length + p + 1) (o3 c'')) c'' (by omega) (by omega) (twC_R bU eRp_47) ⟨(pI_ne (by omega)).trans u2.1, u2.2⟩ (Or.inr (okW_n u2.2 u3))
      exact ⟨Z, ((eV.tr u4).tr eRp_47).tr z1, z2⟩
    have fin : ∀ (X U : fS) (r : Int32), f_X3_merge (o3 c) X = some (r, U) → eRp T U → (∃ Z, eRp T Z ∧ (((sI U 47 171 (((o3 t * (U.1 4 6)) + o3 p) + (1 : Int32)) (U.1 45 5)).bind fun S31 => lp_X3_spread_24 4 (o3 f) p3 (o3 t) K nn (o3 (p + 1)) S31) = some (0, Z) ∨ (((sI U 47 171 (((o3 t * (U.1 4 6)) + o3 p) + (1 : Int32)) (U.1 45 5)).bind fun S31 => lp_X3_spread_24 4 (o3 f) p3 (o3 t) K nn (o3 (p + 1)) S31) = K Z ∧ (∃ c', okr Z c') ∧ (t * F.length + F.length = 0 ∨ okW Z (t * F.length + F.length))))) → ∃ Z, eRp T Z ∧ (((f_X3_merge (o3 c) X).bind fun q15 => if q15.1 = (0 : Int32) then (some ((0 : Int32), q15.2)) else ((sI q15.2 47 171 (((o3 t * (q15.2.1 4 6)) + o3 p) + (1 : Int32)) (q15.2.1 45 5)).bind fun S19 => lp_X3_spread_24 4 (o3 f) p3 (o3 t) K nn (o3 (p + 1)) S19)) = some (0, Z) ∨ (((f_X3_merge (o3 c) X).bind fun q15 => if q15.1 = (0 : Int32) then (some ((0 : Int32), q15.2)) else ((sI q15.2 47 171 (((o3 t * (q15.2.1 4 6)) + o3 p) + (1 : Int32)) (q15.2.1 45 5)).bind fun S19 => lp_X3_spread_24 4 (o3 f) p3 (o3 t) K nn (o3 (p + 1)) S19)) = K Z ∧ (∃ c', okr Z c') ∧ (t * F.length + F.length = 0 ∨ okW Z (t * F.length + F.length)))) := fun X U r u1 eU h => by
      rw [u1, bd_some]
      dsimp only
      by_cases z : r = 0
      · rw [if_pos z]; exact ⟨U, eU, Or.inl rfl⟩
      · rw [if_neg z]; exact h
    rw [lp_X3_spread_24.eq_2, b1.1, if_neg (fun q => by have := (o3_le (by omega) (by omega)).mp q; omega), o3_mul, o3_add, hc.1, sI_o (by omega) (by omega), bd_some, o3_s]
    have n10 : ¬ (1 : Int32) = 0 := by decide
    obtain ⟨X, U, r, x1, u1, eU, eX, h⟩ := rest _ c eRp_47 b2 c1 (Nat.le_refl _) W1
    by_cases h0 : (0 : Int32) < o3 t
    · rw [if_pos h0, x1, bd_some, if_neg n10]
      exact fin X U r u1 eU h
    · rw [if_neg h0]
      by_cases hpf : o3 p = o3 f
      · rw [if_pos hpf]
        unfold f_X3_stateOf
        rw [bd_some]
        obtain ⟨r', Y, c', y1, y2, y3, y4, y5⟩ := k_keep (x := ((0 : Int64) <<< (Int32.toInt64 (5 : Int32) &&& 63)) ||| (Int32.toInt64 (0 : Int32))) c1 (Nat.le_refl c)
        rw [y1, bd_some]
        dsimp only
        have eY1 : eRp (pI T 47 (t * F.length + p) (o3 c)) Y := ⟨fun a k _ => y4 a k (by omega), fun a k _ => y5 a k (by omega)⟩
        have eY : eRp T Y := (eRp_47 (i := t * F.length + p) (x := o3 c)).tr eY1
        have bY := twC_R b2 eY1
        have WY : okW Y (t * F.length + p) := okW_eq W1 (fun k => y4 _ _ (by omega))
        obtain ⟨X, U, r, x1, u1, eU, eX, h⟩ := rest Y c' eY bY y2 y3 WY
        by_cases z : r' = 0
        · rw [if_pos z, x1, bd_some, if_pos rfl]
          exact ⟨X, eX, Or.inl rfl⟩
        · rw [if_neg z, x1, bd_some, if_neg n10]
          exact fin X U r u1 eU h
      · rw [if_neg hpf, x1, bd_some, if_neg n10]
        exact fin X U r u1 eU h
theorem k_8 {f n : Nat} (hE : ∀ q ∈ E, okS F.length q) (hm : F.length ≤ 10) (hl : E.length ≤ 12) (hf : f < F.length) (hn : n ≤ 16) {K : fS → Option (Int32 × fS)} : ∀ d t nn T c, t + d = n + 1 → d < nn → twC T 4 F E → okr T c → (t * F.length = 0 ∨ okW T (t * F.length)) → ∃ U, eRp T U ∧ (lp_X3_spread_8 4 (o3 f) (o3 n) K nn (o3 t) T = some (0, U) ∨ (lp_X3_spread_8 4 (o3 f) (o3 n) K nn (o3 t) T = K U ∧ okW U ((n + 1) * F.length))) := by
  intro d
  induction d with
  | zero =>
    intro t nn T c hk hnn b1 hc hW
    obtain ⟨nn, rfl⟩ : ∃ z, nn = z + 1 := ⟨nn - 1, by omega⟩
    rw [lp_X3_spread_8.eq_2, if_pos ((o3_lt (by omega) (by omega)).mpr (by omega))]
    refine ⟨T, eRp.rf, Or.inr ⟨rfl, ?_⟩⟩
    rcases hW with hW | hW
    · exfalso
      have : 1 * 1 ≤ t * F.length := Nat.mul_le_mul (by omega) (by omega)
      omega
    · rw [show n + 1 = t by omega]; exact hW
  | succ d ih =>
    intro t nn T c hk hnn b1 hc hW
    obtain ⟨nn, rfl⟩ : ∃ z, nn = z + 1 := ⟨nn - 1, by omega⟩
    rw [lp_X3_spread_8.eq_2, if_neg (fun q => by have := (o3_lt (by omega) (by omega)).mp q; omega), if_neg (show ¬ (16 : Int32) < o3 t from fun q => by have := (o3_lt (a := 16) (by omega) (by omega)).mp q; omega), o3_s]
    obtain ⟨U, u1, u2⟩ := k_24 (p3 := o3 n) hE hm hl hf (t := t) (by omega) (K := fun S63 => lp_X3_spread_8 4 (o3 f) (o3 n) K nn (o3 (t + 1)) S63) F.length 0 FU T c (by omega) (FU_lt (by omega)) b1 hc hW
    rcases u2 with u2 | ⟨u2, ⟨c', u3⟩, u4⟩
    · exact ⟨U, u1, Or.inl u2⟩
    · have e : t * F.length + F.length = (t + 1) * F.length := by rw [Nat.add_mul, Nat.one_mul]
      rw [e] at u4
      obtain ⟨V, v1, v2⟩ := ih (t + 1) nn U c' (by omega) (by omega) (twC_R b1 u1) u3 u4
      refine ⟨V, u1.tr v1, ?_⟩
      rcases v2 with v2 | ⟨v2, v3⟩
      · exact Or.inl (u2.trans v2)
      · exact Or.inr ⟨u2.trans v2, v3⟩
theorem k_spread {f n : Nat} (hE : ∀ q ∈ E, okS F.length q) (hm : F.length ≤ 10) (hl : E.length ≤ 12) (hf : f < F.length) (hn : n ≤ 16) {S : fS} (b1 : twC S 4 F E) : ∃ r U, f_X3_spread 4 (o3 f) (o3 n) S = some (r, U) ∧ eRp S U ∧ (r = 0 ∨ (r = 1 ∧ okW U ((n + 1) * F.length))) := by
  unfold f_X3_spread
  rw [bd_some]
  have e0 : eRp S (pI S 45 5 0) := ⟨fun a k h => pI_ne (by omega), fun _ _ _ => rfl⟩
  obtain ⟨U, u1, u2⟩ := k_8 hE hm hl hf hn (K := fun S65 => some ((1 : Int32), S65)) (n + 1) 0 FU (pI S 45 5 0) 0 (by omega) (FU_lt (by omega)) (twC_R b1 e0) ⟨pI_eq, by omega⟩ (Or.inl (Nat.zero_mul _))
  rcases u2 with u2 | ⟨u2, u3⟩
  · exact ⟨0, U, u2, e0.tr u1, Or.inl rfl⟩
  · exact ⟨1, U, u2, e0.tr u1, Or.inr ⟨rfl, u3⟩⟩
theorem k_lc {f n : Nat} {x y : Int64} (hm : F.length ≤ 10) (hf : f < F.length) (hn : n ≤ 16) {S : fS} (b1 : twC S 4 F E) (hW : okW S ((n + 1) * F.length)) : ∃ r, f_X3_leastCarried 4 (o3 f) (o3 n) x y S = some r := by
  have h16 : n * F.length ≤ 16 * 10 := Nat.mul_le_mul hn hm
  have e : (n + 1) * F.length = n * F.length + F.length := by rw [Nat.add_mul, Nat.one_mul]
  obtain ⟨s, s1, s2⟩ := hW (n * F.length + f) (by omega)
  obtain ⟨t, t1, t2⟩ := hW (n * F.length + f + 1) (by omega)
  have key : ∀ d k nn (p8 : Int32), d = t - k → k ≤ 4000 → d < nn → ∃ r, lp_X3_leastCarried_23 x y (o3 (n * F.length + f)) S (fun u85 => some u85) nn p8 (o3 k) = some r := by
    intro d
    induction d with
    | zero =>
      intro k nn p8 hd hk hnn
      obtain ⟨nn, rfl⟩ : ∃ z, nn = z + 1 := ⟨nn - 1, by omega⟩
      rw [lp_X3_leastCarried_23.eq_2, o3_s, gI_o (by omega) (by omega), bd_some, t2, if_pos ((o3_le (by omega) (by omega)).mpr (by omega))]
      exact ⟨_, rfl⟩
    | succ d ih =>
      intro k nn p8 hd hk hnn
      obtain ⟨nn, rfl⟩ : ∃ z, nn = z + 1 := ⟨nn - 1, by omega⟩
      have go : ∀ p8, ∃ r, lp_X3_leastCarried_23 x y (o3 (n * F.length + f)) S (fun u85 => some u85) nn p8 (o3 (k + 1)) = some r := fun p8 => ih (k + 1) nn p8 (by omega) (by omega) (by omega)
      unfold lp_X3_leastCarried_23
      rw [o3_s, gI_o (by omega) (by omega), bd_some, t2, if_neg (fun q => by have := (o3_le (by omega) (by omega)).mp q; omega), gL_o (by omega) (by omega)]
      simp only [bd_some, f_X3_ageOf, f_X3_carriedOf, o3_s]
      repeat' split
      all_goals exact go _
  unfold f_X3_leastCarried
  rw [b1.1, o3_mul, o3_add, gI_o (by omega) (by omega), bd_some, s2]
  exact key (t - s) s FU (-2) rfl s1 (FU_lt (by omega))
end KS
end
noncomputable section
/-! ripe(): the reference goes on -/
def eRm (S T : fS) : Prop := (∀ a k, ¬ (164 ≤ a ∧ a ≤ 167) → ¬ (a = 145 ∧ k = 36) → T.1 a k = S.1 a k) ∧ (∀ a k, a ≠ 166 → T.2 a k = S.2 a k)
theorem eRm.rf {S : fS} : eRm S S := ⟨fun _ _ _ _ => rfl, fun _ _ _ => rfl⟩
theorem eRm.tr {S T U : fS} (h : eRm S T) (g : eRm T U) : eRm S U := ⟨fun a k x y => (g.1 a k x y).trans (h.1 a k x y), fun a k x => (g.2 a k x).trans (h.2 a k x)⟩
/-- so many states, each with an hour and a floor -/
def okm (m n : Nat) (T : fS) (c : Nat) : Prop := c ≤ 4001 ∧ T.1 145 36 = o3 c ∧ ∀ k, k < c → ∃ h f, h ≤ n ∧ f < m ∧ T.1 164 k = o3 h ∧ T.1 165 k = o3 f
theorem r_comes {m n h f c : Nat} {x : Int64} {y : Int32} (hm : m ≤ 10) (hn : n ≤ 16) (hh : h ≤ n) (hf : f < m) {T : fS} (hT : okm m n T c) : ∃ U c', f_X11_comes (o3 h) (o3 f) x y T = some U ∧ okm m n U c' ∧ c ≤ c' ∧ eRm T U := by
  obtain ⟨hc, h36, hk⟩ := id hT
  have app : ∃ U c', (if (T.1 145 36) ≤ (4000 : Int32) then ((sI T 164 4001 (T.1 145 36) (o3 h)).bind fun S30 => (sI S30 165 4001 (S30.1 145 36) (o3 f)).bind fun S33 => (sL S33 166 4001 (S33.1 145 36) x).bind fun S36 => (sI S36 167 4001 (S36.1 145 36) y).bind fun S39 => (some (pI S39 145 36 ((S39.1 145 36) + (1 : Int32)))).bind fun S42 => some S42) else (some T)) = some U ∧ okm m n U c' ∧ c ≤ c' ∧ eRm T U := by
    rw [h36]
    by_cases h4 : c ≤ 4000
    · rw [if_pos (show o3 c ≤ (4000 : Int32) from (o3_le (b := 4000) (by omega) (by omega)).mpr h4), sI_o (by omega) (by omega), bd_some, pI_ne (by omega), h36, sI_o (by omega) (by omega), bd_some, pI_ne (by omega), pI_ne (by omega), h36, sL_o (by omega) (by omega), bd_some]
      have e1 : (pL (pI (pI T 164 c (o3 h)) 165 c (o3 f)) 166 c x).1 145 36 = o3 c := by
        show (pI (pI T 164 c (o3 h)) 165 c (o3 f)).1 145 36 = o3 c
        rw [pI_ne (by omega), pI_ne (by omega), h36]
      rw [e1, sI_o (by omega) (by omega), bd_some, bd_some, pI_ne (by omega), e1, o3_s]
      have g1 : ∀ a k, ¬ (a = 145 ∧ k = 36) → ¬ (a = 167 ∧ k = c) → ¬ (a = 165 ∧ k = c) → ¬ (a = 164 ∧ k = c) → (pI (pI (pL (pI (pI T 164 c (o3 h)) 165 c (o3 f)) 166 c x) 167 c y) 145 36 (o3 (c + 1))).1 a k = T.1 a k := fun a k x y z w => by
        rw [pI_ne x, pI_ne y]
        show (pI (pI T 164 c (o3 h)) 165 c (o3 f)).1 a k = T.1 a k
        rw [pI_ne z, pI_ne w]
      refine ⟨_, c + 1, rfl, ⟨by omega, pI_eq, fun k hk' => ?_⟩, by omega, fun a k p q => g1 a k q (by omega) (by omega) (by omega), fun a k p => ?_⟩
      · by_cases e : k = c
        · refine ⟨h, f, hh, hf, ?_, ?_⟩
          · rw [e, pI_ne (by omega), pI_ne (by omega)]
            show (pI (pI T 164 c (o3 h)) 165 c (o3 f)).1 164 c = o3 h
            rw [pI_ne (by omega), pI_eq]
          · rw [e, pI_ne (by omega), pI_ne (by omega)]
            show (pI (pI T 164 c (o3 h)) 165 c (o3 f)).1 165 c = o3 f
            rw [pI_eq]
        · obtain ⟨h', f', a1, a2, a3, a4⟩ := hk k (by omega)
          exact ⟨h', f', a1, a2, by rw [g1 _ _ (by omega) (by omega) (by omega) (by omega)]; exact a3, by rw [g1 _ _ (by omega) (by omega) (by omega) (by omega)]; exact a4⟩
      · show (pL (pI (pI T 164 c (o3 h)) 165 c (o3 f)) 166 c x).2 a k = T.2 a k
        rw [pL_ne (by omega)]
        rfl
    · rw [if_neg (show ¬ o3 c ≤ (4000 : Int32) from fun q => h4 ((o3_le (b := 4000) (by omega) (by omega)).mp q))]
      exact ⟨T, c, rfl, hT, by omega, eRm.rf⟩
  have st : ∀ k z, ∃ U c', some (pI T 167 k z) = some U ∧ okm m n U c' ∧ c ≤ c' ∧ eRm T U := fun k z => ⟨_, c, rfl, ⟨hc, (pI_ne (by omega)).trans h36, fun j hj => by
    rw [pI_ne (by omega), pI_ne (by omega)]
    exact hk j hj⟩, by omega, fun a j p _ => pI_ne (by omega), fun _ _ _ => rfl⟩
  unfold f_X11_comes
  have key : ∀ d k nn, k + d = c → d < nn → ∃ U c', lp_X11_comes_3 (o3 h) (o3 f) x y (fun S27 => if (S27.1 145 36) ≤ (4000 : Int32) then ((sI S27 164 4001 (S27.1 145 36) (o3 h)).bind fun S30 => (sI S30 165 4001 (S30.1 145 36) (o3 f)).bind fun S33 => (sL S33 166 4001 (S33.1 145 36) x).bind fun S36 => (sI S36 167 4001 (S36.1 145 36) y).bind fun S39 => (some (pI S39 145 36 ((S39.1 145 36) + (1 : Int32)))).bind fun S42 => some S42) else (some S27)) nn (o3 k) T = some U ∧ okm m n U c' ∧ c ≤ c' ∧ eRm T U := by
    intro d
    induction d with
    | zero =>
      intro k nn hk' hnn
      obtain ⟨nn, rfl⟩ : ∃ z, nn = z + 1 := ⟨nn - 1, by omega⟩
      rw [lp_X11_comes_3.eq_2, if_pos (show T.1 145 36 ≤ o3 k by rw [h36]; exact (o3_le (by omega) (by omega)).mpr (by omega))]
      exact app
    | succ d ih =>
      intro k nn hk' hnn
      obtain ⟨nn, rfl⟩ : ∃ z, nn = z + 1 := ⟨nn - 1, by omega⟩
      have go := ih (k + 1) nn (by omega) (by omega)
      rw [lp_X11_comes_3.eq_2, if_neg (show ¬ T.1 145 36 ≤ o3 k by rw [h36]; exact fun q => by have := (o3_le (by omega) (by omega)).mp q; omega), gI_o (by omega) (by omega), gI_o (by omega) (by omega), gL_o (by omega) (by omega), gI_o (by omega) (by omega), bd_some, bd_some, bd_some, bd_some, bd_some, sI_o (by omega) (by omega), sI_o (by omega) (by omega), bd_some, bd_some, o3_s]
      split
      · split
        · split
          · split
            · exact st _ _
            · exact st _ _
          · exact go
        · exact go
      · exact go
  exact key c 0 FU (by omega) (FU_lt (by omega))
section RM
variable {F : List (Nat × Nat)} {E : List St5}
theorem twM_R {S T : fS} (h : twM (S.1 157) F E) (e : eRm S T) : twM (T.1 157) F E := by
  rw [show T.1 157 = S.1 157 from funext fun k => e.1 157 k (by omega) (by omega)]; exact h
theorem r_51 (hE : ∀ q ∈ E, okS F.length q) (hm : F.length ≤ 10) (hl : E.length ≤ 12) {n i h f : Nat} (hn : n ≤ 16) (hh : h ≤ n) (hf : f < F.length) (hi : i < 4001) {K : fS → Option fS} : ∀ d k nn T c, k + d = E.length → d < nn → twM (T.1 157) F E → okm F.length n T c → ∃ U c', lp_X11_goesOn_51 (o3 i) (o3 n) (o3 h) (o3 f) K nn (o3 k) T = K U ∧ okm F.length n U c' ∧ c ≤ c' ∧ eRm T U := by
  intro d
  induction d with
  | zero =>
    intro k nn T c hk hnn m1 hT
    obtain ⟨nn, rfl⟩ : ∃ z, nn = z + 1 := ⟨nn - 1, by omega⟩
    rw [lp_X11_goesOn_51.eq_2, show gI T 157 158 1 = some (o3 E.length) from (gI_o (k := 1) (by omega) (by omega)).trans (congrArg some m1.2.1), bd_some, if_pos ((o3_le (by omega) (by omega)).mpr (by omega))]
    exact ⟨T, c, rfl, hT, by omega, eRm.rf⟩
  | succ d ih =>
    intro k nn T c hk hnn m1 hT
    obtain ⟨nn, rfl⟩ : ∃ z, nn = z + 1 := ⟨nn - 1, by omega⟩
    have hkl : k < E.length := by omega
    have hq' := hE _ (gd_mem (d := d5) hkl)
    have h9 := hq'.2.2.2.2.1
    have e3 : f_X11_stairOf (o3 k) 2 T = some (o3 (E.getD k d5).2.2.1) := (mh_stair m1 hl hkl).2.2.1
    rw [lp_X11_goesOn_51.eq_2, show gI T 157 158 1 = some (o3 E.length) from (gI_o (k := 1) (by omega) (by omega)).trans (congrArg some m1.2.1), bd_some, if_neg (fun q => by have := (o3_le (by omega) (by omega)).mp q; omega), e3, bd_some, mh_other m1 hE hm hl hkl (by omega), bd_some, bd_some, o3_s, o3_add]
    rcases oe_or (a := f) hq' hm with ⟨o, o1, o2, _⟩ | ⟨o2, _⟩
    · rw [o2, if_neg (o3_nn (by omega))]
      by_cases hlt : n < h + (E.getD k d5).2.2.1
      · rw [if_pos ((o3_lt (by omega) (by omega)).mpr hlt)]
        exact ih (k + 1) nn T c (by omega) (by omega) m1 hT
      · rw [if_neg (fun q => hlt ((o3_lt (by omega) (by omega)).mp q)), gL_o (by omega) (by omega), bd_some, mp_stair m1 hE hl hkl, bd_some, gI_o (by omega) (by omega), bd_some]
        obtain ⟨U, c', u1, u2, u3, u4⟩ := r_comes (h := h + (E.getD k d5).2.2.1) (x := T.2 166 i + Int32.toInt64 (o3 (E.getD k d5).2.2.1) * pc (E.getD k d5).2.2.2) (y := T.1 167 i + o3 (E.getD k d5).2.2.1) hm hn (by omega) o1 hT
        rw [u1, bd_some]
        obtain ⟨V, c'', v1, v2, v3, v4⟩ := ih (k + 1) nn U c' (by omega) (by omega) (twM_R m1 u4) u2
        exact ⟨V, c'', v1, v2, by omega, u4.tr v4⟩
    · rw [o2, if_pos (show (-1 : Int32) < 0 by decide)]
      exact ih (k + 1) nn T c (by omega) (by omega) m1 hT
theorem r_go (hF : ∀ q ∈ F, okF q) (hE : ∀ q ∈ E, okS F.length q) (hm : F.length ≤ 10) (hl : E.length ≤ 12) {n i c : Nat} (hn : n ≤ 16) {T : fS} (hi : i < c) (m1 : twM (T.1 157) F E) (hT : okm F.length n T c) : ∃ U c', f_X11_goesOn (o3 i) (o3 n) T = some U ∧ okm F.length n U c' ∧ c ≤ c' ∧ eRm T U := by
  have hc := hT.1
  obtain ⟨h, f, h1, f1, h2, f2⟩ := hT.2.2 i hi
  unfold f_X11_goesOn
  rw [gI_o (by omega) (by omega), bd_some, gI_o (by omega) (by omega), bd_some, h2, f2]
  by_cases z : n ≤ h
  · rw [if_pos ((o3_le (by omega) (by omega)).mpr z)]
    exact r_51 hE hm hl hn h1 f1 (by omega) (K := fun S35 => some S35) E.length 0 FU T c (by omega) (FU_lt (by omega)) m1 hT
  · rw [if_neg (fun q => z ((o3_le (by omega) (by omega)).mp q)), gL_o (by omega) (by omega), bd_some, mp_floor m1 hF hm f1, bd_some, gI_o (by omega) (by omega), bd_some, o3_s]
    obtain ⟨U, c', u1, u2, u3, u4⟩ := r_comes (h := h + 1) (x := T.2 166 i + pc (F.getD f (0, 0))) (y := T.1 167 i) hm hn (by omega) f1 hT
    rw [u1, bd_some]
    obtain ⟨V, c'', v1, v2, v3, v4⟩ := r_51 hE hm hl hn h1 f1 (i := i) (by omega) (K := fun S49 => some S49) E.length 0 FU U c' (by omega) (FU_lt (by omega)) (twM_R m1 u4) u2
    exact ⟨V, c'', v1, v2, by omega, u4.tr v4⟩
theorem r_93 {p2 p4 p5 p6 : Int32} (hF : ∀ q ∈ F, okF q) (hE : ∀ q ∈ E, okS F.length q) (hm : F.length ≤ 10) (hl : E.length ≤ 12) {n : Nat} (hn : n ≤ 16) {K : fS → Option (Int32 × fS)} : ∀ d k nn T c, d = 4001 - k → k ≤ 4001 → d < nn → twM (T.1 157) F E → okm F.length n T c → ∃ U c', lp_X11_ripe_93 p2 (o3 n) p4 p5 p6 K nn (o3 k) T = K U ∧ okm F.length n U c' ∧ eRm T U := by
  intro d
  induction d with
  | zero =>
    intro k nn T c hd hk hnn m1 hT
    have hc := hT.1
    obtain ⟨nn, rfl⟩ : ∃ z, nn = z + 1 := ⟨nn - 1, by omega⟩
    rw [lp_X11_ripe_93.eq_2, hT.2.1, if_pos ((o3_le (by omega) (by omega)).mpr (by omega))]
    exact ⟨T, c, rfl, hT, eRm.rf⟩
  | succ d ih =>
    intro k nn T c hd hk hnn m1 hT
    have hc := hT.1
    obtain ⟨nn, rfl⟩ : ∃ z, nn = z + 1 := ⟨nn - 1, by omega⟩
    rw [lp_X11_ripe_93.eq_2, hT.2.1]
    by_cases h1 : c ≤ k
    · rw [if_pos ((o3_le (by omega) (by omega)).mpr h1)]
      exact ⟨T, c, rfl, hT, eRm.rf⟩
    · rw [if_neg (fun q => h1 ((o3_le (by omega) (by omega)).mp q)), gI_o (by omega) (by omega), bd_some, o3_s]
      split
      · exact ⟨T, c, rfl, hT, eRm.rf⟩
      · split
        · obtain ⟨U, c', u1, u2, u3, u4⟩ := r_go hF hE hm hl hn (i := k) (by omega) m1 hT
          rw [u1, bd_some]
          obtain ⟨V, c'', v1, v2, v3⟩ := ih (k + 1) nn U c' (by omega) (by omega) (by omega) (twM_R m1 u4) u2
          exact ⟨V, c'', v1, v2, u4.tr v3⟩
        · exact ih (k + 1) nn T c (by omega) (by omega) (by omega) m1 hT
theorem r_74 {p2 p4 p5 : Int32} (hF : ∀ q ∈ F, okF q) (hE : ∀ q ∈ E, okS F.length q) (hm : F.length ≤ 10) (hl : E.length ≤ 12) {n : Nat} (hn : n ≤ 16) {K : fS → Option (Int32 × fS)} : ∀ d k nn T c, k + d = n + 1 → d < nn → twM (T.1 157) F E → okm F.length n T c → ∃ U c', lp_X11_ripe_74 p2 (o3 n) p4 p5 K nn (o3 k) T = K U ∧ okm F.length n U c' ∧ eRm T U := by
  intro d
  induction d with
  | zero =>
    intro k nn T c hk hnn m1 hT
    obtain ⟨nn, rfl⟩ : ∃ z, nn = z + 1 := ⟨nn - 1, by omega⟩
    rw [lp_X11_ripe_74.eq_2, if_pos ((o3_lt (by omega) (by omega)).mpr (by omega))]
    exact ⟨T, c, rfl, hT, eRm.rf⟩
  | succ d ih =>
    intro k nn T c hk hnn m1 hT
    obtain ⟨nn, rfl⟩ : ∃ z, nn = z + 1 := ⟨nn - 1, by omega⟩
    rw [lp_X11_ripe_74.eq_2, if_neg (fun q => by have := (o3_lt (by omega) (by omega)).mp q; omega), o3_s]
    split
    · exact ⟨T, c, rfl, hT, eRm.rf⟩
    · obtain ⟨U, c', u1, u2, u3⟩ := r_93 (p2 := p2) (p4 := p4) (p5 := p5) (p6 := o3 k) hF hE hm hl hn (K := fun S38 => lp_X11_ripe_74 p2 (o3 n) p4 p5 K nn (o3 (k + 1)) S38) 4001 0 FU T c (by omega) (by omega) (FU_lt (by omega)) m1 hT
      obtain ⟨V, c'', v1, v2, v3⟩ := ih (k + 1) nn U c' (by omega) (by omega) (twM_R m1 u3) u2
      rw [show (0 : Int32) = o3 0 from rfl, u1]
      exact ⟨V, c'', v1, v2, u3.tr v3⟩
theorem r_163 {m n c : Nat} {p2 p3 p4 p5 : Int32} {T : fS} (hT : okm m n T c) : ∀ d k nn (p6 : Int32), k + d = c → d < nn → ∃ r, lp_X11_ripe_163 p2 p3 p4 p5 (fun u120 S121 => some (u120, S121)) nn p6 (o3 k) T = some (r, T) := by
  have hc := hT.1
  intro d
  induction d with
  | zero =>
    intro k nn p6 hk hnn
    obtain ⟨nn, rfl⟩ : ∃ z, nn = z + 1 := ⟨nn - 1, by omega⟩
    rw [lp_X11_ripe_163.eq_2, hT.2.1, if_pos ((o3_le (by omega) (by omega)).mpr (by omega))]
    exact ⟨_, rfl⟩
  | succ d ih =>
    intro k nn p6 hk hnn
    obtain ⟨nn, rfl⟩ : ∃ z, nn = z + 1 := ⟨nn - 1, by omega⟩
    have go : ∀ p6, ∃ r, lp_X11_ripe_163 p2 p3 p4 p5 (fun u120 S121 => some (u120, S121)) nn p6 (o3 (k + 1)) T = some (r, T) := fun p6 => ih (k + 1) nn p6 (by omega) (by omega)
    have g1 : gI T 164 4001 (o3 k) = some (T.1 164 k) := gI_o (by omega) (by omega)
    have g2 : gI T 165 4001 (o3 k) = some (T.1 165 k) := gI_o (by omega) (by omega)
    have g3 : gL T 166 4001 (o3 k) = some (T.2 166 k) := gL_o (by omega) (by omega)
    have g4 : gI T 167 4001 (o3 k) = some (T.1 167 k) := gI_o (by omega) (by omega)
    have n10 : ¬ (1 : Int32) = 0 := by decide
    rw [lp_X11_ripe_163.eq_2, hT.2.1, if_neg (fun q => by have := (o3_le (by omega) (by omega)).mp q; omega), g1, bd_some, o3_s, g2, bd_some, g3, bd_some]
    generalize Int32.toInt64 p4 * (232792560 : Int64) = A
    generalize Int32.toInt64 p5 * (232792560 : Int64) = B
    by_cases z1 : T.1 164 k = p3
    · rw [if_pos z1]
      by_cases z2 : T.1 165 k = p2
      · rw [if_pos z2]
        by_cases z3 : T.2 166 k < A
        · rw [if_pos z3, if_pos rfl]; exact go _
        · rw [if_neg z3, bd_some]
          by_cases z4 : B < T.2 166 k
          · rw [if_pos z4, if_pos rfl]; exact go _
          · rw [if_neg z4, if_neg n10, g4, bd_some, bd_some]
            by_cases z5 : p6 < 0
            · rw [if_pos z5]; exact go _
            · rw [if_neg z5]
              by_cases z6 : p6 ≤ T.1 167 k
              · rw [if_pos z6]; exact go _
              · rw [if_neg z6]; exact go _
      · rw [if_neg z2, if_pos rfl]; exact go _
    · rw [if_neg z1, if_pos rfl]; exact go _
end RM
end
noncomputable section
/-- ripe: both answer -/
theorem t_18 (a1 a2 a3 a4 a5 : Int32) (S : fS) (hR : Rel S) : ∃ r r' S1 S2, f_X10_ripe a1 a2 a3 a4 a5 S = some (r, S1) ∧ f_X11_ripe a1 a2 a3 a4 a5 S1 = some (r', S2) ∧ Rel S2 := by
  have hR0 := hR
  obtain ⟨n', s, L, M, hT, hS, hL, hM⟩ := hR
  have hS0 := hS
  obtain ⟨⟨n1, n2, n3, n4, n5, n6⟩, ⟨b1, b2, b3, b4, b5⟩, ⟨m1, m2, m3, m4⟩, d⟩ := hS
  have i3 : f_X10_isFrom a3 0 16 S = some (if ((0 : Nat) : Int) ≤ a3.toInt ∧ a3.toInt ≤ ((16 : Nat) : Int) then 1 else 0) := from_c (a := 0) (b := 16) (by omega) (by omega)
  have i4 : f_X10_isFrom a4 0 999 S = some (if ((0 : Nat) : Int) ≤ a4.toInt ∧ a4.toInt ≤ ((999 : Nat) : Int) then 1 else 0) := from_c (a := 0) (b := 999) (by omega) (by omega)
  have j3 : ∀ T : fS, f_X11_in (Int32.toInt64 a3) 0 16 T = some (if ((0 : Nat) : Int) ≤ a3.toInt ∧ a3.toInt ≤ ((16 : Nat) : Int) then 1 else 0) := fun T => in_c (a := 0) (b := 16) (by omega) (by omega)
  have j4 : ∀ T : fS, f_X11_in (Int32.toInt64 a4) 0 999 T = some (if ((0 : Nat) : Int) ≤ a4.toInt ∧ a4.toInt ≤ ((999 : Nat) : Int) then 1 else 0) := fun T => in_c (a := 0) (b := 999) (by omega) (by omega)
  have no : f_X10_ripe a1 a2 a3 a4 a5 S = some (-1, S) → f_X11_ripe a1 a2 a3 a4 a5 S = some (-1, S) → ∃ r r' S1 S2, f_X10_ripe a1 a2 a3 a4 a5 S = some (r, S1) ∧ f_X11_ripe a1 a2 a3 a4 a5 S1 = some (r', S2) ∧ Rel S2 := fun h g => ⟨-1, -1, S, S, h, g, hR0⟩
  have n1z : ¬ (1 : Int32) = 0 := by decide
  by_cases h1 : ¬ (0 ≤ a1.toInt ∧ a1.toInt < s.1.length)
  · refine no ?_ ?_
    · unfold f_X10_ripe; rw [ci_floor b1.1 (by omega), bd_some, if_neg h1, if_pos rfl]
    · unfold f_X11_ripe; rw [mi_floor m1.1 (by omega), bd_some, if_neg h1, if_pos rfl]
  have h1 := Decidable.not_not.mp h1
  by_cases h2 : ¬ (0 ≤ a2.toInt ∧ a2.toInt < s.1.length)
  · refine no ?_ ?_
    · unfold f_X10_ripe; rw [ci_floor b1.1 (by omega), bd_some, if_pos h1, if_neg n1z, ci_floor b1.1 (by omega), bd_some, if_neg h2, if_pos rfl]
    · unfold f_X11_ripe; rw [mi_floor m1.1 (by omega), bd_some, if_pos h1, if_neg n1z, mi_floor m1.1 (by omega), bd_some, if_neg h2, if_pos rfl]
  have h2 := Decidable.not_not.mp h2
  by_cases h3 : ¬ (((0 : Nat) : Int) ≤ a3.toInt ∧ a3.toInt ≤ ((16 : Nat) : Int))
  · refine no ?_ ?_
    · unfold f_X10_ripe; rw [ci_floor b1.1 (by omega), bd_some, if_pos h1, if_neg n1z, ci_floor b1.1 (by omega), bd_some, if_pos h2, if_neg n1z, i3, bd_some, if_neg h3, if_pos rfl]
    · unfold f_X11_ripe; rw [mi_floor m1.1 (by omega), bd_some, if_pos h1, if_neg n1z, mi_floor m1.1 (by omega), bd_some, if_pos h2, if_neg n1z, j3, bd_some, if_neg h3, if_pos rfl]
  have h3 := Decidable.not_not.mp h3
  by_cases h4 : ¬ (((0 : Nat) : Int) ≤ a4.toInt ∧ a4.toInt ≤ ((999 : Nat) : Int))
  · refine no ?_ ?_
    · unfold f_X10_ripe; rw [ci_floor b1.1 (by omega), bd_some, if_pos h1, if_neg n1z, ci_floor b1.1 (by omega), bd_some, if_pos h2, if_neg n1z, i3, bd_some, if_pos h3, if_neg n1z, i4, bd_some, if_neg h4, if_pos rfl]
    · unfold f_X11_ripe; rw [mi_floor m1.1 (by omega), bd_some, if_pos h1, if_neg n1z, mi_floor m1.1 (by omega), bd_some, if_pos h2, if_neg n1z, j3, bd_some, if_pos h3, if_neg n1z, j4, bd_some, if_neg h4, if_pos rfl]
  have h4 := Decidable.not_not.mp h4
  obtain ⟨f, e1, e2⟩ := o3_ex h1.1
  obtain ⟨g, e3, e4⟩ := o3_ex h2.1
  obtain ⟨n, e5, e6⟩ := o3_ex (x := a3) (by omega)
  obtain ⟨v, e7, e8⟩ := o3_ex (x := a4) (by omega)
  have hf : f < s.1.length := by omega
  have hg : g < s.1.length := by omega
  have hn : n ≤ 16 := by omega
  have i5 : f_X10_isFrom a5 (o3 v) 999 S = some (if ((v : Nat) : Int) ≤ a5.toInt ∧ a5.toInt ≤ ((999 : Nat) : Int) then 1 else 0) := from_c (a := v) (b := 999) (by omega) (by omega)
  have j5 : ∀ T : fS, f_X11_in (Int32.toInt64 a5) (Int32.toInt64 (o3 v)) 999 T = some (if ((v : Nat) : Int) ≤ a5.toInt ∧ a5.toInt ≤ ((999 : Nat) : Int) then 1 else 0) := fun T => by
    rw [o6_of3 (by omega)]
    exact in_c (a := v) (b := 999) (by omega) (by omega)
  have cP : f_X10_ripe a1 a2 a3 a4 a5 S = if ((v : Nat) : Int) ≤ a5.toInt ∧ a5.toInt ≤ ((999 : Nat) : Int) then ((f_X3_spread 4 (o3 f) (o3 n) S).bind fun q21 => if q21.1 = (0 : Int32) then (some ((-3 : Int32), q21.2)) else ((f_X3_leastCarried 4 (o3 g) (o3 n) ((Int32.toInt64 (o3 v)) * (232792560 : Int64)) ((Int32.toInt64 a5) * (232792560 : Int64)) q21.2).bind fun q25 => some (q25, q21.2))) else some (-1, S) := by
    unfold f_X10_ripe; rw [ci_floor b1.1 (by omega), bd_some, if_pos h1, if_neg n1z, ci_floor b1.1 (by omega), bd_some, if_pos h2, if_neg n1z, i3, bd_some, if_pos h3, if_neg n1z, i4, bd_some, if_pos h4, if_neg n1z, e7, i5, bd_some, if1z, e1, e3, e5]
  have mP : ∀ T : fS, T.1 157 0 = S.1 157 0 → f_X11_ripe a1 a2 a3 a4 a5 T = if ((v : Nat) : Int) ≤ a5.toInt ∧ a5.toInt ≤ ((999 : Nat) : Int) then ((f_X11_comes (0 : Int32) (o3 f) (0 : Int64) (0 : Int32) (pI T 145 36 (0 : Int32))).bind fun q24 => lp_X11_ripe_74 (o3 g) (o3 n) (o3 v) a5 (fun S40 => if (S40.1 145 36) ≤ (4000 : Int32) then (lp_X11_ripe_163 (o3 g) (o3 n) (o3 v) a5 (fun u120 S121 => some (u120, S121)) FU (-2 : Int32) (0 : Int32) S40) else (some ((-3 : Int32), S40))) FU (0 : Int32) q24) else some (-1, T) := fun T hTT => by
    unfold f_X11_ripe; rw [mi_floor (hTT.trans m1.1) (by omega), bd_some, if_pos h1, if_neg n1z, mi_floor (hTT.trans m1.1) (by omega), bd_some, if_pos h2, if_neg n1z, j3, bd_some, if_pos h3, if_neg n1z, j4, bd_some, if_pos h4, if_neg n1z, e7, j5, bd_some, if1z, e1, e3, e5, bd_some]
  by_cases h5 : ¬ (((v : Nat) : Int) ≤ a5.toInt ∧ a5.toInt ≤ ((999 : Nat) : Int))
  · exact no (by rw [cP, if_neg h5]) (by rw [mP S rfl, if_neg h5])
  have h5 := Decidable.not_not.mp h5
  rw [if_pos h5] at cP
  obtain ⟨r, S1, u1, u2, u3⟩ := k_spread n4 n1 n2 hf hn b1
  have hc : ∃ q, f_X10_ripe a1 a2 a3 a4 a5 S = some (q, S1) := by
    rw [cP, u1, bd_some]
    dsimp only
    rcases u3 with u3 | ⟨u3, u4⟩
    · rw [if_pos u3]; exact ⟨_, rfl⟩
    · rw [if_neg (by rw [u3]; decide)]
      obtain ⟨q, q1⟩ := k_lc (x := (Int32.toInt64 (o3 v)) * (232792560 : Int64)) (y := (Int32.toInt64 a5) * (232792560 : Int64)) n1 hg hn (twC_R b1 u2) u4
      rw [q1, bd_some]
      exact ⟨q, rfl⟩
  have k157 : S1.1 157 = S.1 157 := funext fun k => u2.1 157 k (by omega)
  have hm1 : twM (S1.1 157) s.1 s.2.1 := by rw [k157]; exact m1
  have e0 : eRm S1 (pI S1 145 36 0) := ⟨fun a k _ y => pI_ne y, fun _ _ _ => rfl⟩
  have o0 : okm s.1.length n (pI S1 145 36 0) 0 := ⟨by omega, pI_eq, fun k hk => absurd hk (Nat.not_lt_zero _)⟩
  obtain ⟨T1, c1, t1, t2, t3, t4⟩ := r_comes (h := 0) (f := f) (x := 0) (y := 0) n1 hn (by omega) hf o0
  have e01 := e0.tr t4
  obtain ⟨S2, c2, w1, w2, w3⟩ := r_74 (p2 := o3 g) (p4 := o3 v) (p5 := a5) n3 n4 n1 n2 hn (K := fun S40 => if (S40.1 145 36) ≤ (4000 : Int32) then (lp_X11_ripe_163 (o3 g) (o3 n) (o3 v) a5 (fun u120 S121 => some (u120, S121)) FU (-2 : Int32) (0 : Int32) S40) else (some ((-3 : Int32), S40))) (n + 1) 0 FU T1 c1 (by omega) (FU_lt (by omega)) (twM_R hm1 e01) t2
  have e2m := e01.tr w3
  have hmm : ∃ q, f_X11_ripe a1 a2 a3 a4 a5 S1 = some (q, S2) := by
    rw [mP S1 (congrFun k157 0), if_pos h5]
    rw [show f_X11_comes (0 : Int32) (o3 f) (0 : Int64) (0 : Int32) (pI S1 145 36 (0 : Int32)) = some T1 from t1, bd_some, show (0 : Int32) = o3 0 from rfl]
    have w1 : lp_X11_ripe_74 (o3 g) (o3 n) (o3 v) a5 _ FU (o3 0) T1 = _ := w1
    rw [show (fun S40 : fS => if (S40.1 145 36) ≤ (4000 : Int32) then (lp_X11_ripe_163 (o3 g) (o3 n) (o3 v) a5 (fun u120 S121 => some (u120, S121)) FU (-2 : Int32) (o3 0) S40) else (some ((-3 : Int32), S40))) = (fun S40 : fS => if (S40.1 145 36) ≤ (4000 : Int32) then (lp_X11_ripe_163 (o3 g) (o3 n) (o3 v) a5 (fun u120 S121 => some (u120, S121)) FU (-2 : Int32) (0 : Int32) S40) else (some ((-3 : Int32), S40))) from by rw [show (0 : Int32) = o3 0 from rfl], w1]
    have hc2 := w2.1
    split
    · obtain ⟨q, q1⟩ := r_163 (p2 := o3 g) (p3 := o3 n) (p4 := o3 v) (p5 := a5) w2 c2 0 FU (-2) (by omega) (FU_lt (by omega))
      rw [show (0 : Int32) = o3 0 from rfl]
      exact ⟨q, q1⟩
    · exact ⟨_, rfl⟩
  obtain ⟨q, hq⟩ := hc
  obtain ⟨q', hq'⟩ := hmm
  have f1 : ∀ a k, ¬ (45 ≤ a ∧ a ≤ 50) → ¬ (164 ≤ a ∧ a ≤ 167) → ¬ (a = 145 ∧ k = 36) → S2.1 a k = S.1 a k := fun a k x y z => (e2m.1 a k y z).trans (u2.1 a k x)
  have f2 : ∀ a k, ¬ (45 ≤ a ∧ a ≤ 50) → a ≠ 166 → S2.2 a k = S.2 a k := fun a k x y => (e2m.2 a k y).trans (u2.2 a k x)
  refine ⟨q, q', S1, S2, hq, hq', n', s, L, M, ?_, ?_, ?_, ?_⟩
  · exact rTp_eq hT (f1 _ _ (by omega) (by omega) (by omega)) (f1 _ _ (by omega) (by omega) (by omega)) (fun k => f1 _ _ (by omega) (by omega) (by omega)) (fun k => f1 _ _ (by omega) (by omega) (by omega))
  · exact rSc_eq hS0 (fun a k _ _ => f1 _ _ (by omega) (by omega) (by omega)) (fun a k _ _ => f2 _ _ (by omega) (by omega)) (by rw [f1 3 3 (by omega) (by omega) (by omega)]; exact b5) (fun k => f1 _ _ (by omega) (by omega) (by omega)) (fun a k _ => f2 _ _ (by omega) (by omega))
  · exact rRu_eq hL (f1 _ _ (by omega) (by omega) (by omega)) (f1 _ _ (by omega) (by omega) (by omega)) (fun a k _ _ _ => f1 _ _ (by omega) (by omega) (by omega)) (fun a k _ => f1 _ _ (by omega) (by omega) (by omega))
  · exact rIm_eq hM (fun a k _ _ => f1 _ _ (by omega) (by omega) (by omega)) (fun a k _ _ => f2 _ _ (by omega) (by omega)) (fun k => f1 _ _ (by omega) (by omega) (by omega)) (fun k => f2 _ _ (by omega) (by omega)) (fun k => f1 _ _ (by omega) (by omega) (by omega))
end
noncomputable section
/-! waiting(): a way turned round -/
def wst (F : List (Nat × Nat)) (f : Nat) : Option (Nat × Nat × Nat) := if f < F.length then some (f, 1, (F.getD f (0, 0)).1 * pz (F.getD f (0, 0))) else none
def wsa (E : List St5) (k f : Nat) : Option (Nat × Nat × Nat) := if k < E.length then (if (E.getD k d5).1 = f then some ((E.getD k d5).2.1, (E.getD k d5).2.2.1, (E.getD k d5).2.2.1 * ((E.getD k d5).2.2.2.1 * pz (E.getD k d5).2.2.2)) else if (E.getD k d5).2.1 = f then some ((E.getD k d5).1, (E.getD k d5).2.2.1, (E.getD k d5).2.2.1 * ((E.getD k d5).2.2.2.1 * pz (E.getD k d5).2.2.2)) else none) else none
def wsp (F : List (Nat × Nat)) (E : List St5) (s : Option Nat) (f : Nat) : Option (Nat × Nat × Nat) := match s with
  | none => wst F f
  | some k => wsa E k f
def wwk (F : List (Nat × Nat)) (E : List St5) : List (Option Nat) → Nat → Option (Nat × Nat × Nat)
  | [], f => some (f, 0, 0)
  | s :: w, f => (wsp F E s f).bind fun r => (wwk F E w r.1).map fun t => (t.1, r.2.1 + t.2.1, r.2.2 + t.2.2)
section WR
variable {F : List (Nat × Nat)} {E : List St5}
theorem wsa_sy {m : Nat} (hE : ∀ q ∈ E, okS m q) {k f : Nat} {r : Nat × Nat × Nat} (e : wsa E k f = some r) : wsa E k r.1 = some (f, r.2.1, r.2.2) := by
  unfold wsa at e
  by_cases z : k < E.length
  · rw [if_pos z] at e
    have hne := (hE _ (gd_mem (d := d5) z)).2.2.1
    by_cases z1 : (E.getD k d5).1 = f
    · rw [if_pos z1] at e
      obtain rfl := Option.some.inj e
      show wsa E k (E.getD k d5).2.1 = _
      unfold wsa
      rw [if_pos z, if_neg hne, if_pos rfl, z1]
    · rw [if_neg z1] at e
      by_cases z2 : (E.getD k d5).2.1 = f
      · rw [if_pos z2] at e
        obtain rfl := Option.some.inj e
        show wsa E k (E.getD k d5).1 = _
        unfold wsa
        rw [if_pos z, if_pos rfl, z2]
      · rw [if_neg z2] at e; exact nomatch e
  · rw [if_neg z] at e; exact nomatch e
theorem wst_sy {f : Nat} {r : Nat × Nat × Nat} (e : wst F f = some r) : wst F r.1 = some (f, r.2.1, r.2.2) := by
  have e0 := e
  unfold wst at e
  by_cases z : f < F.length
  · rw [if_pos z] at e
    obtain rfl := Option.some.inj e
    exact e0
  · rw [if_neg z] at e; exact nomatch e
theorem wsp_sy {m : Nat} (hE : ∀ q ∈ E, okS m q) {s : Option Nat} {f : Nat} {r : Nat × Nat × Nat} (e : wsp F E s f = some r) : wsp F E s r.1 = some (f, r.2.1, r.2.2) := by
  cases s with
  | none => exact wst_sy (show wst F f = some r from e)
  | some k => exact wsa_sy hE (show wsa E k f = some r from e)
theorem wwk_c {s : Option Nat} {w : List (Option Nat)} {f : Nat} {r t : Nat × Nat × Nat} (h1 : wsp F E s f = some r) (h2 : wwk F E w r.1 = some t) : wwk F E (s :: w) f = some (t.1, r.2.1 + t.2.1, r.2.2 + t.2.2) := by
  have e : wwk F E (s :: w) f = ((wsp F E s f).bind fun r => (wwk F E w r.1).map fun t => (t.1, r.2.1 + t.2.1, r.2.2 + t.2.2)) := rfl
  rw [e, h1, bd_some, h2]
  rfl
theorem wwk_i {s : Option Nat} {w : List (Option Nat)} {f : Nat} {t : Nat × Nat × Nat} (h : wwk F E (s :: w) f = some t) : ∃ r u, wsp F E s f = some r ∧ wwk F E w r.1 = some u ∧ t = (u.1, r.2.1 + u.2.1, r.2.2 + u.2.2) := by
  have e : wwk F E (s :: w) f = ((wsp F E s f).bind fun r => (wwk F E w r.1).map fun t => (t.1, r.2.1 + t.2.1, r.2.2 + t.2.2)) := rfl
  rw [e] at h
  cases e1 : wsp F E s f with
  | none => rw [e1] at h; exact nomatch h
  | some r =>
    rw [e1, bd_some] at h
    cases e2 : wwk F E w r.1 with
    | none => rw [e2] at h; exact nomatch h
    | some u => rw [e2] at h; exact ⟨r, u, rfl, e2, (Option.some.inj h).symm⟩
theorem wwk_sn {s : Option Nat} {r : Nat × Nat × Nat} : ∀ (w : List (Option Nat)) (f : Nat) (u : Nat × Nat × Nat), wwk F E w f = some u → wsp F E s u.1 = some r → wwk F E (w ++ [s]) f = some (r.1, u.2.1 + r.2.1, u.2.2 + r.2.2) := by
  intro w
  induction w with
  | nil =>
    intro f u h hs
    obtain rfl := Option.some.inj (show some (f, 0, 0) = some u from h)
    refine (wwk_c (w := []) hs (show wwk F E [] r.1 = some (r.1, 0, 0) from rfl)).trans ?_
    show some (r.1, r.2.1 + 0, r.2.2 + 0) = some (r.1, 0 + r.2.1, 0 + r.2.2)
    rw [Nat.zero_add, Nat.zero_add]
    rfl
  | cons s0 w ih =>
    intro f u h hs
    obtain ⟨r0, u0, a, b, c⟩ := wwk_i h
    rw [c] at hs ⊢
    refine (wwk_c a (ih r0.1 u0 b hs)).trans ?_
    show some (r.1, r0.2.1 + (u0.2.1 + r.2.1), r0.2.2 + (u0.2.2 + r.2.2)) = some (r.1, r0.2.1 + u0.2.1 + r.2.1, r0.2.2 + u0.2.2 + r.2.2)
    rw [Nat.add_assoc, Nat.add_assoc]
theorem wwk_rv {m : Nat} (hE : ∀ q ∈ E, okS m q) : ∀ (w : List (Option Nat)) (f : Nat) (u : Nat × Nat × Nat), wwk F E w f = some u → ∃ w', wwk F E w' u.1 = some (f, u.2.1, u.2.2) := by
  intro w
  induction w with
  | nil =>
    intro f u h
    obtain rfl := Option.some.inj (show some (f, 0, 0) = some u from h)
    exact ⟨[], rfl⟩
  | cons s w ih =>
    intro f u h
    obtain ⟨r, u0, a, b, c⟩ := wwk_i h
    obtain ⟨w', hw⟩ := ih r.1 u0 b
    refine ⟨w' ++ [s], ?_⟩
    rw [c]
    have hs : wsp F E s r.1 = some (f, r.2.1, r.2.2) := wsp_sy hE a
    refine (wwk_sn (r := (f, r.2.1, r.2.2)) w' u0.1 (r.1, u0.2.1, u0.2.2) hw hs).trans ?_
    show some (f, u0.2.1 + r.2.1, u0.2.2 + r.2.2) = some (f, r.2.1 + u0.2.1, r.2.2 + u0.2.2)
    rw [Nat.add_comm u0.2.1, Nat.add_comm u0.2.2]
/-- as good as -/
def gdd (mx : Int32) (y z : Int64) : Prop := ¬ y < 0 ∧ (mx = 0 → y ≤ z) ∧ (¬ mx = 0 → z ≤ y)
theorem gdd_tr {mx : Int32} {a b c : Int64} (h : gdd mx a b) (g : gdd mx b c) : gdd mx a c := ⟨h.1, fun q => by
  have := nl_le.mp (h.2.1 q)
  have := nl_le.mp (g.2.1 q)
  exact nl_le.mpr (by omega), fun q => by
  have := nl_le.mp (h.2.2 q)
  have := nl_le.mp (g.2.2 q)
  exact nl_le.mpr (by omega)⟩
theorem gdd_rf {mx : Int32} {a : Int64} (h : ¬ a < 0) : gdd mx a a := ⟨h, fun _ => nl_le.mpr (Int.le_refl _), fun _ => nl_le.mpr (Int.le_refl _)⟩
theorem nl_nlx {a b : Int64} (h : ¬ a ≤ b) : b ≤ a := nl_le.mpr (by
  have : ¬ a.toInt ≤ b.toInt := fun q => h (nl_le.mpr q)
  omega)
theorem bt_l {mx : Int32} {x y : Int64} (h : ¬ x < 0) : gdd mx (bt mx x y) x := by
  unfold bt
  rw [if_neg h]
  by_cases hy : y < 0
  · rw [if_pos hy]; exact gdd_rf h
  · rw [if_neg hy]
    by_cases hm : mx = 0
    · rw [if_pos hm]
      by_cases z : y ≤ x
      · rw [if_pos z]; exact ⟨hy, fun _ => z, fun q => absurd hm q⟩
      · rw [if_neg z]; exact gdd_rf h
    · rw [if_neg hm]
      by_cases z : x ≤ y
      · rw [if_pos z]; exact ⟨hy, fun q => absurd q hm, fun _ => z⟩
      · rw [if_neg z]; exact gdd_rf h
theorem bt_r {mx : Int32} {x y : Int64} (h : ¬ y < 0) : gdd mx (bt mx x y) y := by
  unfold bt
  by_cases hx : x < 0
  · rw [if_pos hx]; exact gdd_rf h
  · rw [if_neg hx, if_neg h]
    by_cases hm : mx = 0
    · rw [if_pos hm]
      by_cases z : y ≤ x
      · rw [if_pos z]; exact gdd_rf h
      · rw [if_neg z]; exact ⟨hx, fun _ => nl_nlx z, fun q => absurd hm q⟩
    · rw [if_neg hm]
      by_cases z : x ≤ y
      · rw [if_pos z]; exact gdd_rf h
      · rw [if_neg z]; exact ⟨hx, fun q => absurd q hm, fun _ => nl_nlx z⟩
theorem bs_b {v : Nat → Int64} {mx : Int32} : ∀ d k x, (¬ x < 0 → gdd mx (bs v mx d k x) x) ∧ (∀ j, k ≤ j → j < k + d → ¬ v j < 0 → gdd mx (bs v mx d k x) (v j)) := by
  intro d
  induction d with
  | zero => intro k x; exact ⟨fun h => gdd_rf h, fun j h1 h2 => absurd h2 (by omega)⟩
  | succ d ih =>
    intro k x
    have e : bs v mx (d + 1) k x = bs v mx d (k + 1) (bt mx (v k) x) := rfl
    rw [e]
    obtain ⟨i1, i2⟩ := ih (k + 1) (bt mx (v k) x)
    refine ⟨fun h => ?_, fun j h1 h2 h3 => ?_⟩
    · have g := bt_r (mx := mx) (x := v k) h
      exact gdd_tr (i1 g.1) g
    · by_cases z : j = k
      · rw [z] at h3 ⊢
        have g := bt_l (mx := mx) (y := x) h3
        exact gdd_tr (i1 g.1) g
      · exact i2 j (by omega) (by omega) h3
theorem nb_g {x : Int64} {h : Nat} (hx : nb x h) (hn : ¬ x < 0) : ∃ g, x = o6 g ∧ g ≤ 4655851200 * h := by
  rcases hx with e | e
  · exact absurd (show x < 0 by rw [e]; decide) hn
  · exact e
theorem gdd_ad {mx : Int32} {a g p : Nat} (ha : a < 1000000000000000) (hg : g < 1000000000000000) (hp : p < 1000000000000000) (h : gdd mx (o6 a) (o6 g)) : gdd mx (o6 (a + p)) (o6 (g + p)) := ⟨o6_nn (by omega), fun q => (o6_le (by omega) (by omega)).mpr (by have := (o6_le (by omega) (by omega)).mp (h.2.1 q); omega), fun q => (o6_le (by omega) (by omega)).mpr (by have := (o6_le (by omega) (by omega)).mp (h.2.2 q); omega)⟩
variable {mx : Int32} {tg : Nat}
/-- no way is better -/
theorem GG_bd (hF : ∀ q ∈ F, okF q) (hE : ∀ q ∈ E, okS F.length q) (hm : F.length ≤ 10) : ∀ (w : List (Option Nat)) (h f g : Nat), f < F.length → h ≤ 120 → wwk F E w f = some (tg, h, g) → g ≤ 4655851200 * h ∧ gdd mx (GG F E tg mx h f) (o6 g) := by
  intro w
  induction w with
  | nil =>
    intro h f g hf hh e
    have e := Option.some.inj (show some (f, 0, 0) = some (tg, h, g) from e)
    have e1 : f = tg := congrArg (fun q : Nat × Nat × Nat => q.1) e
    have e2 : 0 = h := congrArg (fun q : Nat × Nat × Nat => q.2.1) e
    have e3 : 0 = g := congrArg (fun q : Nat × Nat × Nat => q.2.2) e
    rw [← e2, ← e3, GG_0, if_pos e1]
    exact ⟨by omega, gdd_rf (by decide)⟩
  | cons s w ih =>
    intro h f g hf hh e
    obtain ⟨r, u, a, b, c⟩ := wwk_i e
    have c1 : tg = u.1 := congrArg (fun q : Nat × Nat × Nat => q.1) c
    have c2 : h = r.2.1 + u.2.1 := congrArg (fun q : Nat × Nat × Nat => q.2.1) c
    have c3 : g = r.2.2 + u.2.2 := congrArg (fun q : Nat × Nat × Nat => q.2.2) c
    have b' : wwk F E w r.1 = some (tg, u.2.1, u.2.2) := by rw [b, c1]
    cases s with
    | none =>
      have a : wst F f = some r := a
      unfold wst at a
      rw [if_pos hf] at a
      obtain rfl := Option.some.inj a
      have c2 : h = 1 + u.2.1 := c2
      have c3 : g = (F.getD f (0, 0)).1 * pz (F.getD f (0, 0)) + u.2.2 := c3
      have hp := pcn_le (hF _ (gd_mem (d := (0, 0)) hf))
      obtain ⟨i1, i2⟩ := ih u.2.1 f u.2.2 hf (by omega) b'
      obtain ⟨G, g1, g2⟩ := nb_g (GG_nb hF hE hm u.2.1 f (by omega) hf) i2.1
      have hpl := hp.2
      refine ⟨by omega, ?_⟩
      rw [g1] at i2
      have hst : stv (GG F E tg mx u.2.1 f) (pc (F.getD f (0, 0))) = o6 (G + (F.getD f (0, 0)).1 * pz (F.getD f (0, 0))) := by
        unfold stv
        rw [g1, if_pos (o6_0le (by omega)), pc_o, o6_add]
      have had := gdd_ad (p := (F.getD f (0, 0)).1 * pz (F.getD f (0, 0))) (by omega) (by omega) (by omega) i2
      rw [show h = u.2.1 + 1 by omega, GG_s hE, c3, Nat.add_comm ((F.getD f (0, 0)).1 * pz (F.getD f (0, 0)))]
      refine gdd_tr ((bs_b E.length 0 _).1 ?_) ?_
      · rw [hst]; exact had.1
      · rw [hst]; exact had
    | some k =>
      have a : wsa E k f = some r := a
      have hk : k < E.length := by
        refine Decidable.byContradiction fun q => ?_
        unfold wsa at a
        rw [if_neg q] at a
        exact nomatch a
      obtain ⟨s1, s2, s3, s4, s5, s6⟩ := hE _ (gd_mem (d := d5) hk)
      have hr : r.2.1 = (E.getD k d5).2.2.1 ∧ r.2.2 = (E.getD k d5).2.2.1 * ((E.getD k d5).2.2.2.1 * pz (E.getD k d5).2.2.2) ∧ oeI (E.getD k d5) f = o3 r.1 ∧ r.1 < F.length := by
        unfold wsa at a
        rw [if_pos hk] at a
        unfold oeI
        by_cases z1 : (E.getD k d5).1 = f
        · rw [if_pos z1] at a
          obtain rfl := Option.some.inj a
          exact ⟨rfl, rfl, if_pos z1, s2⟩
        · rw [if_neg z1] at a
          by_cases z2 : (E.getD k d5).2.1 = f
          · rw [if_pos z2] at a
            obtain rfl := Option.some.inj a
            rw [if_neg z1]
            exact ⟨rfl, rfl, if_pos z2, s1⟩
          · rw [if_neg z2] at a; exact nomatch a
      obtain ⟨r1, r2, r3, r4⟩ := hr
      have hp := (pcn_le s6).2
      have hmul : (E.getD k d5).2.2.1 * ((E.getD k d5).2.2.2.1 * pz (E.getD k d5).2.2.2) ≤ (E.getD k d5).2.2.1 * 4655851200 := Nat.mul_le_mul_left _ hp
      obtain ⟨i1, i2⟩ := ih u.2.1 r.1 u.2.2 r4 (by omega) b'
      obtain ⟨G, g1, g2⟩ := nb_g (GG_nb hF hE hm u.2.1 r.1 (by omega) r4) i2.1
      refine ⟨by rw [c3, c2, r2, r1]; omega, ?_⟩
      rw [g1] at i2
      have hgs : gsv E (GG F E tg mx) h f k = o6 (G + (E.getD k d5).2.2.1 * ((E.getD k d5).2.2.2.1 * pz (E.getD k d5).2.2.2)) := by
        unfold gsv
        rw [r3, if_neg (o3_m1 (by omega)), if_neg (show ¬ h < (E.getD k d5).2.2.1 by omega), o3_nat (by omega), show h - (E.getD k d5).2.2.1 = u.2.1 by omega, g1, if_pos (o6_0le (by omega)), pc_o, o6_mul, o6_add]
      have had := gdd_ad (p := (E.getD k d5).2.2.1 * ((E.getD k d5).2.2.2.1 * pz (E.getD k d5).2.2.2)) (by omega) (by omega) (by omega) i2
      obtain ⟨h', eh⟩ : ∃ h', h = h' + 1 := ⟨h - 1, by omega⟩
      rw [c3, r2, Nat.add_comm ((E.getD k d5).2.2.1 * ((E.getD k d5).2.2.2.1 * pz (E.getD k d5).2.2.2))]
      have key : gdd mx (GG F E tg mx h f) (gsv E (GG F E tg mx) h f k) := by
        rw [eh, GG_s hE]
        exact (bs_b E.length 0 _).2 k (Nat.zero_le _) (by omega) (by rw [← eh, hgs]; exact had.1)
      rw [hgs] at key
      exact gdd_tr key had
/-- and one is as good -/
theorem GG_ex (hF : ∀ q ∈ F, okF q) (hE : ∀ q ∈ E, okS F.length q) (hm : F.length ≤ 10) : ∀ (h f : Nat), f < F.length → h ≤ 120 → ¬ GG F E tg mx h f < 0 → ∃ w g, GG F E tg mx h f = o6 g ∧ g ≤ 4655851200 * h ∧ wwk F E w f = some (tg, h, g) := by
  intro h
  induction h using Nat.strongRecOn with
  | _ h ih =>
    intro f hf hh hn
    cases h with
    | zero =>
      rw [GG_0] at hn ⊢
      by_cases z : f = tg
      · rw [if_pos z]; exact ⟨[], 0, rfl, by omega, by rw [z]; rfl⟩
      · rw [if_neg z] at hn; exact absurd (by decide) hn
    | succ h =>
      rw [GG_s hE] at hn ⊢
      rcases bs_mem (v := gsv E (GG F E tg mx) (h + 1) f) (mx := mx) E.length 0 (stv (GG F E tg mx h f) (pc (F.getD f (0, 0)))) with e | ⟨j, j1, j2, e⟩
      · rw [e] at hn ⊢
        have hg : ¬ GG F E tg mx h f < 0 := fun q => hn (by
          unfold stv
          rw [if_neg (fun z => by rw [nl_lt] at q; rw [nl_le] at z; omega)]
          decide)
        obtain ⟨w, g, w1, w2, w3⟩ := ih h (by omega) f hf (by omega) hg
        have hp := (pcn_le (hF _ (gd_mem (d := (0, 0)) hf))).2
        refine ⟨none :: w, g + (F.getD f (0, 0)).1 * pz (F.getD f (0, 0)), ?_, by omega, ?_⟩
        · unfold stv
          rw [w1, if_pos (o6_0le (by omega)), pc_o, o6_add]
        · have hs : wsp F E none f = some (f, 1, (F.getD f (0, 0)).1 * pz (F.getD f (0, 0))) := by
            show wst F f = _
            unfold wst
            rw [if_pos hf]
          refine (wwk_c hs w3).trans ?_
          show some (tg, 1 + h, (F.getD f (0, 0)).1 * pz (F.getD f (0, 0)) + g) = _
          rw [Nat.add_comm 1, Nat.add_comm _ g]
      · have hj : j < E.length := by omega
        rw [e] at hn ⊢
        obtain ⟨s1, s2, s3, s4, s5, s6⟩ := hE _ (gd_mem (d := d5) hj)
        have hp := (pcn_le s6).2
        have hmul : (E.getD j d5).2.2.1 * ((E.getD j d5).2.2.2.1 * pz (E.getD j d5).2.2.2) ≤ (E.getD j d5).2.2.1 * 4655851200 := Nat.mul_le_mul_left _ hp
        unfold gsv at hn ⊢
        rcases oe_or (a := f) (hE _ (gd_mem (d := d5) hj)) hm with ⟨o, o1, o2, o4⟩ | ⟨o2, _⟩
        · rw [o2, if_neg (o3_m1 (by omega)), o3_nat (by omega)] at hn ⊢
          by_cases h2 : h + 1 < (E.getD j d5).2.2.1
          · rw [if_pos h2] at hn; exact absurd (by decide) hn
          · rw [if_neg h2] at hn ⊢
            by_cases h3 : (0 : Int64) ≤ GG F E tg mx (h + 1 - (E.getD j d5).2.2.1) o
            · obtain ⟨w, g, w1, w2, w3⟩ := ih (h + 1 - (E.getD j d5).2.2.1) (by omega) o o1 (by omega) (fun q => by rw [nl_lt] at q; rw [nl_le] at h3; omega)
              rw [if_pos h3]
              have hd : 4655851200 * (h + 1 - (E.getD j d5).2.2.1) + 4655851200 * (E.getD j d5).2.2.1 = 4655851200 * (h + 1) := by rw [← Nat.mul_add]; congr 1; omega
              refine ⟨some j :: w, g + (E.getD j d5).2.2.1 * ((E.getD j d5).2.2.2.1 * pz (E.getD j d5).2.2.2), ?_, by omega, ?_⟩
              · rw [w1, pc_o, o6_mul, o6_add]
              · have hs : wsp F E (some j) f = some (o, (E.getD j d5).2.2.1, (E.getD j d5).2.2.1 * ((E.getD j d5).2.2.2.1 * pz (E.getD j d5).2.2.2)) := by
                  show wsa E j f = _
                  unfold wsa
                  rw [if_pos hj]
                  rcases o4 with ⟨q1, q2⟩ | ⟨q1, q2, q3⟩
                  · rw [if_pos q1, q2]
                  · rw [if_neg q1, if_pos q2, q3]
                refine (wwk_c hs w3).trans ?_
                show some (tg, (E.getD j d5).2.2.1 + (h + 1 - (E.getD j d5).2.2.1), (E.getD j d5).2.2.1 * ((E.getD j d5).2.2.2.1 * pz (E.getD j d5).2.2.2) + g) = _
                rw [show (E.getD j d5).2.2.1 + (h + 1 - (E.getD j d5).2.2.1) = h + 1 by omega, Nat.add_comm _ g]
            · rw [if_neg h3] at hn; exact absurd (by decide) hn
        · rw [o2, if_pos rfl] at hn; exact absurd (by decide) hn
theorem GG_sy (hF : ∀ q ∈ F, okF q) (hE : ∀ q ∈ E, okS F.length q) (hm : F.length ≤ 10) {n a b : Nat} (hn : n ≤ 120) (ha : a < F.length) (hb : b < F.length) : GG F E a mx n b = GG F E b mx n a := by
  have rev : ∀ c d, c < F.length → d < F.length → ¬ GG F E c mx n d < 0 → ∃ g, GG F E c mx n d = o6 g ∧ g ≤ 4655851200 * n ∧ gdd mx (GG F E d mx n c) (o6 g) := fun c d hc hd h => by
    obtain ⟨w, g, w1, w2, w3⟩ := GG_ex hF hE hm n d hd hn h
    obtain ⟨w', hw⟩ := wwk_rv hE w d _ w3
    exact ⟨g, w1, w2, (GG_bd hF hE hm w' n c g hc hn hw).2⟩
  by_cases h1 : GG F E a mx n b < 0
  · by_cases h2 : GG F E b mx n a < 0
    · rcases GG_nb (tg := a) (mx := mx) hF hE hm n b hn hb with e | ⟨g, e, eg⟩
      · rcases GG_nb (tg := b) (mx := mx) hF hE hm n a hn ha with e' | ⟨g', e', eg'⟩
        · rw [e, e']
        · rw [e'] at h2; exact absurd h2 (o6_nn (by omega))
      · rw [e] at h1; exact absurd h1 (o6_nn (by omega))
    · obtain ⟨g, _, _, g3⟩ := rev b a hb ha h2
      exact absurd h1 g3.1
  · obtain ⟨g, g1, g2, g3⟩ := rev a b ha hb h1
    obtain ⟨g', k1, k2, k3⟩ := rev b a hb ha g3.1
    rw [k1] at g3
    rw [g1] at k3
    rw [g1, k1]
    congr 1
    by_cases z : mx = 0
    · have p1 := (o6_le (by omega) (by omega)).mp (g3.2.1 z)
      have p2 := (o6_le (by omega) (by omega)).mp (k3.2.1 z)
      omega
    · have p1 := (o6_le (by omega) (by omega)).mp (g3.2.2 z)
      have p2 := (o6_le (by omega) (by omega)).mp (k3.2.2 z)
      omega
theorem GG_st (hF : ∀ q ∈ F, okF q) (hE : ∀ q ∈ E, okS F.length q) (hm : F.length ≤ 10) {f : Nat} (hf : f < F.length) : ∀ n, n ≤ 120 → ¬ GG F E f mx n f < 0 := by
  intro n
  induction n with
  | zero => intro _; rw [GG_0, if_pos rfl]; decide
  | succ n ih =>
    intro hn
    obtain ⟨G, g1, g2⟩ := nb_g (GG_nb hF hE hm n f (by omega) hf) (ih (by omega))
    have hp := (pcn_le (hF _ (gd_mem (d := (0, 0)) hf))).2
    rw [GG_s hE]
    refine ((bs_b E.length 0 _).1 ?_).1
    unfold stv
    rw [g1, if_pos (o6_0le (by omega)), pc_o, o6_add]
    exact o6_nn (by omega)
end WR
theorem bm_cg {v w : Nat → Int64} {mx : Int32} : ∀ d k i y, (∀ j, k ≤ j → j < k + d → v j = w j) → bm v mx d k i y = bm w mx d k i y := by
  intro d
  induction d with
  | zero => intro k i y _; rfl
  | succ d ih =>
    intro k i y h
    have e : ∀ u : Nat → Int64, bm u mx (d + 1) k i y = if tk1 mx (u k) y = true then bm u mx d (k + 1) (o3 k) (u k) else bm u mx d (k + 1) i y := fun _ => rfl
    rw [e v, e w, h k (Nat.le_refl _) (by omega), ih (k + 1) _ _ (fun j h1 h2 => h j (by omega) (by omega)), ih (k + 1) _ _ (fun j h1 h2 => h j (by omega) (by omega))]
theorem t_21e (a1 a2 a3 : Int32) (S : fS) (hR : Rel S) : ∃ r S1 S2, f_X10_waiting a1 a2 a3 S = some (r, S1) ∧ f_X11_waiting a1 a2 a3 S1 = some (r, S2) ∧ Rel S2 := by
  obtain ⟨r, r', S1, S2, h1, h2, h3, h4⟩ := t_21 a1 a2 a3 S hR
  have e : r = r' := by
    rcases h4 with h4 | ⟨F, E, n, f, hF, hE, hm, hl, hn, hf, e1, e2⟩
    · exact h4
    · rw [e1, e2, bm_cg (w := fun g => GG F E f a3 n g) F.length 0 _ _ (fun j _ hj => GG_sy hF hE hm hn (by omega) hf)]
      have hst := GG_st (mx := a3) hF hE hm hf n hn
      obtain ⟨d, hd⟩ : ∃ d, F.length = d + 1 := ⟨F.length - 1, by omega⟩
      rw [hd, Nat.add_sub_cancel]
      have key : ∀ v : Nat → Int64, ¬ v f < 0 → o3 (bc v a3 d 1 0) = bm v a3 (d + 1) 0 (-1) (-1) := fun v hv => by
        have eb : bm v a3 (d + 1) 0 (-1) (-1) = if tk1 a3 (v 0) (-1) = true then bm v a3 d 1 (o3 0) (v 0) else bm v a3 d 1 (-1) (-1) := rfl
        rw [eb]
        by_cases z : tk1 a3 (v 0) (-1) = true
        · rw [if_pos z]; exact (bm_bc d 1 0).symm
        · rw [if_neg z]
          have h0 : v 0 < 0 := by
            refine Decidable.byContradiction fun q => z ?_
            unfold tk1
            rw [decide_eq_true_eq]
            exact ⟨q, Or.inl (by decide)⟩
          have hf0 : f ≠ 0 := fun q => hv (by rw [q]; exact h0)
          exact (bm_eq d 1 ⟨f, by omega, by omega, hv⟩ 0 h0).symm
      exact key _ hst
  rw [← e] at h2
  exact ⟨r, S1, S2, h1, h2, h3⟩
end
