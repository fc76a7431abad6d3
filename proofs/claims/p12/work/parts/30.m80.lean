section
/-! needed() -/
/-- a set of floors, spread along one stair; along all but one; so many rounds -/
def nst (q : St5) (s : Nat → Bool) : Nat → Bool := if s q.1 = true ∨ s q.2.1 = true then fun j => s j || decide (j = q.1) || decide (j = q.2.1) else s
def nro (E : List St5) (v : Nat) : Nat → Nat → (Nat → Bool) → (Nat → Bool)
  | 0, _, s => s
  | d + 1, k, s => nro E v d (k + 1) (if k = v then s else nst (E.getD k d5) s)
def nit (E : List St5) (v : Nat) : Nat → (Nat → Bool) → (Nat → Bool)
  | 0, s => s
  | r + 1, s => nit E v r (nro E v E.length 0 s)
theorem nst_le {q : St5} {s : Nat → Bool} {j : Nat} (h : s j = true) : nst q s j = true := by
  unfold nst
  split
  · show (s j || decide (j = q.1) || decide (j = q.2.1)) = true
    rw [h]; rfl
  · exact h
theorem nst_in {m : Nat} {q : St5} {s : Nat → Bool} (hq : okS m q) (hs : ∀ j, s j = true → j < m) : ∀ j, nst q s j = true → j < m := by
  intro j h
  unfold nst at h
  split at h
  · replace h : (s j || decide (j = q.1) || decide (j = q.2.1)) = true := h
    rw [Bool.or_eq_true, Bool.or_eq_true, decide_eq_true_eq, decide_eq_true_eq] at h
    rcases h with (h | h) | h
    · exact hs j h
    · rw [h]; exact hq.1
    · rw [h]; exact hq.2.1
  · exact hs j h
section NE
variable {E : List St5} {v m : Nat}
theorem nro_le : ∀ d k (s : Nat → Bool) j, s j = true → nro E v d k s j = true := by
  intro d
  induction d with
  | zero => intro k s j h; exact h
  | succ d ih =>
    intro k s j h
    refine ih (k + 1) _ j ?_
    split
    · exact h
    · exact nst_le h
theorem nro_in (hE : ∀ q ∈ E, okS m q) : ∀ d k (s : Nat → Bool), k + d ≤ E.length → (∀ j, s j = true → j < m) → ∀ j, nro E v d k s j = true → j < m := by
  intro d
  induction d with
  | zero => intro k s _ h; exact h
  | succ d ih =>
    intro k s hk h
    refine ih (k + 1) _ (by omega) ?_
    split
    · exact h
    · exact nst_in (hE _ (gd_mem (by omega))) h
/-- how many of the first ones are in -/
def ct (s : Nat → Bool) : Nat → Nat
  | 0 => 0
  | k + 1 => ct s k + (if s k = true then 1 else 0)
theorem ct_le {s : Nat → Bool} : ∀ k, ct s k ≤ k := by
  intro k
  induction k with
  | zero => exact Nat.le_refl 0
  | succ k ih =>
    show ct s k + (if s k = true then 1 else 0) ≤ k + 1
    split <;> omega
theorem ct_mo {s t : Nat → Bool} (h : ∀ j, s j = true → t j = true) : ∀ k, ct s k ≤ ct t k := by
  intro k
  induction k with
  | zero => exact Nat.le_refl 0
  | succ k ih =>
    show ct s k + (if s k = true then 1 else 0) ≤ ct t k + (if t k = true then 1 else 0)
    by_cases z : s k = true
    · rw [if_pos z, if_pos (h k z)]; omega
    · rw [if_neg z]; split <;> omega
theorem ct_st {s t : Nat → Bool} (h : ∀ j, s j = true → t j = true) : ∀ k, ct t k ≤ ct s k → ∀ j, j < k → t j = true → s j = true := by
  intro k
  induction k with
  | zero => intro _ j hj; omega
  | succ k ih =>
    intro hc j hj ht
    have hc : ct t k + (if t k = true then 1 else 0) ≤ ct s k + (if s k = true then 1 else 0) := hc
    have hm := ct_mo h k
    by_cases z : s k = true
    · rw [if_pos z, if_pos (h k z)] at hc
      by_cases e : j = k
      · rw [e]; exact z
      · exact ih (by omega) j (by omega) ht
    · rw [if_neg z] at hc
      by_cases e : j = k
      · subst e
        rw [if_pos ht] at hc
        omega
      · exact ih (by omega) j (by omega) ht
theorem nit_fx {s : Nat → Bool} (h : nro E v E.length 0 s = s) : ∀ r, nit E v r s = s := by
  intro r
  induction r with
  | zero => rfl
  | succ r ih => show nit E v r (nro E v E.length 0 s) = s; rw [h]; exact ih
theorem nit_ad : ∀ a b (s : Nat → Bool), nit E v (a + b) s = nit E v b (nit E v a s) := by
  intro a
  induction a with
  | zero => intro b s; rw [Nat.zero_add]; rfl
  | succ a ih => intro b s; rw [show a + 1 + b = (a + b) + 1 by omega]; exact ih b _
theorem nit_cl (hE : ∀ q ∈ E, okS m q) : ∀ r (s : Nat → Bool), (∀ j, s j = true → j < m) → m ≤ ct s m + r → nro E v E.length 0 (nit E v r s) = nit E v r s := by
  intro r
  have one : ∀ (s : Nat → Bool), (∀ j, s j = true → j < m) → ct (nro E v E.length 0 s) m ≤ ct s m → nro E v E.length 0 s = s := fun s hs hc => by
    refine funext fun j => ?_
    have h1 := nro_le (E := E) (v := v) E.length 0 s j
    have h2 : nro E v E.length 0 s j = true → s j = true := fun q => ct_st (fun j => nro_le (E := E) (v := v) E.length 0 s j) m hc j (nro_in hE E.length 0 s (by omega) hs j q) q
    cases e : s j with
    | true => exact h1 e
    | false =>
      cases e2 : nro E v E.length 0 s j with
      | true => rw [h2 e2] at e; exact e
      | false => rfl
  induction r with
  | zero =>
    intro s hs hc
    exact one s hs (by have := ct_le (s := nro E v E.length 0 s) m; omega)
  | succ r ih =>
    intro s hs hc
    show nro E v E.length 0 (nit E v r (nro E v E.length 0 s)) = nit E v r (nro E v E.length 0 s)
    by_cases z : ct (nro E v E.length 0 s) m ≤ ct s m
    · have := one s hs z
      rw [this, nit_fx this, this]
    · exact ih _ (nro_in hE E.length 0 s (by omega) hs) (by omega)
theorem nit_10 (hE : ∀ q ∈ E, okS m q) (hm : m ≤ 10) {s : Nat → Bool} (hs : ∀ j, s j = true → j < m) : nit E v 10 s = nit E v m s := by
  rw [show (10 : Nat) = m + (10 - m) by omega, nit_ad, nit_fx (nit_cl hE m s hs (by omega))]
/-- bits -/
def bi (x : Int32) (s : Nat → Bool) : Prop := ∀ j, j < 10 → x.toBitVec.getLsbD j = s j
theorem sh_tp : ∀ a, a < 10 → ((1 : Int32) <<< (o3 a &&& 31)).toBitVec = BitVec.twoPow 32 a := by decide
theorem tp_g {a j : Nat} (ha : a < 10) : (BitVec.twoPow 32 a).getLsbD j = decide (j = a) := by
  rw [BitVec.getLsbD_twoPow, decide_eq_true (show a < 32 by omega), Bool.true_and]
  by_cases h : a = j
  · rw [decide_eq_true h, decide_eq_true h.symm]
  · rw [decide_eq_false h, decide_eq_false (fun q => h q.symm)]
theorem bi_or {x : Int32} {s : Nat → Bool} {a b : Nat} (ha : a < 10) (hb : b < 10) (h : bi x s) : bi (x ||| (((1 : Int32) <<< (o3 a &&& 31)) ||| ((1 : Int32) <<< (o3 b &&& 31)))) (fun j => s j || decide (j = a) || decide (j = b)) := by
  intro j hj
  rw [Int32.toBitVec_or, Int32.toBitVec_or, sh_tp a ha, sh_tp b hb, BitVec.getLsbD_or, BitVec.getLsbD_or, tp_g ha, tp_g hb, h j hj]; exact (Bool.or_assoc _ _ _).symm
theorem bi_and {x y : Int32} {s : Nat → Bool} (h : bi x s) (hy : ∀ j, y.toBitVec.getLsbD j = true → j < 10) : x &&& y = 0 ↔ ∀ j, y.toBitVec.getLsbD j = true → s j = false := by
  rw [← Int32.toBitVec_inj, Int32.toBitVec_and]
  constructor
  · intro q j hj
    have := congrArg (fun z => BitVec.getLsbD z j) q
    replace this : (x.toBitVec &&& y.toBitVec).getLsbD j = (0#32).getLsbD j := this
    rw [BitVec.getLsbD_and, hj, Bool.and_true, BitVec.getLsbD_zero, h j (hy j hj)] at this
    exact this
  · intro q
    refine BitVec.eq_of_getLsbD_eq fun j hj => ?_
    show (x.toBitVec &&& y.toBitVec).getLsbD j = (0#32).getLsbD j
    rw [BitVec.getLsbD_and, BitVec.getLsbD_zero]
    cases e : y.toBitVec.getLsbD j with
    | false => rw [Bool.and_false]
    | true => rw [Bool.and_true, h j (hy j e), q j e]
theorem bi_2 {x : Int32} {s : Nat → Bool} {a b : Nat} (ha : a < 10) (hb : b < 10) (h : bi x s) : x &&& (((1 : Int32) <<< (o3 a &&& 31)) ||| ((1 : Int32) <<< (o3 b &&& 31))) = 0 ↔ ¬ (s a = true ∨ s b = true) := by
  have e : ∀ j, (((1 : Int32) <<< (o3 a &&& 31)) ||| ((1 : Int32) <<< (o3 b &&& 31))).toBitVec.getLsbD j = (decide (j = a) || decide (j = b)) := fun j => by rw [Int32.toBitVec_or, sh_tp a ha, sh_tp b hb, BitVec.getLsbD_or, tp_g ha, tp_g hb]
  rw [bi_and h (fun j q => by
    rw [e, Bool.or_eq_true, decide_eq_true_eq, decide_eq_true_eq] at q
    omega)]
  constructor
  · intro q w
    rcases w with w | w
    · rw [q a (by rw [e, decide_eq_true rfl]; rfl)] at w; exact nomatch w
    · rw [q b (by rw [e, decide_eq_true (show b = b from rfl), Bool.or_true])] at w; exact nomatch w
  · intro q j hj
    rw [e, Bool.or_eq_true, decide_eq_true_eq, decide_eq_true_eq] at hj
    cases w : s j with
    | false => rfl
    | true => exact absurd (hj.imp (fun z => z ▸ w) (fun z => z ▸ w)) q
theorem bi_1 {x : Int32} {s : Nat → Bool} {a : Nat} (ha : a < 10) (h : bi x s) : x &&& ((1 : Int32) <<< (o3 a &&& 31)) = 0 ↔ ¬ s a = true := by
  have e : ∀ j, ((1 : Int32) <<< (o3 a &&& 31)).toBitVec.getLsbD j = decide (j = a) := fun j => by rw [sh_tp a ha, tp_g ha]
  rw [bi_and h (fun j q => by
    rw [e, decide_eq_true_eq] at q
    omega)]
  constructor
  · intro q w
    rw [q a (by rw [e, decide_eq_true rfl])] at w; exact nomatch w
  · intro q j hj
    rw [e, decide_eq_true_eq] at hj
    cases w : s j with
    | false => rfl
    | true => exact absurd (hj ▸ w) q
theorem bi_s {a : Nat} (ha : a < 10) : bi ((1 : Int32) <<< (o3 a &&& 31)) (fun j => decide (j = a)) := fun j _ => by rw [sh_tp a ha, tp_g ha]
variable {F : List (Nat × Nat)}
theorem cn_22 {S : fS} {p3 : Int32} (b1 : twC S 4 F E) (hE : ∀ q ∈ E, okS F.length q) (hm : F.length ≤ 10) (hl : E.length ≤ 12) (hv : v < E.length) {K : Int32 → Option Int32} : ∀ d k nn x s, k + d = E.length → d < nn → bi x s → ∃ y, bi y (nro E v d k s) ∧ lp_X8_isWayAround_22 4 (o3 v) p3 S K nn x (o3 k) = K y := by
  intro d
  induction d with
  | zero =>
    intro k nn x s hk hnn h
    obtain ⟨nn, rfl⟩ : ∃ z, nn = z + 1 := ⟨nn - 1, by omega⟩
    refine ⟨x, h, ?_⟩
    rw [lp_X8_isWayAround_22.eq_2, b1.2.1, if_pos ((o3_le (by omega) (by omega)).mpr (by omega))]
  | succ d ih =>
    intro k nn x s hk hnn h
    obtain ⟨nn, rfl⟩ : ∃ z, nn = z + 1 := ⟨nn - 1, by omega⟩
    have hq := hE _ (gd_mem (d := d5) (show k < E.length by omega))
    have h1 := hq.1
    have h2 := hq.2.1
    obtain ⟨z1, z2, _, _⟩ := b1.2.2.2 k (by omega)
    rw [lp_X8_isWayAround_22.eq_2, b1.2.1, if_neg (fun q => by have := (o3_le (by omega) (by omega)).mp q; omega), gI_o (by omega) (by omega), bd_some, z1, gI_o (by omega) (by omega), bd_some, z2, o3_s]
    have hn : nro E v (d + 1) k s = nro E v d (k + 1) (if k = v then s else nst (E.getD k d5) s) := rfl
    rw [hn]
    by_cases e : k = v
    · rw [if_pos ((o3_inj (by omega) (by omega)).mpr e), if_pos e]
      exact ih (k + 1) nn x s (by omega) (by omega) h
    · rw [if_neg (fun q => e ((o3_inj (by omega) (by omega)).mp q)), if_neg e]
      unfold nst
      by_cases w : s (E.getD k d5).1 = true ∨ s (E.getD k d5).2.1 = true
      · rw [if_neg (fun q => (bi_2 (by omega) (by omega) h).mp q w), if_pos w]
        exact ih (k + 1) nn _ _ (by omega) (by omega) (bi_or (by omega) (by omega) h)
      · rw [if_pos ((bi_2 (by omega) (by omega) h).mpr w), if_neg w]
        exact ih (k + 1) nn x s (by omega) (by omega) h
theorem cn_11 {S : fS} (b1 : twC S 4 F E) (hE : ∀ q ∈ E, okS F.length q) (hm : F.length ≤ 10) (hl : E.length ≤ 12) (hv : v < E.length) {K : Int32 → Option Int32} : ∀ d k nn x s, k + d = F.length → d < nn → bi x s → ∃ y, bi y (nit E v d s) ∧ lp_X8_isWayAround_11 4 (o3 v) S K nn x (o3 k) = K y := by
  intro d
  induction d with
  | zero =>
    intro k nn x s hk hnn h
    obtain ⟨nn, rfl⟩ : ∃ z, nn = z + 1 := ⟨nn - 1, by omega⟩
    refine ⟨x, h, ?_⟩
    rw [lp_X8_isWayAround_11.eq_2, b1.1, if_pos ((o3_le (by omega) (by omega)).mpr (by omega))]
  | succ d ih =>
    intro k nn x s hk hnn h
    obtain ⟨nn, rfl⟩ : ∃ z, nn = z + 1 := ⟨nn - 1, by omega⟩
    rw [lp_X8_isWayAround_11.eq_2, b1.1, if_neg (fun q => by have := (o3_le (by omega) (by omega)).mp q; omega)]
    obtain ⟨y, y1, y2⟩ := cn_22 (p3 := o3 k) b1 hE hm hl hv (K := fun u14 => lp_X8_isWayAround_11 4 (o3 v) S K nn u14 (o3 k + (1 : Int32))) E.length 0 FU x s (by omega) (FU_lt (by omega)) h
    obtain ⟨y', w1, w2⟩ := ih (k + 1) nn y _ (by omega) (by omega) y1
    refine ⟨y', w1, y2.trans ?_⟩
    rw [o3_s]
    exact w2
/-- is there a way around? -/
def wA (F : List (Nat × Nat)) (E : List St5) (v : Nat) : Int32 := if nit E v F.length (fun j => decide (j = (E.getD v d5).1)) (E.getD v d5).2.1 = true then 1 else 0
theorem c_wa {S : fS} (b1 : twC S 4 F E) (hE : ∀ q ∈ E, okS F.length q) (hm : F.length ≤ 10) (hl : E.length ≤ 12) (hv : v < E.length) : f_X8_isWayAround 4 (o3 v) S = some (wA F E v) := by
  have hq := hE _ (gd_mem (d := d5) hv)
  have h1 := hq.1
  have h2 := hq.2.1
  obtain ⟨z1, z2, _, _⟩ := b1.2.2.2 v hv
  unfold f_X8_isWayAround wA
  rw [gI_o (by omega) (by omega), bd_some, z1]
  obtain ⟨y, y1, y2⟩ := cn_11 b1 hE hm hl hv (K := fun u16 => (gI S (4 + 3) 12 (o3 v)).bind fun a18 => if (u16 &&& ((1 : Int32) <<< (a18 &&& 31))) = (0 : Int32) then (some (0 : Int32)) else (some (1 : Int32))) F.length 0 FU _ _ (by omega) (FU_lt (by omega)) (bi_s (a := (E.getD v d5).1) (by omega))
  refine y2.trans ?_
  show (gI S (4 + 3) 12 (o3 v)).bind _ = _
  rw [gI_o (by omega) (by omega), bd_some, z2]
  by_cases w : nit E v F.length (fun j => decide (j = (E.getD v d5).1)) (E.getD v d5).2.1 = true
  · rw [if_neg (fun q => (bi_1 (by omega) y1).mp q w), if_pos w]
  · rw [if_pos ((bi_1 (by omega) y1).mpr w), if_neg w]
/-- the reference's row of booleans -/
def bo (S : fS) (s : Nat → Bool) : Prop := ∀ j, j < 10 → S.1 163 j = if s j = true then 1 else 0
def e163 (S T : fS) : Prop := T.2 = S.2 ∧ ∀ a k, a ≠ 163 → T.1 a k = S.1 a k
theorem e163.rf {S : fS} : e163 S S := ⟨rfl, fun _ _ _ => rfl⟩
theorem e163.tr {S T U : fS} (h : e163 S T) (g : e163 T U) : e163 S U := ⟨g.1.trans h.1, fun a k n => (g.2 a k n).trans (h.2 a k n)⟩
theorem e163_p {S : fS} {k : Nat} {x : Int32} : e163 S (pI S 163 k x) := ⟨rfl, fun a j h => pI_ne (by omega)⟩
theorem twM_163 {S T : fS} (m1 : twM (S.1 157) F E) (h : e163 S T) : twM (T.1 157) F E := by
  rw [show T.1 157 = S.1 157 from funext fun k => h.2 157 k (by omega)]; exact m1
theorem bo_p {S : fS} {s : Nat → Bool} {a b : Nat} (h : bo S s) : bo (pI (pI S 163 a 1) 163 b 1) (fun j => s j || decide (j = a) || decide (j = b)) := by
  intro j hj
  show _ = if (s j || decide (j = a) || decide (j = b)) = true then (1 : Int32) else 0
  by_cases e : j = b
  · rw [e, pI_eq, decide_eq_true (show b = b from rfl), Bool.or_true, if_pos rfl]
  · rw [pI_ne (by omega), decide_eq_false e, Bool.or_false]
    by_cases e : j = a
    · rw [e, pI_eq, decide_eq_true (show a = a from rfl), Bool.or_true, if_pos rfl]
    · rw [pI_ne (by omega), decide_eq_false e, Bool.or_false]
      exact h j hj
theorem nar1 : vp_nar .boolean (1 : Int32) = 1 := by decide
theorem nar0 : vp_nar .boolean (0 : Int32) = 0 := by decide
theorem mn_45 {p2 : Int32} (hE : ∀ q ∈ E, okS F.length q) (hm : F.length ≤ 10) (hl : E.length ≤ 12) (hv : v < E.length) {K : fS → Option (Int32 × fS)} : ∀ d k nn (S : fS) s, k + d = E.length → d < nn → twM (S.1 157) F E → bo S s → ∃ T, lp_X11_isSpare_45 (o3 v) p2 K nn (o3 k) S = K T ∧ bo T (nro E v d k s) ∧ e163 S T := by
  intro d
  induction d with
  | zero =>
    intro k nn S s hk hnn m1 h
    obtain ⟨nn, rfl⟩ : ∃ z, nn = z + 1 := ⟨nn - 1, by omega⟩
    refine ⟨S, ?_, h, e163.rf⟩
    rw [lp_X11_isSpare_45.eq_2, show gI S 157 158 1 = some (o3 E.length) from (gI_o (k := 1) (by omega) (by omega)).trans (congrArg some m1.2.1), bd_some, if_pos ((o3_le (by omega) (by omega)).mpr (by omega))]
  | succ d ih =>
    intro k nn S s hk hnn m1 h
    obtain ⟨nn, rfl⟩ : ∃ z, nn = z + 1 := ⟨nn - 1, by omega⟩
    have hq := hE _ (gd_mem (d := d5) (show k < E.length by omega))
    have h1 := hq.1
    have h2 := hq.2.1
    have h1' : (E.getD k d5).1 < 10 := by omega
    have h2' : (E.getD k d5).2.1 < 10 := by omega
    have z1 : ∀ T : fS, e163 S T → f_X11_stairOf (o3 k) 0 T = some (o3 (E.getD k d5).1) := fun T hT => (m_stairOf (k := 0) (by omega) (by omega)).trans (congrArg some ((twM_163 m1 hT).2.2.2 k (by omega)).1)
    have z2 : ∀ T : fS, e163 S T → f_X11_stairOf (o3 k) 1 T = some (o3 (E.getD k d5).2.1) := fun T hT => (m_stairOf (k := 1) (by omega) (by omega)).trans (congrArg some ((twM_163 m1 hT).2.2.2 k (by omega)).2.1)
    rw [lp_X11_isSpare_45.eq_2, show gI S 157 158 1 = some (o3 E.length) from (gI_o (k := 1) (by omega) (by omega)).trans (congrArg some m1.2.1), bd_some, if_neg (fun q => by have := (o3_le (by omega) (by omega)).mp q; omega), o3_s]
    have hn : nro E v (d + 1) k s = nro E v d (k + 1) (if k = v then s else nst (E.getD k d5) s) := rfl
    rw [hn]
    by_cases e : k = v
    · rw [if_pos ((o3_inj (by omega) (by omega)).mpr e), if_pos e]
      exact ih (k + 1) nn S s (by omega) (by omega) m1 h
    · rw [if_neg (fun q => e ((o3_inj (by omega) (by omega)).mp q)), if_neg e, z1 S e163.rf, bd_some, gI_o h1' (by omega), bd_some, h _ h1', z2 S e163.rf, bd_some, gI_o h2' (by omega), bd_some, h _ h2', bd_some, nar1, sI_o h1' (by omega), bd_some, z2 _ e163_p, bd_some, sI_o h2' (by omega), bd_some]
      obtain ⟨T, t1, t2, t3⟩ := ih (k + 1) nn _ _ (by omega) (by omega) (twM_163 m1 (e163_p.tr e163_p)) (bo_p (a := (E.getD k d5).1) (b := (E.getD k d5).2.1) h)
      have e13 := (e163_p.tr e163_p).tr t3
      unfold nst
      by_cases w1 : s (E.getD k d5).1 = true
      · rw [if_pos w1, if_neg (show ¬ (1 : Int32) = 0 by decide), if_pos (Or.inl w1)]
        exact ⟨T, t1, t2, e13⟩
      · rw [if_neg w1, if_pos rfl]
        by_cases w2 : s (E.getD k d5).2.1 = true
        · rw [if_pos w2, if_neg (show ¬ (1 : Int32) = 0 by decide), if_pos (Or.inr w2)]
          exact ⟨T, t1, t2, e13⟩
        · rw [if_neg w2, if_pos rfl, if_neg (fun q => q.elim w1 w2)]
          exact ih (k + 1) nn S s (by omega) (by omega) m1 h
theorem mn_37 (hE : ∀ q ∈ E, okS F.length q) (hm : F.length ≤ 10) (hl : E.length ≤ 12) (hv : v < E.length) {K : fS → Option (Int32 × fS)} : ∀ d k nn (S : fS) s, k + d = 10 → d < nn → twM (S.1 157) F E → bo S s → ∃ T, lp_X11_isSpare_37 (o3 v) K nn (o3 k) S = K T ∧ bo T (nit E v d s) ∧ e163 S T := by
  intro d
  induction d with
  | zero =>
    intro k nn S s hk hnn m1 h
    obtain ⟨nn, rfl⟩ : ∃ z, nn = z + 1 := ⟨nn - 1, by omega⟩
    refine ⟨S, ?_, h, e163.rf⟩
    rw [lp_X11_isSpare_37.eq_2, if_pos (show (10 : Int32) ≤ o3 k from (o3_le (a := 10) (by omega) (by omega)).mpr (by omega))]
  | succ d ih =>
    intro k nn S s hk hnn m1 h
    obtain ⟨nn, rfl⟩ : ∃ z, nn = z + 1 := ⟨nn - 1, by omega⟩
    rw [lp_X11_isSpare_37.eq_2, if_neg (show ¬ (10 : Int32) ≤ o3 k from fun q => by have := (o3_le (a := 10) (by omega) (by omega)).mp q; omega)]
    obtain ⟨T, t1, t2, t3⟩ := mn_45 (p2 := o3 k) hE hm hl hv (K := fun S58 => lp_X11_isSpare_37 (o3 v) K nn (o3 k + (1 : Int32)) S58) E.length 0 FU S s (by omega) (FU_lt (by omega)) m1 h
    obtain ⟨U, u1, u2, u3⟩ := ih (k + 1) nn T _ (by omega) (by omega) (twM_163 m1 t3) t2
    refine ⟨U, t1.trans ?_, u2, t3.tr u3⟩
    rw [o3_s]
    exact u1
theorem mn_2 (hE : ∀ q ∈ E, okS F.length q) (hm : F.length ≤ 10) (hl : E.length ≤ 12) (hv : v < E.length) {K : fS → Option (Int32 × fS)} : ∀ d k nn (S : fS), k + d = 10 → d < nn → twM (S.1 157) F E → (∀ j, j < k → S.1 163 j = if decide (j = (E.getD v d5).1) = true then 1 else 0) → ∃ T, lp_X11_isSpare_2 (o3 v) K nn (o3 k) S = K T ∧ bo T (fun j => decide (j = (E.getD v d5).1)) ∧ e163 S T := by
  intro d
  induction d with
  | zero =>
    intro k nn S hk hnn m1 h
    obtain ⟨nn, rfl⟩ : ∃ z, nn = z + 1 := ⟨nn - 1, by omega⟩
    refine ⟨S, ?_, fun j hj => h j (by omega), e163.rf⟩
    rw [lp_X11_isSpare_2.eq_2, if_pos (show (10 : Int32) ≤ o3 k from (o3_le (a := 10) (by omega) (by omega)).mpr (by omega))]
  | succ d ih =>
    intro k nn S hk hnn m1 h
    obtain ⟨nn, rfl⟩ : ∃ z, nn = z + 1 := ⟨nn - 1, by omega⟩
    have h1 := (hE _ (gd_mem (d := d5) hv)).1
    rw [lp_X11_isSpare_2.eq_2, if_neg (show ¬ (10 : Int32) ≤ o3 k from fun q => by have := (o3_le (a := 10) (by omega) (by omega)).mp q; omega), show f_X11_stairOf (o3 v) 0 S = some (o3 (E.getD v d5).1) from (m_stairOf (k := 0) (by omega) (by omega)).trans (congrArg some (m1.2.2.2 v hv).1), bd_some, nar1, nar0, sI_o (by omega) (by omega), sI_o (by omega) (by omega), bd_some, bd_some, o3_s]
    have key : ∀ x, x = (if decide (k = (E.getD v d5).1) = true then (1 : Int32) else 0) → ∃ T, lp_X11_isSpare_2 (o3 v) K nn (o3 (k + 1)) (pI S 163 k x) = K T ∧ bo T (fun j => decide (j = (E.getD v d5).1)) ∧ e163 S T := fun x hx => by
      obtain ⟨T, t1, t2, t3⟩ := ih (k + 1) nn (pI S 163 k x) (by omega) (by omega) (twM_163 m1 e163_p) (fun j hj => by
        by_cases e : j = k
        · rw [e, pI_eq, hx]
        · rw [pI_ne (by omega)]; exact h j (by omega))
      exact ⟨T, t1, t2, e163_p.tr t3⟩
    by_cases e : k = (E.getD v d5).1
    · rw [if_pos ((o3_inj (by omega) (by omega)).mpr e)]
      exact key 1 (by rw [decide_eq_true e, if_pos rfl])
    · rw [if_neg (fun q => e ((o3_inj (by omega) (by omega)).mp q))]
      exact key 0 (by rw [decide_eq_false e, if_neg (by decide)])
theorem m_sp {S : fS} (m1 : twM (S.1 157) F E) (hE : ∀ q ∈ E, okS F.length q) (hm : F.length ≤ 10) (hl : E.length ≤ 12) (hv : v < E.length) : ∃ T, f_X11_isSpare (o3 v) S = some (wA F E v, T) ∧ e163 S T := by
  have h1 := (hE _ (gd_mem (d := d5) hv)).1
  have h2 := (hE _ (gd_mem (d := d5) hv)).2.1
  unfold f_X11_isSpare
  obtain ⟨T, t1, t2, t3⟩ := mn_2 hE hm hl hv (K := fun S12 => lp_X11_isSpare_37 (o3 v) (fun S60 => (f_X11_stairOf (o3 v) (1 : Int32) S60).bind fun q62 => (gI S60 163 10 q62).bind fun a65 => (bZ a65).bind fun z68 => some (z68, S60)) FU (0 : Int32) S12) 10 0 FU S (by omega) (FU_lt (by omega)) m1 (fun j hj => absurd hj (Nat.not_lt_zero _))
  obtain ⟨U, u1, u2, u3⟩ := mn_37 hE hm hl hv (K := fun S60 => (f_X11_stairOf (o3 v) (1 : Int32) S60).bind fun q62 => (gI S60 163 10 q62).bind fun a65 => (bZ a65).bind fun z68 => some (z68, S60)) 10 0 FU T _ (by omega) (FU_lt (by omega)) (twM_163 m1 t3) t2
  have e2 := t3.tr u3
  refine ⟨U, (t1.trans u1).trans ?_, e2⟩
  show (f_X11_stairOf (o3 v) 1 U).bind _ = _
  rw [show f_X11_stairOf (o3 v) 1 U = some (o3 (E.getD v d5).2.1) from (m_stairOf (k := 1) (by omega) (by omega)).trans (congrArg some ((twM_163 m1 e2).2.2.2 v hv).2.1), bd_some, gI_o (by omega) (by omega), bd_some, u2 _ (by omega), nit_10 hE hm (fun j hj => by rw [decide_eq_true_eq] at hj; omega)]
  unfold wA bZ
  by_cases w : nit E v F.length (fun j => decide (j = (E.getD v d5).1)) (E.getD v d5).2.1 = true
  · rw [if_pos w, if_pos (Or.inr rfl), bd_some]
  · rw [if_neg w, if_pos (Or.inl rfl), bd_some]
end NE
def nd (F : List (Nat × Nat)) (E : List St5) : Nat → Nat → Int32 → Int32
  | 0, _, x => x
  | d + 1, k, x => nd F E d (k + 1) (if wA F E k = 0 then x ||| ((1 : Int32) <<< (o3 k &&& 31)) else x)
theorem t_26 (S : fS) (hR : Rel S) : ∃ r S2, f_X10_needed S = some r ∧ f_X11_needed S = some (r, S2) ∧ Rel S2 := by
  obtain ⟨n', s, L, M, hT, hS, hL, hM⟩ := hR
  have hS0 := hS
  obtain ⟨⟨n1, n2, n3, n4, n5, n6⟩, ⟨b1, b2, b3, b4, b5⟩, ⟨m1, m2, m3, m4⟩, d⟩ := hS
  have hc : ∀ d k nn x, k + d = s.2.1.length → d < nn → lp_X10_needed_4 S (fun u6 => some u6) nn x (o3 k) = some (nd s.1 s.2.1 d k x) := by
    intro d
    induction d with
    | zero =>
      intro k nn x hk hnn
      obtain ⟨nn, rfl⟩ : ∃ z, nn = z + 1 := ⟨nn - 1, by omega⟩
      rw [lp_X10_needed_4.eq_2, b1.2.1, if_pos ((o3_le (by omega) (by omega)).mpr (by omega))]
      rfl
    | succ d ih =>
      intro k nn x hk hnn
      obtain ⟨nn, rfl⟩ : ∃ z, nn = z + 1 := ⟨nn - 1, by omega⟩
      rw [lp_X10_needed_4.eq_2, b1.2.1, if_neg (fun q => by have := (o3_le (by omega) (by omega)).mp q; omega), c_wa b1 n4 n1 n2 (by omega), bd_some, o3_s]
      show _ = some (nd s.1 s.2.1 d (k + 1) (if wA s.1 s.2.1 k = 0 then x ||| ((1 : Int32) <<< (o3 k &&& 31)) else x))
      by_cases w : wA s.1 s.2.1 k = 0
      · rw [if_pos w, if_pos w]; exact ih (k + 1) nn _ (by omega) (by omega)
      · rw [if_neg w, if_neg w]; exact ih (k + 1) nn _ (by omega) (by omega)
  have hm : ∀ d k nn x (T : fS), k + d = s.2.1.length → d < nn → twM (T.1 157) s.1 s.2.1 → ∃ U, lp_X11_needed_4 (fun u9 S10 => some (u9, S10)) nn x (o3 k) T = some (nd s.1 s.2.1 d k x, U) ∧ e163 T U := by
    intro d
    induction d with
    | zero =>
      intro k nn x T hk hnn m1
      obtain ⟨nn, rfl⟩ : ∃ z, nn = z + 1 := ⟨nn - 1, by omega⟩
      rw [lp_X11_needed_4.eq_2, show gI T 157 158 1 = some (o3 s.2.1.length) from (gI_o (k := 1) (by omega) (by omega)).trans (congrArg some m1.2.1), bd_some, if_pos ((o3_le (by omega) (by omega)).mpr (by omega))]
      exact ⟨T, rfl, e163.rf⟩
    | succ d ih =>
      intro k nn x T hk hnn m1
      obtain ⟨nn, rfl⟩ : ∃ z, nn = z + 1 := ⟨nn - 1, by omega⟩
      obtain ⟨U, u1, u2⟩ := m_sp m1 n4 n1 n2 (v := k) (by omega)
      rw [lp_X11_needed_4.eq_2, show gI T 157 158 1 = some (o3 s.2.1.length) from (gI_o (k := 1) (by omega) (by omega)).trans (congrArg some m1.2.1), bd_some, if_neg (fun q => by have := (o3_le (by omega) (by omega)).mp q; omega), u1, bd_some, o3_s, Int32.or_zero]
      have hnd : nd s.1 s.2.1 (d + 1) k x = nd s.1 s.2.1 d (k + 1) (if wA s.1 s.2.1 k = 0 then x ||| ((1 : Int32) <<< (o3 k &&& 31)) else x) := rfl
      rw [hnd]
      obtain ⟨V, v1, v2⟩ := ih (k + 1) nn (if wA s.1 s.2.1 k = 0 then x ||| ((1 : Int32) <<< (o3 k &&& 31)) else x) U (by omega) (by omega) (twM_163 m1 u2)
      refine ⟨V, ?_, u2.tr v2⟩
      by_cases w : wA s.1 s.2.1 k = 0
      · rw [if_pos w] at v1 ⊢; rw [if_pos w]; exact v1
      · rw [if_neg w] at v1 ⊢; rw [if_neg w]; exact v1
  obtain ⟨U, u1, u2⟩ := hm s.2.1.length 0 FU 0 S (by omega) (FU_lt (by omega)) m1
  refine ⟨_, U, hc s.2.1.length 0 FU 0 (by omega) (FU_lt (by omega)), u1, n', s, L, M, ?_, ?_, ?_, ?_⟩
  · exact rTp_eq hT (u2.2 _ _ (by omega)) (u2.2 _ _ (by omega)) (fun k => u2.2 _ _ (by omega)) (fun k => u2.2 _ _ (by omega))
  · exact rSc_eq hS0 (fun a k _ _ => u2.2 a k (by omega)) (fun a k _ _ => by rw [u2.1]) (by rw [u2.2 3 3 (by omega)]; exact hS0.2.1.2.2.2.2) (fun k => u2.2 _ _ (by omega)) (fun a k _ => by rw [u2.1])
  · exact rRu_eq hL (u2.2 _ _ (by omega)) (u2.2 _ _ (by omega)) (fun a k _ _ _ => u2.2 a k (by omega)) (fun a k _ => u2.2 a k (by omega))
  · exact rIm_eq hM (fun a k _ _ => u2.2 a k (by omega)) (fun a k _ _ => by rw [u2.1]) (fun k => u2.2 _ _ (by omega)) (fun k => by rw [u2.1]) (fun k => u2.2 _ _ (by omega))
end
