noncomputable section
/-! small numbers, memory, loops -/
def o3 (k : Nat) : Int32 := Int32.ofNat k
theorem o3_int {k : Nat} (h : k < 2147483648) : (o3 k).toInt = k := Int32.toInt_ofNat_of_lt h
theorem o3_nat {k : Nat} (h : k < 2147483648) : (o3 k).toNatClampNeg = k := Int32.toNatClampNeg_ofNat_of_lt h
theorem o3_lt {a b : Nat} (ha : a < 2147483648) (hb : b < 2147483648) : o3 a < o3 b ↔ a < b := by
  rw [ni_lt, o3_int ha, o3_int hb]; omega
theorem o3_le {a b : Nat} (ha : a < 2147483648) (hb : b < 2147483648) : o3 a ≤ o3 b ↔ a ≤ b := by
  rw [ni_le, o3_int ha, o3_int hb]; omega
theorem o3_inj {a b : Nat} (ha : a < 2147483648) (hb : b < 2147483648) : o3 a = o3 b ↔ a = b := by
  rw [ni_eq, o3_int ha, o3_int hb]; omega
theorem o3_add {a b : Nat} : o3 a + o3 b = o3 (a + b) := (Int32.ofNat_add a b).symm
theorem o3_mul {a b : Nat} : o3 a * o3 b = o3 (a * b) := (Int32.ofNat_mul a b).symm
theorem o3_sub {a b : Nat} (h : b ≤ a) : o3 a - o3 b = o3 (a - b) := (Int32.ofNat_sub a b h).symm
theorem o3_s {a : Nat} : o3 a + 1 = o3 (a + 1) := o3_add (b := 1)
theorem o3_l (n : Nat) : (no_index (OfNat.ofNat n) : Int32) = o3 (OfNat.ofNat n) := rfl
theorem o3_nn {a : Nat} (ha : a < 2147483648) : ¬ o3 a < 0 := by
  rw [ni_lt, o3_int ha, ni_0]; omega
theorem o3_0le {a : Nat} (ha : a < 2147483648) : 0 ≤ o3 a := by
  rw [ni_le, o3_int ha, ni_0]; omega
theorem o3_of {x : Int32} (h : 0 ≤ x.toInt) : x = o3 x.toNatClampNeg := by
  rw [ni_eq, o3_int (by have := ni_nat h; have := ni_hi x; omega), ni_nat h]
theorem o3_ex {x : Int32} (h : 0 ≤ x.toInt) : ∃ k, x = o3 k ∧ (k : Int) = x.toInt := ⟨x.toNatClampNeg, o3_of h, ni_nat h⟩
theorem o3_m1 {a : Nat} (ha : a < 2147483648) : o3 a ≠ -1 := by
  intro h
  have := o3_nn ha
  rw [h] at this
  exact this (by decide)
theorem ix_ok {k n : Nat} (h : k < n) (hn : n < 2147483648) : ¬ (o3 k < 0 ∨ n ≤ (o3 k).toNatClampNeg) := by
  rw [o3_nat (by omega)]
  intro q
  rcases q with q | q
  · exact o3_nn (by omega) q
  · omega
theorem gI_o {S : fS} {a n k : Nat} (h : k < n) (hn : n < 2147483648) : gI S a n (o3 k) = some (S.1 a k) := by
  unfold gI
  rw [if_neg (ix_ok h hn), o3_nat (by omega)]
theorem gL_o {S : fS} {a n k : Nat} (h : k < n) (hn : n < 2147483648) : gL S a n (o3 k) = some (S.2 a k) := by
  unfold gL
  rw [if_neg (ix_ok h hn), o3_nat (by omega)]
theorem sI_o {S : fS} {a n k : Nat} {x : Int32} (h : k < n) (hn : n < 2147483648) : sI S a n (o3 k) x = some (pI S a k x) := by
  unfold sI
  rw [if_neg (ix_ok h hn), o3_nat (by omega)]
theorem sL_o {S : fS} {a n k : Nat} {x : Int64} (h : k < n) (hn : n < 2147483648) : sL S a n (o3 k) x = some (pL S a k x) := by
  unfold sL
  rw [if_neg (ix_ok h hn), o3_nat (by omega)]
theorem gI_l {S : fS} {a n k : Nat} (h : k < n) (hn : n < 2147483648) : gI S a n (no_index (OfNat.ofNat k)) = some (S.1 a k) := gI_o h hn
theorem gL_l {S : fS} {a n k : Nat} (h : k < n) (hn : n < 2147483648) : gL S a n (no_index (OfNat.ofNat k)) = some (S.2 a k) := gL_o h hn
theorem sI_l {S : fS} {a n k : Nat} {x : Int32} (h : k < n) (hn : n < 2147483648) : sI S a n (no_index (OfNat.ofNat k)) x = some (pI S a k x) := sI_o h hn
theorem sL_l {S : fS} {a n k : Nat} {x : Int64} (h : k < n) (hn : n < 2147483648) : sL S a n (no_index (OfNat.ofNat k)) x = some (pL S a k x) := sL_o h hn
theorem fr_up' {α : Type} {f : Nat → Nat → α} {b j : Nat} {x : α} {a k : Nat} (h : ¬ (a = b ∧ k = j)) : mm_up f b j x a k = f a k := by
  unfold mm_up
  by_cases ha : a = b
  · rw [if_pos ha]
    have hk : ¬ k = j := fun q => h ⟨ha, q⟩
    show (if k = j then x else f b k) = _
    rw [if_neg hk, ha]
  · rw [if_neg ha]
theorem pI_get {S : fS} {a k b j : Nat} {x : Int32} : (pI S a k x).1 b j = if b = a ∧ j = k then x else S.1 b j := by
  by_cases h : b = a ∧ j = k
  · rw [if_pos h]
    obtain ⟨rfl, rfl⟩ := h
    unfold pI mm_up
    simp
  · rw [if_neg h]
    exact fr_up' h
theorem pL_get {S : fS} {a k b j : Nat} {x : Int64} : (pL S a k x).2 b j = if b = a ∧ j = k then x else S.2 b j := by
  by_cases h : b = a ∧ j = k
  · rw [if_pos h]
    obtain ⟨rfl, rfl⟩ := h
    unfold pL mm_up
    simp
  · rw [if_neg h]
    exact fr_up' h
theorem pI_2 {S : fS} {a k : Nat} {x : Int32} : (pI S a k x).2 = S.2 := rfl
theorem pL_1 {S : fS} {a k : Nat} {x : Int64} : (pL S a k x).1 = S.1 := rfl
theorem fs_ext {S T : fS} (h1 : ∀ a k, S.1 a k = T.1 a k) (h2 : ∀ a k, S.2 a k = T.2 a k) : S = T := Prod.ext (funext fun a => funext fun k => h1 a k) (funext fun a => funext fun k => h2 a k)
theorem pI_self {S : fS} {a k : Nat} : pI S a k (S.1 a k) = S := fs_ext (fun b j => by
  rw [pI_get]
  by_cases h : b = a ∧ j = k
  · rw [if_pos h, h.1, h.2]
  · rw [if_neg h]) (fun _ _ => rfl)
theorem pI_pI {S : fS} {a k : Nat} {x y : Int32} : pI (pI S a k x) a k y = pI S a k y := fs_ext (fun b j => by
  rw [pI_get, pI_get, pI_get]
  by_cases h : b = a ∧ j = k
  · rw [if_pos h, if_pos h]
  · rw [if_neg h, if_neg h, if_neg h]) (fun _ _ => rfl)
theorem pI_sw {S : fS} {a k b j : Nat} {x y : Int32} (h : ¬ (a = b ∧ k = j)) : pI (pI S a k x) b j y = pI (pI S b j y) a k x := fs_ext (fun c i => by
  rw [pI_get, pI_get, pI_get, pI_get]
  by_cases h1 : c = b ∧ i = j
  · rw [if_pos h1, if_neg (fun q => h ⟨q.1.symm.trans h1.1, q.2.symm.trans h1.2⟩), if_pos h1]
  · rw [if_neg h1, if_neg h1]) (fun _ _ => rfl)
/-- a loop with fuel: in each turn it ends well, or goes on with less to do -/
theorem lp_go {σ β : Type} {L : Nat → σ → Option β} (Inv : Nat → σ → Prop) (Z : Option β → Prop) (h : ∀ d s n, Inv d s → Z (L (n + 1) s) ∨ ∃ d' s', d' < d ∧ Inv d' s' ∧ L (n + 1) s = L n s') : ∀ n d s, d < n → Inv d s → Z (L n s) := by
  intro n
  induction n with
  | zero => intro d s hd; exact absurd hd (Nat.not_lt_zero _)
  | succ n ih =>
    intro d s hd hi
    rcases h d s n hi with hz | ⟨d', s', hlt, hi', e⟩
    · exact hz
    · rw [e]
      exact ih d' s' (by omega) hi'
theorem bd_some {α β : Type} {a : α} {f : α → Option β} : (some a).bind f = f a := rfl
theorem FU_lt {d : Nat} (h : d < 100000) : d < FU := h
end
noncomputable section
/-! texts: what both readers do, byte by byte -/
def skf (t : Nat → Int32) (n : Nat) : Nat → Nat → Nat
  | 0, i => i
  | f + 1, i => if i < n ∧ t i = 32 then skf t n f (i + 1) else i
/-- behind the blanks -/
theorem sk_ex : ∃ f : (Nat → Int32) → Nat → Nat → Nat, ∀ t n i, f t n i = skf t n (n - i) i := ⟨fun t n i => skf t n (n - i) i, fun _ _ _ => rfl⟩
noncomputable def sk (t : Nat → Int32) (n i : Nat) : Nat := Classical.choose sk_ex t n i
theorem sk_df {t : Nat → Int32} {n i : Nat} : sk t n i = skf t n (n - i) i := Classical.choose_spec sk_ex t n i
theorem sk_1 {t : Nat → Int32} {n i : Nat} (h : i < n) (ht : t i = 32) : sk t n i = sk t n (i + 1) := by
  rw [sk_df, sk_df]
  rw [show n - i = (n - (i + 1)) + 1 by omega]
  show (if i < n ∧ t i = 32 then _ else _) = _
  rw [if_pos ⟨h, ht⟩]
theorem sk_0 {t : Nat → Int32} {n i : Nat} (h : ¬ (i < n ∧ t i = 32)) : sk t n i = i := by
  rw [sk_df]
  cases n - i with
  | zero => rfl
  | succ f =>
    show (if i < n ∧ t i = 32 then _ else _) = _
    rw [if_neg h]
theorem skf_pr {t : Nat → Int32} {n : Nat} : ∀ f i, n - i ≤ f → i ≤ skf t n f i ∧ (i ≤ n → skf t n f i ≤ n) ∧ ¬ (skf t n f i < n ∧ t (skf t n f i) = 32) := by
  intro f
  induction f with
  | zero =>
    intro i h
    refine ⟨Nat.le_refl _, fun h => h, fun q => ?_⟩
    have : i < n := q.1
    omega
  | succ f ih =>
    intro i h
    by_cases hc : i < n ∧ t i = 32
    · have e : skf t n (f + 1) i = skf t n f (i + 1) := if_pos hc
      rw [e]
      obtain ⟨h1, h2, h3⟩ := ih (i + 1) (by omega)
      exact ⟨by omega, fun _ => h2 (by omega), h3⟩
    · have e : skf t n (f + 1) i = i := if_neg hc
      rw [e]
      exact ⟨Nat.le_refl _, fun h => h, hc⟩
theorem sk_ge {t : Nat → Int32} {n i : Nat} : i ≤ sk t n i := by rw [sk_df]; exact (skf_pr (n - i) i (Nat.le_refl _)).1
theorem sk_le {t : Nat → Int32} {n i : Nat} (h : i ≤ n) : sk t n i ≤ n := by rw [sk_df]; exact (skf_pr (n - i) i (Nat.le_refl _)).2.1 h
theorem sk_nb {t : Nat → Int32} {n i : Nat} : ¬ (sk t n i < n ∧ t (sk t n i) = 32) := by rw [sk_df]; exact (skf_pr (n - i) i (Nat.le_refl _)).2.2
theorem sk_id {t : Nat → Int32} {n i : Nat} : sk t n (sk t n i) = sk t n i := sk_0 sk_nb
/-- a small letter; a digit -/
def ltr (t : Nat → Int32) (n k : Nat) : Bool := decide (k < n ∧ 97 ≤ (t k).toInt ∧ (t k).toInt ≤ 122)
def dgt (t : Nat → Int32) (n k : Nat) : Prop := k < n ∧ 48 ≤ (t k).toInt ∧ (t k).toInt ≤ 57
/-- just this word stands there: its letters, and none behind it -/
def wat (t : Nat → Int32) (n : Nat) : List Int32 → Nat → Bool
  | [], i => !ltr t n i
  | c :: w, i => decide (i < n ∧ t i = c) && wat t n w (i + 1)
theorem ltr_iff {t : Nat → Int32} {n k : Nat} : ltr t n k = true ↔ k < n ∧ 97 ≤ (t k).toInt ∧ (t k).toInt ≤ 122 := by
  unfold ltr
  rw [decide_eq_true_iff]
/-- how many digits stand there -/
def dlf (t : Nat → Int32) (n : Nat) : Nat → Nat → Nat
  | 0, _ => 0
  | f + 1, i => if i < n ∧ 48 ≤ (t i).toInt ∧ (t i).toInt ≤ 57 then dlf t n f (i + 1) + 1 else 0
theorem dl_ex : ∃ f : (Nat → Int32) → Nat → Nat → Nat, ∀ t n i, f t n i = dlf t n (n - i) i := ⟨fun t n i => dlf t n (n - i) i, fun _ _ _ => rfl⟩
noncomputable def dl (t : Nat → Int32) (n i : Nat) : Nat := Classical.choose dl_ex t n i
theorem dl_df {t : Nat → Int32} {n i : Nat} : dl t n i = dlf t n (n - i) i := Classical.choose_spec dl_ex t n i
/-- the number that the first k digits at i are -/
def dv (t : Nat → Int32) (i : Nat) : Nat → Nat
  | 0 => 0
  | k + 1 => dv t i k * 10 + ((t (i + k)).toInt - 48).toNat
theorem dl_1 {t : Nat → Int32} {n i : Nat} (h : dgt t n i) : dl t n i = dl t n (i + 1) + 1 := by
  rw [dl_df, dl_df]
  have := h.1
  rw [show n - i = (n - (i + 1)) + 1 by omega]
  exact if_pos h
theorem dl_0 {t : Nat → Int32} {n i : Nat} (h : ¬ dgt t n i) : dl t n i = 0 := by
  rw [dl_df]
  cases n - i with
  | zero => rfl
  | succ f =>
    exact if_neg h
theorem dl_le {t : Nat → Int32} {n : Nat} : ∀ d i, n - i = d → i ≤ n → i + dl t n i ≤ n := by
  intro d
  induction d with
  | zero =>
    intro i h h2
    rw [dl_0 (fun q => by have := q.1; omega)]; omega
  | succ d ih =>
    intro i h h2
    by_cases hc : dgt t n i
    · rw [dl_1 hc]
      have := ih (i + 1) (by omega) (by omega)
      omega
    · rw [dl_0 hc]; omega
theorem dl_end {t : Nat → Int32} {n : Nat} : ∀ d i, n - i = d → ¬ dgt t n (i + dl t n i) := by
  intro d
  induction d with
  | zero =>
    intro i h q
    have := q.1
    omega
  | succ d ih =>
    intro i h
    by_cases hc : dgt t n i
    · rw [dl_1 hc, show i + (dl t n (i + 1) + 1) = i + 1 + dl t n (i + 1) by omega]
      exact ih (i + 1) (by omega)
    · rw [dl_0 hc]; exact hc
theorem dl_dg {t : Nat → Int32} {n : Nat} : ∀ k i, k < dl t n i → dgt t n (i + k) := by
  intro k
  induction k with
  | zero =>
    intro i h
    by_cases hc : dgt t n i
    · exact hc
    · rw [dl_0 hc] at h; omega
  | succ k ih =>
    intro i h
    by_cases hc : dgt t n i
    · rw [dl_1 hc] at h
      have := ih (i + 1) (by omega)
      rw [show i + (k + 1) = i + 1 + k by omega]
      exact this
    · rw [dl_0 hc] at h; omega
theorem dv_lt {t : Nat → Int32} {n i : Nat} : ∀ k, k ≤ dl t n i → dv t i k < 10 ^ k := by
  intro k
  induction k with
  | zero => intro _; exact Nat.one_pos
  | succ k ih =>
    intro h
    have h1 := ih (by omega)
    have h2 := dl_dg (t := t) (n := n) k i (by omega)
    have h3 := h2.2
    show dv t i k * 10 + ((t (i + k)).toInt - 48).toNat < 10 ^ (k + 1)
    rw [Nat.pow_succ]
    omega
theorem dl_sub {t : Nat → Int32} {n j : Nat} : ∀ k, k ≤ dl t n j → dl t n (j + k) = dl t n j - k := by
  intro k
  induction k with
  | zero => intro _; rfl
  | succ k ih =>
    intro h
    have h1 := ih (by omega)
    have h2 := dl_dg (t := t) (n := n) k j (by omega)
    have h3 := dl_1 h2
    rw [show j + (k + 1) = j + k + 1 by omega]
    omega
/-- a number there, from lo to hi: 0, or its fault -/
def nmf (t : Nat → Int32) (n i : Nat) (lo hi : Int) : Nat := if dl t n (sk t n i) = 0 then 1 + 8 * sk t n i else if dl t n (sk t n i) ≤ 5 ∧ lo ≤ dv t (sk t n i) (dl t n (sk t n i)) ∧ (dv t (sk t n i) (dl t n (sk t n i)) : Int) ≤ hi then 0 else 1 + 8 * sk t n i + 1
/-- the number, and the place behind it -/
def nmv (t : Nat → Int32) (n i : Nat) : Nat := dv t (sk t n i) (dl t n (sk t n i))
def nmp (t : Nat → Int32) (n i : Nat) : Nat := sk t n i + dl t n (sk t n i)
theorem nmp_le {t : Nat → Int32} {n i : Nat} (h : i ≤ n) : nmp t n i ≤ n := dl_le _ _ rfl (sk_le h)
theorem nmp_ge {t : Nat → Int32} {n i : Nat} : i ≤ nmp t n i := Nat.le_trans sk_ge (Nat.le_add_right _ _)
theorem nmf_0 {t : Nat → Int32} {n i : Nat} {lo hi : Int} (h : nmf t n i lo hi = 0) : 0 < dl t n (sk t n i) ∧ dl t n (sk t n i) ≤ 5 ∧ lo ≤ nmv t n i ∧ (nmv t n i : Int) ≤ hi := by
  unfold nmf at h
  unfold nmv
  by_cases h1 : dl t n (sk t n i) = 0
  · rw [if_pos h1] at h; omega
  · rw [if_neg h1] at h
    by_cases h2 : dl t n (sk t n i) ≤ 5 ∧ lo ≤ dv t (sk t n i) (dl t n (sk t n i)) ∧ (dv t (sk t n i) (dl t n (sk t n i)) : Int) ≤ hi
    · exact ⟨by omega, h2⟩
    · rw [if_neg h2] at h; omega
theorem nmp_gt {t : Nat → Int32} {n i : Nat} {lo hi : Int} (h : nmf t n i lo hi = 0) : i < nmp t n i := by
  have h1 := (nmf_0 h).1
  have h2 := sk_ge (t := t) (n := n) (i := i)
  unfold nmp
  omega
theorem nmf_le {t : Nat → Int32} {n i : Nat} {lo hi : Int} (h : i ≤ n) : nmf t n i lo hi ≤ 8 * n + 2 := by
  have := sk_le (t := t) h
  unfold nmf
  split
  · omega
  · split
    · omega
    · omega
end
noncomputable section
/-! the class's tape -/
def tS (S : fS) (i s f : Int32) : fS := pI (pI (pI S 1 2 i) 1 3 s) 1 4 f
theorem tS_at {S : fS} {i s f j : Int32} : pI (tS S i s f) 1 2 j = tS S j s f := by
  unfold tS
  rw [pI_sw (by decide), pI_sw (a := 1) (k := 3) (by decide), pI_pI]
theorem tS_st {S : fS} {i s f j : Int32} : pI (tS S i s f) 1 3 j = tS S i j f := by
  unfold tS
  rw [pI_sw (by decide), pI_pI]
theorem tS_fa {S : fS} {i s f j : Int32} : pI (tS S i s f) 1 4 j = tS S i s j := by
  unfold tS
  rw [pI_pI]
theorem tS_2 {S : fS} {i s f : Int32} : (tS S i s f).1 1 2 = i := id rfl
theorem tS_3 {S : fS} {i s f : Int32} : (tS S i s f).1 1 3 = s := id rfl
theorem tS_4 {S : fS} {i s f : Int32} : (tS S i s f).1 1 4 = f := id rfl
theorem tS_1 {S : fS} {i s f : Int32} : (tS S i s f).1 1 1 = S.1 1 1 := id rfl
theorem tS_t {S : fS} {i s f : Int32} : (tS S i s f).1 2 = S.1 2 := id rfl
theorem tS_of {S : fS} : tS S (S.1 1 2) (S.1 1 3) (S.1 1 4) = S := by
  unfold tS
  rw [pI_self, pI_self, pI_self]
section CT
variable {S : fS} {n : Nat} {s f : Int32}
theorem ct_skip (hn : S.1 1 1 = o3 n) (hl : n ≤ 400) {i : Nat} (hi : i ≤ n) : f_X7_skipBlanks (tS S (o3 i) s f) = some (tS S (o3 (sk (S.1 2) n i)) s f) := by
  unfold f_X7_skipBlanks
  refine lp_go (L := fun k x => lp_X7_skipBlanks_0 (fun S10 => some S10) k x) (fun d x => ∃ j, x = tS S (o3 j) s f ∧ j ≤ n ∧ d = n - j ∧ sk (S.1 2) n j = sk (S.1 2) n i) (fun x => x = some (tS S (o3 (sk (S.1 2) n i)) s f)) ?_ FU (n - i) _ (FU_lt (by omega)) ⟨i, rfl, hi, rfl, rfl⟩
  rintro d x k ⟨j, rfl, hj, rfl, hs⟩
  show (lp_X7_skipBlanks_0 _ (k + 1) _ = _) ∨ _
  rw [lp_X7_skipBlanks_0.eq_2]
  simp only [tS_1, tS_2, hn]
  by_cases hc : j < n
  · rw [if_neg (by rw [o3_le (by omega) (by omega)]; omega), if_neg (by rw [o3_l, o3_le (by omega) (by omega)]; omega), gI_o (by omega) (by omega), bd_some, tS_t]
    by_cases hb : S.1 2 j = 32
    · rw [if_pos hb, bd_some, tS_at, o3_s]
      exact Or.inr ⟨n - (j + 1), _, by omega, ⟨j + 1, rfl, by omega, rfl, by rw [← hs, sk_1 hc hb]⟩, rfl⟩
    · rw [if_neg hb]
      refine Or.inl ?_
      rw [← hs, sk_0 (fun q => hb q.2)]
  · rw [if_pos (by rw [o3_le (by omega) (by omega)]; omega)]
    refine Or.inl ?_
    rw [← hs, sk_0 (fun q => hc q.1)]
theorem ct_byte (hl : n ≤ 400) {X : fS} (h1 : X.1 1 1 = o3 n) {k : Nat} (hk : k < 2000000) : f_X7_byteAt (o3 k) X = some (if k < n then X.1 2 k else -1) := by
  unfold f_X7_byteAt
  rw [if_neg (o3_nn (by omega)), h1]
  by_cases hc : k < n
  · rw [if_neg (by rw [o3_le (by omega) (by omega)]; omega), if_neg (by rw [o3_l, o3_le (by omega) (by omega)]; omega), gI_o (by omega) (by omega), bd_some, if_pos hc]
  · rw [if_pos (by rw [o3_le (by omega) (by omega)]; omega), if_neg hc]
theorem ct_sign (hn : S.1 1 1 = o3 n) (hl : n ≤ 400) {c : Int32} (hc : c ≠ -1) {i : Nat} (hi : i ≤ n) : f_X7_takeSign c (tS S (o3 i) s f) = some (if sk (S.1 2) n i < n ∧ S.1 2 (sk (S.1 2) n i) = c then (1, tS S (o3 (sk (S.1 2) n i + 1)) (o3 (sk (S.1 2) n i)) f) else (0, tS S (o3 (sk (S.1 2) n i)) s f)) := by
  have hj := sk_le (t := S.1 2) hi
  unfold f_X7_takeSign
  rw [ct_skip hn hl hi, bd_some, tS_2, ct_byte hl (X := tS S (o3 (sk (S.1 2) n i)) s f) (by rw [tS_1, hn]) (by omega), bd_some, tS_t]
  generalize sk (S.1 2) n i = j at hj
  by_cases h : j < n ∧ S.1 2 j = c
  · rw [if_pos h.1, if_pos h.2, if_pos h, bd_some, bd_some, tS_st, tS_2, tS_at, o3_s]
  · rw [if_neg h, if_neg]
    intro q
    by_cases hlt : j < n
    · rw [if_pos hlt] at q; exact h ⟨hlt, q⟩
    · rw [if_neg hlt] at q; exact hc q.symm
theorem ct_end (hn : S.1 1 1 = o3 n) (hl : n ≤ 400) {i : Nat} (hi : i ≤ n) : f_X7_isAtEnd (tS S (o3 i) s f) = some (if sk (S.1 2) n i < n then 0 else 1, tS S (o3 (sk (S.1 2) n i)) s f) := by
  have hj := sk_le (t := S.1 2) hi
  unfold f_X7_isAtEnd
  rw [ct_skip hn hl hi, bd_some, tS_2, tS_1, hn]
  by_cases h : sk (S.1 2) n i < n
  · rw [if_pos ((o3_lt (by omega) (by omega)).mpr h), if_pos h]
  · rw [if_neg (fun q => h ((o3_lt (by omega) (by omega)).mp q)), if_neg h]
theorem ct_fail {X : fS} {p k : Int32} : f_X7_fail p k X = some (0, pI X 1 4 (1 + 8 * p + k)) := rfl
theorem ct_digit (hl : n ≤ 400) {X : fS} (h1 : X.1 1 1 = o3 n) {k : Nat} (hk : k < 2000000) : f_X7_isDigitAt (o3 k) X = some (if 0 < dl (X.1 2) n k then 1 else 0) := by
  unfold f_X7_isDigitAt
  rw [ct_byte hl h1 hk, bd_some]
  by_cases hc : dgt (X.1 2) n k
  · obtain ⟨h1, h2, h3⟩ := hc
    rw [if_pos h1, if_neg (fun q => by have q := ni_lt.mp q; rw [show (48 : Int32).toInt = 48 from rfl] at q; omega), if_neg (fun q => by have q := ni_lt.mp q; rw [show (57 : Int32).toInt = 57 from rfl] at q; omega), dl_1 ⟨h1, h2, h3⟩, if_pos (by omega)]
  · rw [dl_0 hc, if_neg (Nat.lt_irrefl 0)]
    by_cases hk : k < n
    · rw [if_pos hk]
      by_cases h2 : X.1 2 k < 48
      · rw [if_pos h2]
      · rw [if_neg h2, if_pos]
        have h2 : ¬ (X.1 2 k).toInt < 48 := fun q => h2 (ni_lt.mpr q)
        refine ni_lt.mpr ?_
        show 57 < (X.1 2 k).toInt
        refine Int.not_le.mp (fun q => hc ⟨hk, by omega, q⟩)
    · rw [if_neg hk]
      rfl
/-- the word's first letters, from k on -/
def wpf (t : Nat → Int32) (n : Nat) : List Int32 → Nat → Bool
  | [], _ => true
  | c :: w, i => decide (i < n ∧ t i = c) && wpf t n w (i + 1)
theorem wat_wpf {t : Nat → Int32} {n : Nat} : ∀ (w : List Int32) (i : Nat), wat t n w i = (wpf t n w i && !ltr t n (i + w.length)) := by
  intro w
  induction w with
  | nil => intro i; show (!ltr t n i) = (true && !ltr t n (i + 0)); simp
  | cons c w ih =>
    intro i
    show (decide (i < n ∧ t i = c) && wat t n w (i + 1)) = (decide (i < n ∧ t i = c) && wpf t n w (i + 1) && !ltr t n (i + (w.length + 1)))
    rw [ih (i + 1), Bool.and_assoc, show i + 1 + w.length = i + (w.length + 1) by omega]
theorem ct_wordlp (hn : S.1 1 1 = o3 n) (hl : n ≤ 400) {w j : Nat} {K : fS → Option (Int32 × fS)} (hj : j ≤ n) (hlen : (mm_sb.getD w []).length < 20) (hpos : ∀ c ∈ mm_sb.getD w [], c ≠ -1) : ∀ (u : List Int32) (k m : Nat), k + u.length = (mm_sb.getD w []).length → (mm_sb.getD w []).drop k = u → u.length < m → lp_X7_takeWord_11 w (o3 (mm_sb.getD w []).length) K m (o3 k) (tS S (o3 j) s f) = if wpf (S.1 2) n u (j + k) then K (tS S (o3 j) s f) else some (0, tS S (o3 j) s f) := by
  intro u
  induction u with
  | nil =>
    intro k m h1 h2 h3
    obtain ⟨m, rfl⟩ : ∃ m', m = m' + 1 := ⟨m - 1, by have : 0 < m := h3; omega⟩
    rw [lp_X7_takeWord_11.eq_2, if_pos (by rw [o3_le (by omega) (by omega)]; have : k + 0 = _ := h1; omega)]
    rfl
  | cons c u ih =>
    intro k m h1 h2 h3
    have h1 : k + (u.length + 1) = _ := h1
    have h3 : u.length + 1 < m := h3
    obtain ⟨m, rfl⟩ : ∃ m', m = m' + 1 := ⟨m - 1, by omega⟩
    have hg : (mm_sb.getD w []).getD k 0 = c := by
      have : ((mm_sb.getD w []).drop k)[0]? = some c := by rw [h2]; rfl
      rw [List.getElem?_drop] at this
      rw [List.getD_eq_getElem?_getD, show k = k + 0 from rfl, this]; rfl
    have hmem : c ∈ mm_sb.getD w [] := List.mem_of_mem_drop (i := k) (by rw [h2]; exact List.mem_cons_self)
    rw [lp_X7_takeWord_11.eq_2, if_neg (by rw [o3_le (by omega) (by omega)]; omega), tS_2, o3_add, ct_byte hl (X := tS S (o3 j) s f) (by rw [tS_1, hn]) (by omega), bd_some, tS_t]
    have hch : f_J0_charAt_5068e w (o3 k) = some c := by
      unfold f_J0_charAt_5068e
      rw [if_neg (ix_ok (by omega) (by omega)), o3_nat (by omega), hg]
    rw [hch, bd_some]
    show _ = if (decide (j + k < n ∧ S.1 2 (j + k) = c) && wpf (S.1 2) n u (j + k + 1)) = true then _ else _
    by_cases h : j + k < n ∧ S.1 2 (j + k) = c
    · rw [if_pos h.1, if_pos h.2, o3_s, ih (k + 1) m (by omega) (by rw [← List.drop_drop, h2]; rfl) (by omega), decide_eq_true h, Bool.true_and, show j + (k + 1) = j + k + 1 by omega]
    · rw [decide_eq_false h, Bool.false_and]
      rw [if_neg]
      · rfl
      intro q
      by_cases hlt : j + k < n
      · rw [if_pos hlt] at q; exact h ⟨hlt, q⟩
      · rw [if_neg hlt] at q; exact hpos c hmem q.symm
theorem ct_sblen : ∀ w, w < 16 → (mm_sb.getD w []).length < 20 := by decide
theorem ct_sbpos : ∀ w, w < 16 → ∀ c ∈ mm_sb.getD w [], c ≠ -1 := by decide
theorem ct_word (hn : S.1 1 1 = o3 n) (hl : n ≤ 400) {w i : Nat} (hw : w < 16) (hi : i ≤ n) : f_X7_takeWord w (tS S (o3 i) s f) = some (if wat (S.1 2) n (mm_sb.getD w []) (sk (S.1 2) n i) then (1, tS S (o3 (sk (S.1 2) n i + (mm_sb.getD w []).length)) (o3 (sk (S.1 2) n i)) f) else (0, tS S (o3 (sk (S.1 2) n i)) s f)) := by
  have hj := sk_le (t := S.1 2) hi
  have hlen := ct_sblen w hw
  unfold f_X7_takeWord
  rw [ct_skip hn hl hi, bd_some, show f_J0_length_8abf5 w = some (o3 (mm_sb.getD w []).length) from rfl, bd_some]
  generalize sk (S.1 2) n i = j at hj
  rw [show (0 : Int32) = o3 0 from rfl, ct_wordlp hn hl hj hlen (ct_sbpos w hw) (mm_sb.getD w []) 0 FU (by omega) rfl (FU_lt (by omega)), wat_wpf]
  rw [show j + 0 = j from rfl]
  by_cases hp : wpf (S.1 2) n (mm_sb.getD w []) j = true
  · rw [if_pos hp, hp, Bool.true_and, tS_2, o3_add, ct_byte hl (X := tS S (o3 j) s f) (by rw [tS_1, hn]) (by omega), bd_some, tS_t]
    generalize (mm_sb.getD w []).length = len at hlen
    by_cases hl2 : ltr (S.1 2) n (j + len) = true
    · obtain ⟨g1, g2, g3⟩ := ltr_iff.mp hl2
      rw [if_pos g1, if_neg (fun q => by have q := ni_lt.mp q; rw [show (97 : Int32).toInt = 97 from rfl] at q; omega), if_neg (fun q => by have q := ni_lt.mp q; rw [show (122 : Int32).toInt = 122 from rfl] at q; omega), hl2]
      rfl
    · have hl3 : ltr (S.1 2) n (j + len) = false := by
        cases hq : ltr (S.1 2) n (j + len)
        · rfl
        · exact absurd hq hl2
      rw [hl3]
      show _ = some (if true = true then _ else _)
      rw [if_pos rfl]
      have fin : ((some (pI (tS S (o3 j) s f) 1 3 ((tS S (o3 j) s f).1 1 2))).bind fun S21 => (some (pI S21 1 2 ((S21.1 1 2) + o3 len))).bind fun S24 => some ((1 : Int32), S24)) = some ((1 : Int32), tS S (o3 (j + len)) (o3 j) f) := by
        rw [bd_some, bd_some, tS_2, tS_st, tS_2, tS_at, o3_add]
      by_cases hlt : j + len < n
      · rw [if_pos hlt]
        by_cases h1 : S.1 2 (j + len) < 97
        · rw [if_pos h1]; exact fin
        · rw [if_neg h1, if_pos]
          · exact fin
          · have h1 : ¬ (S.1 2 (j + len)).toInt < 97 := fun q => h1 (ni_lt.mpr q)
            refine ni_lt.mpr (Int.not_le.mp (fun q => hl2 (ltr_iff.mpr ⟨hlt, by omega, q⟩)))
      · rw [if_neg hlt, if_pos (by decide)]
        exact fin
  · rw [if_neg hp]
    have hp : wpf (S.1 2) n (mm_sb.getD w []) j = false := by
      cases hq : wpf (S.1 2) n (mm_sb.getD w []) j
      · rfl
      · exact absurd hq hp
    rw [hp, Bool.false_and]
    rfl
theorem dv_5 {t : Nat → Int32} {j q : Nat} (hq : q ≤ 5) (hq2 : q ≤ dl t n j) : dv t j q < 100000 := by
  have h1 := dv_lt (t := t) (n := n) (i := j) q hq2
  have h2 : 10 ^ q ≤ 10 ^ 5 := Nat.pow_le_pow_right (by decide) hq
  have h3 : (10 : Nat) ^ 5 = 100000 := by decide
  omega
theorem ct_numlp (hn : S.1 1 1 = o3 n) (hl : n ≤ 400) {lo hi : Int32} {K : Int32 → fS → Option (Int32 × fS)} {j : Nat} (hj : j ≤ n) : ∀ d k m, k + d = dl (S.1 2) n j → d < m → lp_X7_takeNumber_14 lo hi K m (o3 (dv (S.1 2) j (min k 5))) (tS S (o3 (j + k)) (o3 j) f) = K (o3 (dv (S.1 2) j (min (dl (S.1 2) n j) 5))) (tS S (o3 (j + dl (S.1 2) n j)) (o3 j) f) := by
  have hL := dl_le (t := S.1 2) (n := n) _ j rfl hj
  intro d
  induction d with
  | zero =>
    intro k m hk hm
    obtain ⟨m, rfl⟩ : ∃ m', m = m' + 1 := ⟨m - 1, by omega⟩
    have hk : k = dl (S.1 2) n j := hk
    subst hk
    have hE := dl_end (t := S.1 2) (n := n) _ j rfl
    rw [lp_X7_takeNumber_14.eq_2, tS_1, tS_2, hn]
    by_cases hc : n ≤ j + dl (S.1 2) n j
    · rw [if_pos ((o3_le (by omega) (by omega)).mpr hc)]
    · rw [if_neg (fun q => hc ((o3_le (by omega) (by omega)).mp q)), ct_digit hl (X := tS S (o3 (j + dl (S.1 2) n j)) (o3 j) f) (by rw [tS_1, hn]) (by omega), bd_some, tS_t, dl_0 hE, if_neg (Nat.lt_irrefl 0), if_pos rfl]
  | succ d ih =>
    intro k m hk hm
    obtain ⟨m, rfl⟩ : ∃ m', m = m' + 1 := ⟨m - 1, by omega⟩
    have hg := dl_dg (t := S.1 2) (n := n) k j (by omega)
    obtain ⟨g1, g2, g3⟩ := hg
    have hds := dl_sub (t := S.1 2) (n := n) (j := j) k (by omega)
    rw [lp_X7_takeNumber_14.eq_2, tS_1, tS_2, hn, if_neg (by rw [o3_le (by omega) (by omega)]; omega)]
    rw [ct_digit hl (X := tS S (o3 (j + k)) (o3 j) f) (by rw [tS_1, hn]) (by omega), bd_some, tS_t, if_pos (show 0 < dl (S.1 2) n (j + k) by omega), if_neg (by decide), tS_3, o3_sub (by omega), show j + k - j = k by omega]
    by_cases h5 : 5 ≤ k
    · rw [o3_l, if_pos ((o3_le (by omega) (by omega)).mpr h5), bd_some, tS_at, o3_s, show j + k + 1 = j + (k + 1) by omega, show min k 5 = min (k + 1) 5 by omega]
      exact ih (k + 1) m (by omega) (by omega)
    · rw [o3_l, if_neg (fun q => h5 ((o3_le (by omega) (by omega)).mp q)), ct_byte hl (X := tS S (o3 (j + k)) (o3 j) f) (by rw [tS_1, hn]) (by omega), bd_some, tS_t, if_pos g1, bd_some, tS_at, o3_s, show j + k + 1 = j + (k + 1) by omega, ← ih (k + 1) m (by omega) (by omega)]
      have hd1 := dv_5 (n := n) (t := S.1 2) (j := j) (q := k) (by omega) (by omega)
      obtain ⟨b, hb, hb2⟩ := o3_ex (x := S.1 2 (j + k)) (by omega)
      rw [show min k 5 = k by omega, show min (k + 1) 5 = k + 1 by omega]
      have e : o3 (dv (S.1 2) j k) * 10 + S.1 2 (j + k) - 48 = o3 (dv (S.1 2) j (k + 1)) := by
        show _ = o3 (dv (S.1 2) j k * 10 + ((S.1 2 (j + k)).toInt - 48).toNat)
        rw [hb, show (10 : Int32) = o3 10 from rfl, show (48 : Int32) = o3 48 from rfl, o3_mul, o3_add, o3_sub (by omega), o3_int (by omega), show dv (S.1 2) j k * 10 + b - 48 = dv (S.1 2) j k * 10 + ((b : Int) - 48).toNat by omega]
      rw [e]
theorem ct_num (hn : S.1 1 1 = o3 n) (hl : n ≤ 400) {lo hi : Int32} {i : Nat} (hi' : i ≤ n) : f_X7_takeNumber lo hi (tS S (o3 i) s f) = some (if nmf (S.1 2) n i lo.toInt hi.toInt = 0 then (o3 (nmv (S.1 2) n i), tS S (o3 (nmp (S.1 2) n i)) (o3 (sk (S.1 2) n i)) f) else (-1, tS S (o3 (nmp (S.1 2) n i)) (o3 (sk (S.1 2) n i)) (o3 (nmf (S.1 2) n i lo.toInt hi.toInt)))) := by
  have hj := sk_le (t := S.1 2) hi'
  unfold f_X7_takeNumber nmf nmv nmp
  rw [ct_skip hn hl hi', bd_some, bd_some, tS_2, tS_st]
  generalize sk (S.1 2) n i = j at hj
  have hL := dl_le (t := S.1 2) (n := n) _ j rfl hj
  have hdk : ∀ q, q ≤ 5 → q ≤ dl (S.1 2) n j → dv (S.1 2) j q < 100000 := fun q h1 h2 => dv_5 h1 h2
  have hlp := ct_numlp hn hl (lo := lo) (hi := hi) (f := f) hj (dl (S.1 2) n j) 0 FU (by omega) (FU_lt (by omega))
    (K := fun u22 S23 => if (S23.1 1 2) = (S23.1 1 3) then ((f_X7_fail (S23.1 1 3) (0 : Int32) S23).bind fun q37 =>
  some ((-1 : Int32), q37.2)) else
  (if (5 : Int32) < ((S23.1 1 2) - (S23.1 1 3)) then ((f_X7_fail (S23.1 1 3) (1 : Int32) S23).bind fun q27 =>
  some ((-1 : Int32), q27.2)) else
  ((f_X10_isFrom u22 lo hi S23).bind fun q30 =>
  if q30 = (0 : Int32) then ((f_X7_fail (S23.1 1 3) (1 : Int32) S23).bind fun q34 =>
  some ((-1 : Int32), q34.2)) else
  (some (u22, S23)))))
  refine Eq.trans hlp ?_
  generalize dl (S.1 2) n j = L at hL hdk
  rw [tS_2, tS_3]
  by_cases h0 : L = 0
  · subst h0
    rw [show j + 0 = j from rfl, if_pos rfl, if_pos rfl, if_neg (by omega), ct_fail, bd_some]
    show some (-1, pI (tS S (o3 j) (o3 j) f) 1 4 _) = _
    rw [tS_fa, show (1 : Int32) = o3 1 from rfl, show (8 : Int32) = o3 8 from rfl, show (0 : Int32) = o3 0 from rfl, o3_mul, o3_add, o3_add]
    rfl
  · rw [if_neg (by rw [o3_inj (by omega) (by omega)]; omega), o3_sub (by omega), show j + L - j = L by omega, if_neg h0]
    have ffail : ((f_X7_fail (o3 j) 1 (tS S (o3 (j + L)) (o3 j) f)).bind fun q27 => some ((-1 : Int32), q27.2)) = some (-1, tS S (o3 (j + L)) (o3 j) (o3 (1 + 8 * j + 1))) := by
      rw [ct_fail, bd_some]
      show some (-1, pI (tS S (o3 (j + L)) (o3 j) f) 1 4 _) = _
      rw [tS_fa, show (1 : Int32) = o3 1 from rfl, show (8 : Int32) = o3 8 from rfl, o3_mul, o3_add, o3_add]
    by_cases h5 : 5 < L
    · rw [show (5 : Int32) = o3 5 from rfl, if_pos ((o3_lt (by omega) (by omega)).mpr h5), ffail, if_neg (c := L ≤ 5 ∧ _) (fun q => by omega), if_neg (by omega)]
    · rw [show (5 : Int32) = o3 5 from rfl, if_neg (fun q => h5 ((o3_lt (by omega) (by omega)).mp q)), show min L 5 = L by omega]
      have hv := hdk L (by omega) (by omega)
      rcases op_isFrom01 (v := o3 (dv (S.1 2) j L)) (a := lo) (b := hi) (S := tS S (o3 (j + L)) (o3 j) f) with ⟨h, h1⟩ | ⟨h, h1, h2⟩
      · rw [o3_int (by omega)] at h1
        rw [h, bd_some, if_pos rfl, ffail, if_neg (c := L ≤ 5 ∧ _) (fun q => h1 q.2), if_neg (by omega)]
      · rw [o3_int (by omega)] at h1 h2
        rw [h, bd_some, if_neg (by decide), if_pos (c := L ≤ 5 ∧ _) ⟨by omega, h1, h2⟩, if_pos rfl]
end CT
end
noncomputable section
/-! the reference's tape -/
def llf (t : Nat → Int32) (n : Nat) : Nat → Nat → Nat
  | 0, _ => 0
  | f + 1, i => if ltr t n i = true then llf t n f (i + 1) + 1 else 0
/-- how many small letters stand there -/
theorem ll_ex : ∃ f : (Nat → Int32) → Nat → Nat → Nat, ∀ t n i, f t n i = llf t n (n - i) i := ⟨fun t n i => llf t n (n - i) i, fun _ _ _ => rfl⟩
noncomputable def ll (t : Nat → Int32) (n i : Nat) : Nat := Classical.choose ll_ex t n i
theorem ll_df {t : Nat → Int32} {n i : Nat} : ll t n i = llf t n (n - i) i := Classical.choose_spec ll_ex t n i
theorem ll_1 {t : Nat → Int32} {n i : Nat} (h : ltr t n i = true) : ll t n i = ll t n (i + 1) + 1 := by
  rw [ll_df, ll_df]
  have := (ltr_iff.mp h).1
  rw [show n - i = (n - (i + 1)) + 1 by omega]
  exact if_pos h
theorem ll_0 {t : Nat → Int32} {n i : Nat} (h : ¬ ltr t n i = true) : ll t n i = 0 := by
  rw [ll_df]
  cases n - i with
  | zero => rfl
  | succ f => exact if_neg h
theorem ll_le {t : Nat → Int32} {n : Nat} : ∀ d i, n - i = d → i ≤ n → i + ll t n i ≤ n := by
  intro d
  induction d with
  | zero =>
    intro i h h2
    rw [ll_0 (fun q => by have := (ltr_iff.mp q).1; omega)]; omega
  | succ d ih =>
    intro i h h2
    by_cases hc : ltr t n i = true
    · rw [ll_1 hc]
      have := ih (i + 1) (by omega) (by omega)
      omega
    · rw [ll_0 hc]; omega
theorem ll_lt {t : Nat → Int32} {n : Nat} : ∀ k i, k < ll t n i → ltr t n (i + k) = true := by
  intro k
  induction k with
  | zero =>
    intro i h
    by_cases hc : ltr t n i = true
    · exact hc
    · rw [ll_0 hc] at h; omega
  | succ k ih =>
    intro i h
    by_cases hc : ltr t n i = true
    · rw [ll_1 hc] at h
      rw [show i + (k + 1) = i + 1 + k by omega]
      exact ih (i + 1) (by omega)
    · rw [ll_0 hc] at h; omega
theorem ll_sub {t : Nat → Int32} {n j : Nat} : ∀ k, k ≤ ll t n j → ll t n (j + k) = ll t n j - k := by
  intro k
  induction k with
  | zero => intro _; rfl
  | succ k ih =>
    intro h
    have h1 := ih (by omega)
    have h3 := ll_1 (ll_lt (t := t) (n := n) k j (by omega))
    rw [show j + (k + 1) = j + k + 1 by omega]
    omega
/-- the word's letters as one number -/
def pk (t : Nat → Int32) (i : Nat) : Nat → Nat
  | 0 => 0
  | k + 1 => pk t i k * 256 + (t (i + k)).toInt.toNat
def pkW (w : List Int32) : Nat := pk (fun m => w.getD m 0) 0 w.length
def isL (x : Int32) : Prop := 97 ≤ x.toInt ∧ x.toInt ≤ 122
theorem pk_inj {t t' : Nat → Int32} {i i' : Nat} : ∀ k k', (∀ m, m < k → isL (t (i + m))) → (∀ m, m < k' → isL (t' (i' + m))) → pk t i k = pk t' i' k' → k = k' ∧ ∀ m, m < k → t (i + m) = t' (i' + m) := by
  intro k
  induction k with
  | zero =>
    intro k' _ h2 e
    cases k' with
    | zero => exact ⟨rfl, fun m h => absurd h (Nat.not_lt_zero _)⟩
    | succ k' =>
      have h := h2 k' (Nat.lt_succ_self _)
      have e : 0 = pk t' i' k' * 256 + (t' (i' + k')).toInt.toNat := e
      have := h.1
      omega
  | succ k ih =>
    intro k' h1 h2 e
    have g := h1 k (Nat.lt_succ_self _)
    have g1 := g.1
    have g2 := g.2
    cases k' with
    | zero =>
      have e : pk t i k * 256 + (t (i + k)).toInt.toNat = 0 := e
      omega
    | succ k' =>
      have f := h2 k' (Nat.lt_succ_self _)
      have f1 := f.1
      have f2 := f.2
      have e : pk t i k * 256 + (t (i + k)).toInt.toNat = pk t' i' k' * 256 + (t' (i' + k')).toInt.toNat := e
      have e1 : pk t i k = pk t' i' k' := by omega
      have e2 : (t (i + k)).toInt = (t' (i' + k')).toInt := by omega
      obtain ⟨rfl, h⟩ := ih k' (fun m hm => h1 m (by omega)) (fun m hm => h2 m (by omega)) e1
      refine ⟨rfl, fun m hm => ?_⟩
      by_cases hk : m = k
      · subst hk; exact ni_eq.mpr e2
      · exact h m (by omega)
theorem pk_cg {t t' : Nat → Int32} {i i' : Nat} : ∀ k, (∀ m, m < k → t (i + m) = t' (i' + m)) → pk t i k = pk t' i' k := by
  intro k
  induction k with
  | zero => intro _; rfl
  | succ k ih =>
    intro h
    show pk t i k * 256 + (t (i + k)).toInt.toNat = pk t' i' k * 256 + (t' (i' + k)).toInt.toNat
    rw [ih (fun m hm => h m (by omega)), h k (by omega)]
theorem pkk_lt {t : Nat → Int32} {i : Nat} : ∀ k, (∀ m, m < k → isL (t (i + m))) → pk t i k < 256 ^ k ∧ 2 * pk t i k < 256 ^ k ∨ k = 0 := by
  intro k
  induction k with
  | zero => intro _; exact Or.inr rfl
  | succ k ih =>
    intro h
    have g := h k (Nat.lt_succ_self _)
    have g1 := g.1
    have g2 := g.2
    refine Or.inl ?_
    show pk t i k * 256 + (t (i + k)).toInt.toNat < 256 ^ (k + 1) ∧ 2 * (pk t i k * 256 + (t (i + k)).toInt.toNat) < 256 ^ (k + 1)
    rw [Nat.pow_succ]
    rcases ih (fun m hm => h m (by omega)) with h1 | rfl
    · omega
    · have : pk t i 0 = 0 := rfl
      rw [this]
      omega
theorem wat_ll {t : Nat → Int32} {n : Nat} : ∀ (w : List Int32) (j : Nat), (∀ c ∈ w, isL c) → (wat t n w j = true ↔ ll t n j = w.length ∧ ∀ m, m < w.length → t (j + m) = w.getD m 0) := by
  intro w
  induction w with
  | nil =>
    intro j _
    show (!ltr t n j) = true ↔ ll t n j = 0 ∧ _
    constructor
    · intro h
      refine ⟨ll_0 (fun q => ?_), fun m hm => absurd hm (Nat.not_lt_zero _)⟩
      rw [q] at h; exact absurd h (by decide)
    · intro h
      cases hq : ltr t n j
      · rfl
      · have := ll_1 hq; omega
  | cons c w ih =>
    intro j hc
    have hcl := hc c List.mem_cons_self
    have hi := ih (j + 1) (fun x hx => hc x (List.mem_cons_of_mem _ hx))
    show (decide (j < n ∧ t j = c) && wat t n w (j + 1)) = true ↔ ll t n j = w.length + 1 ∧ _
    rw [Bool.and_eq_true, decide_eq_true_iff, hi]
    constructor
    · rintro ⟨⟨h1, h2⟩, h3, h4⟩
      have hl : ltr t n j = true := ltr_iff.mpr ⟨h1, by rw [h2]; exact hcl⟩
      refine ⟨by rw [ll_1 hl, h3], fun m hm => ?_⟩
      cases m with
      | zero => exact h2
      | succ m =>
        have hm : m + 1 < w.length + 1 := hm
        rw [show j + (m + 1) = j + 1 + m by omega]
        exact h4 m (by omega)
    · rintro ⟨h1, h2⟩
      have hl : ltr t n j = true := by
        cases hq : ltr t n j
        · rw [ll_0 (by rw [hq]; decide)] at h1; omega
        · rfl
      rw [ll_1 hl] at h1
      refine ⟨⟨(ltr_iff.mp hl).1, h2 0 (Nat.succ_pos _)⟩, by omega, fun m hm => ?_⟩
      have := h2 (m + 1) (Nat.succ_lt_succ hm)
      rw [show j + 1 + m = j + (m + 1) by omega]
      exact this
theorem wat_pk {t : Nat → Int32} {n j : Nat} {w : List Int32} (hw : ∀ c ∈ w, isL c) : wat t n w j = true ↔ pk t j (ll t n j) = pkW w := by
  have hw2 : ∀ m, m < w.length → isL (w.getD (0 + m) 0) := fun m hm => by
    rw [show 0 + m = m from Nat.zero_add m, List.getD_eq_getElem?_getD, List.getElem?_eq_getElem hm]
    exact hw _ (List.getElem_mem hm)
  rw [wat_ll w j hw]
  constructor
  · rintro ⟨h1, h2⟩
    rw [h1]
    exact pk_cg _ (fun m hm => by rw [show 0 + m = m from Nat.zero_add m]; exact h2 m hm)
  · intro h
    obtain ⟨h1, h2⟩ := pk_inj _ _ (fun m hm => (ltr_iff.mp (ll_lt m j hm)).2) hw2 h
    exact ⟨h1, fun m hm => by have := h2 m (Nat.lt_of_lt_of_eq hm h1.symm); rw [show 0 + m = m from Nat.zero_add m] at this; exact this⟩
def mS (S : fS) (i w u : Int32) : fS := pI (pI (pI S 145 13 i) 145 14 w) 145 15 u
theorem mS_nx {S : fS} {i w u j : Int32} : pI (mS S i w u) 145 13 j = mS S j w u := by
  unfold mS
  rw [pI_sw (by decide), pI_sw (a := 145) (k := 14) (by decide), pI_pI]
theorem mS_wr {S : fS} {i w u j : Int32} : pI (mS S i w u) 145 14 j = mS S i j u := by
  unfold mS
  rw [pI_sw (by decide), pI_pI]
theorem mS_nu {S : fS} {i w u j : Int32} : pI (mS S i w u) 145 15 j = mS S i w j := by
  unfold mS
  rw [pI_pI]
theorem mS_13 {S : fS} {i w u : Int32} : (mS S i w u).1 145 13 = i := id rfl
theorem mS_14 {S : fS} {i w u : Int32} : (mS S i w u).1 145 14 = w := id rfl
theorem mS_15 {S : fS} {i w u : Int32} : (mS S i w u).1 145 15 = u := id rfl
theorem mS_1 {S : fS} {i w u : Int32} : (mS S i w u).1 145 1 = S.1 145 1 := id rfl
theorem mS_t {S : fS} {i w u : Int32} : (mS S i w u).1 146 = S.1 146 := id rfl
theorem mS_of {S : fS} : mS S (S.1 145 13) (S.1 145 14) (S.1 145 15) = S := by
  unfold mS
  rw [pI_self, pI_self, pI_self]
section MT
variable {S : fS} {n : Nat} {w u : Int32}
theorem mt_seelp (hn : S.1 145 1 = o3 n) (hl : n ≤ 400) {K : fS → Option (Int32 × fS)} : ∀ d i m, n - i = d → i ≤ n → d < m → lp_X11_see_0 K m (mS S (o3 i) w u) = K (mS S (o3 (sk (S.1 146) n i)) w u) := by
  intro d
  induction d with
  | zero =>
    intro i m h1 h2 h3
    obtain ⟨m, rfl⟩ : ∃ m', m = m' + 1 := ⟨m - 1, by omega⟩
    rw [lp_X11_see_0.eq_2, mS_1, mS_13, hn, if_pos ((o3_le (by omega) (by omega)).mpr (by omega)), sk_0 (by omega)]
  | succ d ih =>
    intro i m h1 h2 h3
    obtain ⟨m, rfl⟩ : ∃ m', m = m' + 1 := ⟨m - 1, by omega⟩
    rw [lp_X11_see_0.eq_2, mS_1, mS_13, hn, if_neg (fun q => by have := (o3_le (by omega) (by omega)).mp q; omega), gI_o (by omega) (by omega), bd_some, mS_t]
    by_cases hb : S.1 146 i = 32
    · rw [if_pos hb, bd_some, mS_nx, o3_s, ih (i + 1) m (by omega) (by omega) (by omega), sk_1 (by omega) hb]
    · rw [if_neg hb, sk_0 (fun q => hb q.2)]
/-- what `see` answers at a place that is no blank -/
def seen (t : Nat → Int32) (n j : Nat) : Int32 := if j < n then t j &&& 255 else -1
theorem mt_see (hn : S.1 145 1 = o3 n) (hl : n ≤ 400) {i : Nat} (hi : i ≤ n) : f_X11_see (mS S (o3 i) w u) = some (seen (S.1 146) n (sk (S.1 146) n i), mS S (o3 (sk (S.1 146) n i)) w u) := by
  have hj := sk_le (t := S.1 146) hi
  unfold f_X11_see
  rw [mt_seelp hn hl (n - i) i FU rfl hi (FU_lt (by omega)), mS_1, mS_13, hn]
  unfold seen
  generalize sk (S.1 146) n i = j at hj
  by_cases h : j < n
  · rw [if_neg (fun q => by have := (o3_le (by omega) (by omega)).mp q; omega), gI_o (by omega) (by omega), bd_some, mS_t, if_pos h]
  · rw [if_pos ((o3_le (by omega) (by omega)).mpr (by omega)), if_neg h]
theorem mt_digit (hl : n ≤ 400) {X : fS} (h1 : X.1 145 1 = o3 n) {k : Nat} (hk : k < 2000000) : f_X11_isDigit (o3 k) X = some (if 0 < dl (X.1 146) n k then 1 else 0) := by
  unfold f_X11_isDigit
  rw [h1]
  by_cases hkn : k < n
  · rw [if_neg (fun q => by have := (o3_le (by omega) (by omega)).mp q; omega), gI_o (by omega) (by omega), bd_some, bd_some]
    by_cases hc : dgt (X.1 146) n k
    · obtain ⟨h1, h2, h3⟩ := hc
      rw [if_neg (fun q => by have q := ni_lt.mp q; rw [show (48 : Int32).toInt = 48 from rfl] at q; omega), if_neg (fun q => by have q := ni_lt.mp q; rw [show (57 : Int32).toInt = 57 from rfl] at q; omega), dl_1 ⟨h1, h2, h3⟩, if_pos (by omega)]
    · rw [dl_0 hc, if_neg (Nat.lt_irrefl 0)]
      by_cases h2 : X.1 146 k < 48
      · rw [if_pos h2]
      · rw [if_neg h2, if_pos]
        have h2 : ¬ (X.1 146 k).toInt < 48 := fun q => h2 (ni_lt.mpr q)
        refine ni_lt.mpr ?_
        show 57 < (X.1 146 k).toInt
        exact Int.not_le.mp (fun q => hc ⟨hkn, by omega, q⟩)
  · rw [if_pos ((o3_le (by omega) (by omega)).mpr (by omega)), dl_0 (fun q => hkn q.1), if_neg (Nat.lt_irrefl 0)]
theorem mt_letter (hl : n ≤ 400) {X : fS} (h1 : X.1 145 1 = o3 n) {k : Nat} (hk : k < 2000000) : f_X11_isLetter (o3 k) X = some (if ltr (X.1 146) n k = true then 1 else 0) := by
  unfold f_X11_isLetter
  rw [h1]
  by_cases hkn : k < n
  · rw [if_neg (fun q => by have := (o3_le (by omega) (by omega)).mp q; omega), gI_o (by omega) (by omega), bd_some, bd_some]
    by_cases hc : ltr (X.1 146) n k = true
    · obtain ⟨h1, h2, h3⟩ := ltr_iff.mp hc
      rw [if_neg (fun q => by have q := ni_lt.mp q; rw [show (97 : Int32).toInt = 97 from rfl] at q; omega), if_neg (fun q => by have q := ni_lt.mp q; rw [show (122 : Int32).toInt = 122 from rfl] at q; omega), if_pos hc]
    · rw [if_neg hc]
      by_cases h2 : X.1 146 k < 97
      · rw [if_pos h2]
      · rw [if_neg h2, if_pos]
        have h2 : ¬ (X.1 146 k).toInt < 97 := fun q => h2 (ni_lt.mpr q)
        refine ni_lt.mpr ?_
        show 122 < (X.1 146 k).toInt
        exact Int.not_le.mp (fun q => hc (ltr_iff.mpr ⟨hkn, by omega, q⟩))
  · rw [if_pos ((o3_le (by omega) (by omega)).mpr (by omega)), if_neg (fun q => hkn (ltr_iff.mp q).1)]
theorem pk_sh {x a : Nat} (hx : x < 2 ^ 56) (ha : a < 256) : (Int64.ofNat x <<< (Int32.toInt64 8 &&& 63)) ||| Int64.ofNat a = Int64.ofNat (x * 256 + a) := by
  have h8 : Int32.toInt64 8 &&& 63 = 8 := by decide
  rw [h8]
  apply Int64.toBitVec_inj.mp
  rw [Int64.toBitVec_or, Int64.toBitVec_shiftLeft]
  apply BitVec.eq_of_toNat_eq
  have e1 : (Int64.ofNat x).toBitVec = BitVec.ofNat 64 x := rfl
  have e2 : (Int64.ofNat a).toBitVec = BitVec.ofNat 64 a := rfl
  have e3 : (Int64.ofNat (x * 256 + a)).toBitVec = BitVec.ofNat 64 (x * 256 + a) := rfl
  have e4 : (Int64.toBitVec 8).smod 64 = BitVec.ofNat 64 8 := by decide
  rw [e1, e2, e3, e4, BitVec.toNat_or, BitVec.shiftLeft_eq', BitVec.toNat_shiftLeft, BitVec.toNat_ofNat, BitVec.toNat_ofNat, BitVec.toNat_ofNat, BitVec.toNat_ofNat]
  rw [Nat.mod_eq_of_lt (show x < 2 ^ 64 by omega), Nat.mod_eq_of_lt (show a < 2 ^ 64 by omega), Nat.mod_eq_of_lt (show (8 : Nat) < 2 ^ 64 by decide), Nat.mod_eq_of_lt (show x * 256 + a < 2 ^ 64 by omega)]
  rw [Nat.mod_eq_of_lt (show x <<< 8 < 2 ^ 64 by rw [Nat.shiftLeft_eq]; omega), ← Nat.shiftLeft_add_eq_or_of_lt (by omega), Nat.shiftLeft_eq]
theorem pkk_8 {t : Nat → Int32} {i k : Nat} (hk : k ≤ 8) (h : ∀ m, m < k → isL (t (i + m))) : pk t i k < 2 ^ 63 := by
  rcases pkk_lt k h with h1 | rfl
  · have h2 : 256 ^ k ≤ 256 ^ 8 := Nat.pow_le_pow_right (by decide) hk
    have h3 : (256 : Nat) ^ 8 = 2 * 2 ^ 63 := by decide
    omega
  · show 0 < _
    decide
theorem pkk_7 {t : Nat → Int32} {i k : Nat} (hk : k ≤ 7) (h : ∀ m, m < k → isL (t (i + m))) : pk t i k < 2 ^ 56 := by
  rcases pkk_lt k h with h1 | rfl
  · have h2 : 256 ^ k ≤ 256 ^ 7 := Nat.pow_le_pow_right (by decide) hk
    have h3 : (256 : Nat) ^ 7 = 2 ^ 56 := by decide
    omega
  · show 0 < _
    decide
theorem nl_ofNat {a : Nat} (h : a < 2 ^ 63) : (Int64.ofNat a).toInt = a := Int64.toInt_ofNat_of_lt h
theorem mt_wordlp (hn : S.1 145 1 = o3 n) (hl : n ≤ 400) {c : Int64} {K : Int64 → Int32 → fS → Option (Int32 × fS)} {j : Nat} (hj : j ≤ n) : ∀ d k m, k + d = ll (S.1 146) n j → d < m → lp_X11_isWord_10 c K m (Int64.ofNat (pk (S.1 146) j (min k 8))) (o3 k) (mS S (o3 j) w u) = K (Int64.ofNat (pk (S.1 146) j (min (ll (S.1 146) n j) 8))) (o3 (ll (S.1 146) n j)) (mS S (o3 j) w u) := by
  have hL := ll_le (t := S.1 146) (n := n) _ j rfl hj
  intro d
  induction d with
  | zero =>
    intro k m hk hm
    obtain ⟨m, rfl⟩ : ∃ m', m = m' + 1 := ⟨m - 1, by omega⟩
    have hk : k = ll (S.1 146) n j := hk
    have h0 := ll_sub (t := S.1 146) (n := n) (j := j) k (by omega)
    have hE : ¬ ltr (S.1 146) n (j + k) = true := fun q => by
      have := ll_1 q
      omega
    rw [lp_X11_isWord_10.eq_2, mS_13, o3_add, mt_letter hl (X := mS S (o3 j) w u) (by rw [mS_1, hn]) (by omega), bd_some, mS_t, if_neg hE, if_pos rfl, hk]
  | succ d ih =>
    intro k m hk hm
    obtain ⟨m, rfl⟩ : ∃ m', m = m' + 1 := ⟨m - 1, by omega⟩
    have hg := ll_lt (t := S.1 146) (n := n) k j (by omega)
    obtain ⟨g1, g2, g3⟩ := ltr_iff.mp hg
    rw [lp_X11_isWord_10.eq_2, mS_13, o3_add, mt_letter hl (X := mS S (o3 j) w u) (by rw [mS_1, hn]) (by omega), bd_some, mS_t, if_pos hg, if_neg (by decide)]
    by_cases h8 : 8 ≤ k
    · rw [show (8 : Int32) = o3 8 from rfl, if_pos ((o3_le (by omega) (by omega)).mpr h8), o3_s, show min k 8 = min (k + 1) 8 by omega]
      exact ih (k + 1) m (by omega) (by omega)
    · rw [if_neg (show ¬ (8 : Int32) ≤ o3 _ from fun q => h8 ((o3_le (a := 8) (by omega) (by omega)).mp q)), gI_o (by omega) (by omega), bd_some, mS_t, o3_s, ← ih (k + 1) m (by omega) (by omega)]
      obtain ⟨b, hb, hb2⟩ := o3_ex (x := S.1 146 (j + k)) (by omega)
      have h64 : Int32.toInt64 (S.1 146 (j + k)) = Int64.ofNat b := nl_eq.mpr (by rw [Int32.toInt_toInt64, nl_ofNat (by omega), hb2])
      rw [h64, show min k 8 = k by omega, show min (k + 1) 8 = k + 1 by omega, pk_sh (pkk_7 (by omega) (fun q hq => (ltr_iff.mp (ll_lt (n := n) q j (by omega))).2)) (by omega)]
      have e : pk (S.1 146) j k * 256 + b = pk (S.1 146) j (k + 1) := by
        show _ = pk (S.1 146) j k * 256 + (S.1 146 (j + k)).toInt.toNat
        omega
      rw [e]
theorem mt_isWord (hn : S.1 145 1 = o3 n) (hl : n ≤ 400) {c : Int64} {W : List Int32} (hW : ∀ x ∈ W, isL x) (h1 : 0 < W.length) (h8 : W.length ≤ 8) (hc : c = Int64.ofNat (pkW W)) {i : Nat} (hi : i ≤ n) : f_X11_isWord c (mS S (o3 i) w u) = some (if wat (S.1 146) n W (sk (S.1 146) n i) = true then 1 else 0, mS S (o3 (sk (S.1 146) n i)) w u) := by
  have hj := sk_le (t := S.1 146) hi
  unfold f_X11_isWord
  rw [mt_see hn hl hi, bd_some]
  show lp_X11_isWord_10 c _ FU 0 0 (mS S (o3 (sk (S.1 146) n i)) w u) = _
  generalize sk (S.1 146) n i = j at hj
  have hL := ll_le (t := S.1 146) (n := n) _ j rfl hj
  have hlp := mt_wordlp hn hl (w := w) (u := u) (c := c) hj (ll (S.1 146) n j) 0 FU (by omega) (FU_lt (by omega)) (K := fun u12 u13 S14 => if u13 ≤ (0 : Int32) then (some ((0 : Int32), S14)) else
  (if (9 : Int32) ≤ u13 then (some ((0 : Int32), S14)) else
  (if u12 = c then (some ((1 : Int32), S14)) else
  (some ((0 : Int32), S14)))))
  refine Eq.trans hlp ?_
  have hlet : ∀ m, m < ll (S.1 146) n j → isL (S.1 146 (j + m)) := fun m hm => (ltr_iff.mp (ll_lt m j hm)).2
  have hW2 : ∀ m, m < W.length → isL (W.getD (0 + m) 0) := fun m hm => by
    rw [show 0 + m = m from Nat.zero_add m, List.getD_eq_getElem?_getD, List.getElem?_eq_getElem hm]
    exact hW _ (List.getElem_mem hm)
  by_cases h0 : ll (S.1 146) n j = 0
  · have hw : ¬ wat (S.1 146) n W j = true := fun q => by
      have := (pk_inj _ _ hlet hW2 ((wat_pk hW).mp q)).1
      omega
    rw [if_neg hw, h0]
    rfl
  · rw [if_neg (show ¬ o3 _ ≤ (0 : Int32) from fun q => by have := (o3_le (b := 0) (by omega) (by omega)).mp q; omega)]
    by_cases h9 : 9 ≤ ll (S.1 146) n j
    · have hw : ¬ wat (S.1 146) n W j = true := fun q => by
        have := (pk_inj _ _ hlet hW2 ((wat_pk hW).mp q)).1
        omega
      rw [if_neg hw, if_pos (show (9 : Int32) ≤ o3 _ from (o3_le (a := 9) (by omega) (by omega)).mpr h9)]
    · rw [if_neg (show ¬ (9 : Int32) ≤ o3 _ from fun q => h9 ((o3_le (a := 9) (by omega) (by omega)).mp q)), show min (ll (S.1 146) n j) 8 = ll (S.1 146) n j by omega, hc]
      have hpl : pk (S.1 146) j (ll (S.1 146) n j) < 2 ^ 63 := pkk_8 (by omega) hlet
      by_cases hw : wat (S.1 146) n W j = true
      · rw [if_pos hw, (wat_pk hW).mp hw, if_pos rfl]
      · rw [if_neg hw, if_neg]
        intro q
        have q := nl_eq.mp q
        have hpw : pkW W < 2 ^ 63 := pkk_8 h8 hW2
        rw [nl_ofNat hpl, nl_ofNat hpw] at q
        exact hw ((wat_pk hW).mpr (Int.ofNat_inj.mp q))
theorem mt_passlp (hn : S.1 145 1 = o3 n) (hl : n ≤ 400) {K : fS → Option fS} : ∀ d j m, ll (S.1 146) n j = d → j ≤ n → d < m → lp_X11_passWord_0 K m (mS S (o3 j) w u) = K (mS S (o3 (j + ll (S.1 146) n j)) w u) := by
  intro d
  induction d with
  | zero =>
    intro j m h1 h2 h3
    obtain ⟨m, rfl⟩ : ∃ m', m = m' + 1 := ⟨m - 1, by omega⟩
    have hE : ¬ ltr (S.1 146) n j = true := fun q => by
      have := ll_1 q
      omega
    rw [lp_X11_passWord_0.eq_2, mS_13, mt_letter hl (X := mS S (o3 j) w u) (by rw [mS_1, hn]) (by omega), bd_some, mS_t, if_neg hE, if_pos rfl, h1]
    rfl
  | succ d ih =>
    intro j m h1 h2 h3
    obtain ⟨m, rfl⟩ : ∃ m', m = m' + 1 := ⟨m - 1, by omega⟩
    have hg := ll_lt (t := S.1 146) (n := n) 0 j (by omega)
    have hg : ltr (S.1 146) n j = true := hg
    have h4 := ll_1 hg
    have h5 := (ltr_iff.mp hg).1
    rw [lp_X11_passWord_0.eq_2, mS_13, mt_letter hl (X := mS S (o3 j) w u) (by rw [mS_1, hn]) (by omega), bd_some, mS_t, if_pos hg, if_neg (by decide), bd_some, mS_nx, o3_s, ih (j + 1) m (by omega) (by omega) (by omega), h4, show j + 1 + ll (S.1 146) n (j + 1) = j + (ll (S.1 146) n (j + 1) + 1) by omega]
theorem mt_pass (hn : S.1 145 1 = o3 n) (hl : n ≤ 400) {j : Nat} (hj : j ≤ n) : f_X11_passWord (mS S (o3 j) w u) = some (mS S (o3 (j + ll (S.1 146) n j)) w u) := by
  have hL := ll_le (t := S.1 146) (n := n) _ j rfl hj
  unfold f_X11_passWord
  rw [mt_passlp hn hl _ j FU rfl hj (FU_lt (by omega))]
theorem mt_takes (hn : S.1 145 1 = o3 n) (hl : n ≤ 400) {c : Int64} {W : List Int32} (hW : ∀ x ∈ W, isL x) (h1 : 0 < W.length) (h8 : W.length ≤ 8) (hc : c = Int64.ofNat (pkW W)) {i : Nat} (hi : i ≤ n) : f_X11_takesWord c (mS S (o3 i) w u) = some (if wat (S.1 146) n W (sk (S.1 146) n i) = true then (1, mS S (o3 (sk (S.1 146) n i + W.length)) w u) else (0, mS S (o3 (sk (S.1 146) n i)) w u)) := by
  have hj := sk_le (t := S.1 146) hi
  unfold f_X11_takesWord
  rw [mt_isWord hn hl hW h1 h8 hc hi, bd_some]
  by_cases hw : wat (S.1 146) n W (sk (S.1 146) n i) = true
  · rw [if_pos hw, if_pos hw, if_neg (show ¬ (1 : Int32) = 0 by decide), mt_pass hn hl hj, bd_some, ((wat_ll W _ hW).mp hw).1]
  · rw [if_neg hw, if_neg hw, if_pos rfl]
theorem mt_fails {X : fS} {k p : Int32} (h : X.1 145 14 = 0) : f_X11_fails k p X = some (0, pI X 145 14 (1 + 8 * p + k)) := by
  unfold f_X11_fails
  rw [if_pos h]
  rfl
theorem mt_numlp (hn : S.1 145 1 = o3 n) (hl : n ≤ 400) {lo hi : Int32} {K : Int32 → fS → Option (Int32 × fS)} {j : Nat} (hj : j ≤ n) : ∀ d k m, k + d = dl (S.1 146) n j → d < m → lp_X11_numberHere_34 lo hi (o3 j) K m (o3 (dv (S.1 146) j (min k 5))) (mS S (o3 (j + k)) w u) = K (o3 (dv (S.1 146) j (min (dl (S.1 146) n j) 5))) (mS S (o3 (j + dl (S.1 146) n j)) w u) := by
  have hL := dl_le (t := S.1 146) (n := n) _ j rfl hj
  intro d
  induction d with
  | zero =>
    intro k m hk hm
    obtain ⟨m, rfl⟩ : ∃ m', m = m' + 1 := ⟨m - 1, by omega⟩
    have hk : k = dl (S.1 146) n j := hk
    subst hk
    have hE := dl_end (t := S.1 146) (n := n) _ j rfl
    rw [lp_X11_numberHere_34.eq_2, mS_13, mt_digit hl (X := mS S (o3 (j + dl (S.1 146) n j)) w u) (by rw [mS_1, hn]) (by omega), bd_some, mS_t, dl_0 hE, if_neg (Nat.lt_irrefl 0), if_pos rfl]
  | succ d ih =>
    intro k m hk hm
    obtain ⟨m, rfl⟩ : ∃ m', m = m' + 1 := ⟨m - 1, by omega⟩
    have hg := dl_dg (t := S.1 146) (n := n) k j (by omega)
    obtain ⟨g1, g2, g3⟩ := hg
    have hds := dl_sub (t := S.1 146) (n := n) (j := j) k (by omega)
    rw [lp_X11_numberHere_34.eq_2, mS_13, mt_digit hl (X := mS S (o3 (j + k)) w u) (by rw [mS_1, hn]) (by omega), bd_some, mS_t, if_pos (show 0 < dl (S.1 146) n (j + k) by omega), if_neg (by decide), o3_sub (by omega), show j + k - j = k by omega]
    by_cases h5 : 5 ≤ k
    · rw [o3_l, if_pos ((o3_le (by omega) (by omega)).mpr h5), bd_some, mS_nx, o3_s, show j + k + 1 = j + (k + 1) by omega, show min k 5 = min (k + 1) 5 by omega]
      exact ih (k + 1) m (by omega) (by omega)
    · rw [if_neg (show ¬ (5 : Int32) ≤ o3 _ from fun q => h5 ((o3_le (a := 5) (by omega) (by omega)).mp q)), gI_o (by omega) (by omega), bd_some, mS_t, bd_some, mS_nx, o3_s, show j + k + 1 = j + (k + 1) by omega, ← ih (k + 1) m (by omega) (by omega)]
      have hd1 := dv_5 (n := n) (t := S.1 146) (j := j) (q := k) (by omega) (by omega)
      obtain ⟨b, hb, hb2⟩ := o3_ex (x := S.1 146 (j + k)) (by omega)
      rw [show min k 5 = k by omega, show min (k + 1) 5 = k + 1 by omega]
      have e : 10 * o3 (dv (S.1 146) j k) + S.1 146 (j + k) - 48 = o3 (dv (S.1 146) j (k + 1)) := by
        show _ = o3 (dv (S.1 146) j k * 10 + ((S.1 146 (j + k)).toInt - 48).toNat)
        rw [hb, show (10 : Int32) = o3 10 from rfl, show (48 : Int32) = o3 48 from rfl, o3_mul, o3_add, o3_sub (by omega), o3_int (by omega), show 10 * dv (S.1 146) j k + b - 48 = dv (S.1 146) j k * 10 + ((b : Int) - 48).toNat by omega]
      rw [e]
/-- number here, from a state without a fault -/
theorem mt_num (hn : S.1 145 1 = o3 n) (hl : n ≤ 400) {lo hi : Int32} {i : Nat} (hi' : i ≤ n) : ∃ u', f_X11_numberHere lo hi (mS S (o3 i) 0 u) = some (if nmf (S.1 146) n i lo.toInt hi.toInt = 0 then (1, mS S (o3 (nmp (S.1 146) n i)) 0 (o3 (nmv (S.1 146) n i))) else (0, mS S (o3 (nmp (S.1 146) n i)) (o3 (nmf (S.1 146) n i lo.toInt hi.toInt)) u')) := by
  have hj := sk_le (t := S.1 146) hi'
  unfold f_X11_numberHere nmf nmv nmp
  rw [mt_see hn hl hi', bd_some]
  dsimp only
  rw [mS_13]
  generalize sk (S.1 146) n i = j at hj
  have hL := dl_le (t := S.1 146) (n := n) _ j rfl hj
  have hdk : ∀ q, q ≤ 5 → q ≤ dl (S.1 146) n j → dv (S.1 146) j q < 100000 := fun q h1 h2 => dv_5 h1 h2
  rw [mt_digit hl (X := mS S (o3 j) 0 u) (by rw [mS_1, hn]) (by omega), bd_some, mS_t]
  by_cases h0 : dl (S.1 146) n j = 0
  · refine ⟨u, ?_⟩
    rw [h0, if_neg (Nat.lt_irrefl 0), if_pos rfl, if_pos rfl, if_neg (by omega), mt_fails (by rw [mS_14]), bd_some]
    show some (0, pI (mS S (o3 j) 0 u) 145 14 _) = _
    rw [mS_wr, show (1 : Int32) = o3 1 from rfl, show (8 : Int32) = o3 8 from rfl, show (0 : Int32) = o3 0 from rfl, o3_mul, o3_add, o3_add]
    rfl
  · rw [if_pos (show 0 < dl (S.1 146) n j by omega), if_neg (show ¬ (1 : Int32) = 0 by decide)]
    have hlp := mt_numlp hn hl (lo := lo) (hi := hi) (w := 0) (u := u) hj (dl (S.1 146) n j) 0 FU (by omega) (FU_lt (by omega)) (K := fun u22 S23 => (some (pI S23 145 15 u22)).bind fun S25 =>
  if (5 : Int32) < ((S25.1 145 13) - (o3 j)) then ((f_X11_fails (1 : Int32) (o3 j) S25).bind fun q29 =>
  if q29.1 = (0 : Int32) then (some ((0 : Int32), q29.2)) else
  (some ((1 : Int32), q29.2))) else
  ((f_X11_in (Int32.toInt64 u22) (Int32.toInt64 lo) (Int32.toInt64 hi) S25).bind fun q33 =>
  if q33 = (0 : Int32) then ((f_X11_fails (1 : Int32) (o3 j) S25).bind fun q37 =>
  if q37.1 = (0 : Int32) then (some ((0 : Int32), q37.2)) else
  (some ((1 : Int32), q37.2))) else
  (some ((1 : Int32), S25))))
    rw [if_neg h0]
    generalize dl (S.1 146) n j = L at hL hdk hlp h0
    refine ⟨o3 (dv (S.1 146) j (min L 5)), Eq.trans hlp ?_⟩
    rw [bd_some, mS_nu, mS_13, o3_sub (by omega), show j + L - j = L by omega]
    have ffail : ∀ v, ((f_X11_fails 1 (o3 j) (mS S (o3 (j + L)) 0 v)).bind fun q29 => if q29.1 = (0 : Int32) then (some ((0 : Int32), q29.2)) else (some ((1 : Int32), q29.2))) = some (0, mS S (o3 (j + L)) (o3 (1 + 8 * j + 1)) v) := fun v => by
      rw [mt_fails (by rw [mS_14]), bd_some]
      show some (0, pI (mS S (o3 (j + L)) 0 v) 145 14 _) = _
      rw [mS_wr, show (1 : Int32) = o3 1 from rfl, show (8 : Int32) = o3 8 from rfl, o3_mul, o3_add, o3_add]
    by_cases h5 : 5 < L
    · rw [show (5 : Int32) = o3 5 from rfl, if_pos ((o3_lt (by omega) (by omega)).mpr h5), ffail, if_neg (c := L ≤ 5 ∧ _) (fun q => by omega), if_neg (by omega)]
    · rw [if_neg (show ¬ (5 : Int32) < o3 _ from fun q => h5 ((o3_lt (a := 5) (by omega) (by omega)).mp q)), show min L 5 = L by omega]
      have hv := hdk L (by omega) (by omega)
      rw [op_in]
      rcases op_isFrom01 (v := o3 (dv (S.1 146) j L)) (a := lo) (b := hi) (S := mS S (o3 (j + L)) 0 (o3 (dv (S.1 146) j L))) with ⟨h, h1⟩ | ⟨h, h1, h2⟩
      · rw [o3_int (by omega)] at h1
        rw [h, bd_some, if_pos rfl, ffail, if_neg (c := L ≤ 5 ∧ _) (fun q => h1 q.2), if_neg (by omega)]
      · rw [o3_int (by omega)] at h1 h2
        rw [h, bd_some, if_neg (by decide), if_pos (c := L ≤ 5 ∧ _) ⟨by omega, h1, h2⟩, if_pos rfl]
end MT
end
noncomputable section
/-! small numbers of 64 bits -/
def o6 (k : Nat) : Int64 := Int64.ofNat k
theorem o6_int {k : Nat} (h : k < 9223372036854775808) : (o6 k).toInt = k := Int64.toInt_ofNat_of_lt h
theorem o6_lt {a b : Nat} (ha : a < 9223372036854775808) (hb : b < 9223372036854775808) : o6 a < o6 b ↔ a < b := by
  rw [nl_lt, o6_int ha, o6_int hb]; omega
theorem o6_le {a b : Nat} (ha : a < 9223372036854775808) (hb : b < 9223372036854775808) : o6 a ≤ o6 b ↔ a ≤ b := by
  rw [nl_le, o6_int ha, o6_int hb]; omega
theorem o6_inj {a b : Nat} (ha : a < 9223372036854775808) (hb : b < 9223372036854775808) : o6 a = o6 b ↔ a = b := by
  rw [nl_eq, o6_int ha, o6_int hb]; omega
theorem o6_add {a b : Nat} : o6 a + o6 b = o6 (a + b) := (Int64.ofNat_add a b).symm
theorem o6_mul {a b : Nat} : o6 a * o6 b = o6 (a * b) := (Int64.ofNat_mul a b).symm
theorem o6_sub {a b : Nat} (h : b ≤ a) : o6 a - o6 b = o6 (a - b) := (Int64.ofNat_sub a b h).symm
theorem o6_nn {a : Nat} (ha : a < 9223372036854775808) : ¬ o6 a < 0 := by
  rw [nl_lt, o6_int ha, nl_0]; omega
theorem o6_0le {a : Nat} (ha : a < 9223372036854775808) : 0 ≤ o6 a := by
  rw [nl_le, o6_int ha, nl_0]; omega
theorem o6_of3 {a : Nat} (ha : a < 2147483648) : Int32.toInt64 (o3 a) = o6 a := nl_eq.mpr (by rw [Int32.toInt_toInt64, o3_int ha, o6_int (by omega)])
theorem o6_to3 {a : Nat} (ha : a < 2147483648) : Int64.toInt32 (o6 a) = o3 a := by
  rw [← o6_of3 ha, Int32.toInt32_toInt64]
theorem o6_div {a b : Nat} (ha : a < 9223372036854775808) (hb : b < 9223372036854775808) : o6 a / o6 b = o6 (a / b) := by
  have h1 : a / b ≤ a := Nat.div_le_self a b
  rw [nl_eq, Int64.toInt_div, o6_int ha, o6_int hb, o6_int (by omega)]
  have e : (a : Int).tdiv (b : Int) = ((a / b : Nat) : Int) := by
    rw [Int.tdiv_eq_ediv_of_nonneg (by omega)]
    exact (Int.natCast_ediv a b).symm
  rw [e]
  clear e
  generalize a / b = q at h1
  exact nl_bm (by omega) (by omega)
theorem o6_ne0 {a : Nat} (ha : a < 9223372036854775808) (h : a ≠ 0) : o6 a ≠ 0 := by
  intro q
  exact h ((o6_inj (b := 0) ha (by omega)).mp q)
theorem o6_dL {a b : Nat} (ha : a < 9223372036854775808) (hb : b < 9223372036854775808) (h : b ≠ 0) : dL (o6 a) (o6 b) = some (o6 (a / b)) := by
  unfold dL
  rw [if_neg (o6_ne0 hb h), o6_div ha hb]
theorem o6_rL {a b : Nat} (ha : a < 9223372036854775808) (hb : b < 9223372036854775808) (h : b ≠ 0) : rL (o6 a) (o6 b) = some (o6 (a % b)) := by
  unfold rL
  have hd : a / b * b ≤ a := Nat.div_mul_le_self a b
  have hm : a % b = a - a / b * b := by
    have := Nat.div_add_mod a b
    rw [Nat.mul_comm] at this
    omega
  rw [if_neg (o6_ne0 hb h), o6_div ha hb, o6_mul, o6_sub hd, hm]
theorem o6_of {x : Int64} (h : 0 ≤ x.toInt) : ∃ k, x = o6 k ∧ (k : Int) = x.toInt := ⟨x.toNatClampNeg, by rw [nl_eq, o6_int (by have := nl_nat h; have := nl_hi x; omega), nl_nat h], nl_nat h⟩
theorem pL_pI {S : fS} {a k b j : Nat} {x : Int32} {y : Int64} : pL (pI S a k x) b j y = pI (pL S b j y) a k x := rfl
/-- a rate in parts of the whole -/
def pc (q : Nat × Nat) : Int64 := o6 (q.1 * (232792560 / q.2))
theorem gd_app {α : Type} {l : List α} {x d : α} {k : Nat} : (l ++ [x]).getD k d = if k = l.length then x else l.getD k d := by
  by_cases h : k = l.length
  · rw [if_pos h, h, List.getD_eq_getElem?_getD, List.getElem?_append_right (Nat.le_refl _), Nat.sub_self]; rfl
  · rw [if_neg h, List.getD_eq_getElem?_getD, List.getD_eq_getElem?_getD]
    by_cases h2 : k < l.length
    · rw [List.getElem?_append_left h2]
    · rw [List.getElem?_append_right (by omega), List.getElem?_eq_none (by show 1 ≤ _; omega), List.getElem?_eq_none (by omega)]
theorem ln_app {α : Type} {l : List α} {x : α} : (l ++ [x]).length = l.length + 1 := List.length_append
end
noncomputable section
/-! a tower's text: floors, stairs, things as they are told -/
abbrev TB : Type := List (Nat × Nat) × List (Nat × Nat × Nat × Nat × Nat) × List Nat
def tFl (t : Nat → Int32) (n : Nat) (B : TB) (i : Nat) : Nat × Nat × TB :=
  if nmf t n i 1 20 = 0 then (if nmf t n (nmp t n i) 1 20 = 0 then (0, nmp t n (nmp t n i), (B.1 ++ [(nmv t n i, nmv t n (nmp t n i))], B.2)) else (nmf t n (nmp t n i) 1 20, 0, B)) else (nmf t n i 1 20, 0, B)
def tPc (t : Nat → Int32) (n : Nat) (B : TB) (a b c : Nat) (i : Nat) : Nat × Nat × TB :=
  if nmf t n i 1 20 = 0 then (if nmf t n (nmp t n i) 1 20 = 0 then (0, nmp t n (nmp t n i), (B.1, B.2.1 ++ [(a, b, c, nmv t n i, nmv t n (nmp t n i))], B.2.2)) else (nmf t n (nmp t n i) 1 20, 0, B)) else (nmf t n i 1 20, 0, B)
def tSt (t : Nat → Int32) (n : Nat) (B : TB) (i : Nat) : Nat × Nat × TB :=
  if nmf t n i 0 (B.1.length - 1) = 0 then
    (if nmf t n (nmp t n i) 0 (B.1.length - 1) = 0 then
      (if nmv t n i = nmv t n (nmp t n i) then (1 + 8 * sk t n (nmp t n i) + 1, 0, B) else
        (if nmf t n (nmp t n (nmp t n i)) 1 9 = 0 then tPc t n B (nmv t n i) (nmv t n (nmp t n i)) (nmv t n (nmp t n (nmp t n i))) (nmp t n (nmp t n (nmp t n i)))
          else (nmf t n (nmp t n (nmp t n i)) 1 9, 0, B)))
      else (nmf t n (nmp t n i) 0 (B.1.length - 1), 0, B))
    else (nmf t n i 0 (B.1.length - 1), 0, B)
def tTh (t : Nat → Int32) (n : Nat) (B : TB) (i : Nat) : Nat × Nat × TB :=
  if nmf t n i 0 (B.1.length - 1) = 0 then (0, nmp t n i, (B.1, B.2.1, B.2.2 ++ [nmv t n i])) else (nmf t n i 0 (B.1.length - 1), 0, B)
def tcl (t : Nat → Int32) (n c : Nat) (B : TB) (i : Nat) : Nat × Nat × TB :=
  if wat t n (mm_sb.getD 0 []) (sk t n i) = true then (if 10 ≤ B.1.length ∨ 24 ≤ c then (1 + 8 * sk t n i + 4, 0, B) else tFl t n B (sk t n i + 5))
  else if wat t n (mm_sb.getD 1 []) (sk t n i) = true then (if 12 ≤ B.2.1.length ∨ 24 ≤ c then (1 + 8 * sk t n i + 4, 0, B) else tSt t n B (sk t n i + 5))
  else if wat t n (mm_sb.getD 2 []) (sk t n i) = true then (if 8 ≤ B.2.2.length ∨ 24 ≤ c then (1 + 8 * sk t n i + 4, 0, B) else tTh t n B (sk t n i + 5))
  else (1 + 8 * sk t n i, 0, B)
/-- all clauses: 0 and what was told, or the fault -/
def tall (t : Nat → Int32) (n : Nat) : Nat → Nat → Nat → TB → Nat × TB
  | 0, _, _, B => (1, B)
  | f + 1, c, i, B => if (tcl t n c B i).1 = 0 then
      (if sk t n (tcl t n c B i).2.1 < n then (if t (sk t n (tcl t n c B i).2.1) = 59 then tall t n f (c + 1) (sk t n (tcl t n c B i).2.1 + 1) (tcl t n c B i).2.2 else (1 + 8 * sk t n (tcl t n c B i).2.1, (tcl t n c B i).2.2)) else (0, (tcl t n c B i).2.2))
    else ((tcl t n c B i).1, B)
def okF (q : Nat × Nat) : Prop := 1 ≤ q.1 ∧ q.1 ≤ 20 ∧ 1 ≤ q.2 ∧ q.2 ≤ 20
def okS (m : Nat) (q : Nat × Nat × Nat × Nat × Nat) : Prop := q.1 < m ∧ q.2.1 < m ∧ q.1 ≠ q.2.1 ∧ 1 ≤ q.2.2.1 ∧ q.2.2.1 ≤ 9 ∧ okF q.2.2.2
def okB (B : TB) : Prop := B.1.length ≤ 10 ∧ B.2.1.length ≤ 12 ∧ B.2.2.length ≤ 8 ∧ (∀ q ∈ B.1, okF q) ∧ (∀ q ∈ B.2.1, okS B.1.length q) ∧ (∀ q ∈ B.2.2, q < B.1.length)
theorem okS_mo {m k : Nat} (h : m ≤ k) {q : Nat × Nat × Nat × Nat × Nat} (hq : okS m q) : okS k q := ⟨Nat.lt_of_lt_of_le hq.1 h, Nat.lt_of_lt_of_le hq.2.1 h, hq.2.2⟩
section TS
variable {t : Nat → Int32} {n : Nat} {B : TB} {i : Nat}
theorem tFl_ok (hB : okB B) (h10 : B.1.length < 10) (h : (tFl t n B i).1 = 0) : okB (tFl t n B i).2.2 := by
  unfold tFl at h ⊢
  by_cases h1 : nmf t n i 1 20 = 0
  · rw [if_pos h1] at h ⊢
    by_cases h2 : nmf t n (nmp t n i) 1 20 = 0
    · rw [if_pos h2] at h ⊢
      obtain ⟨b1, b2, b3, b4, b5, b6⟩ := hB
      have g1 := (nmf_0 h1).2.2
      have g2 := (nmf_0 h2).2.2
      refine ⟨?_, b2, b3, ?_, ?_, ?_⟩
      · show (B.1 ++ [_]).length ≤ 10
        rw [ln_app]; omega
      · intro q hq
        rcases List.mem_append.mp hq with hq | hq
        · exact b4 q hq
        · rw [List.mem_singleton.mp hq]
          exact ⟨by show 1 ≤ nmv t n i; omega, by show nmv t n i ≤ 20; omega, by show 1 ≤ nmv t n _; omega, by show nmv t n _ ≤ 20; omega⟩
      · intro q hq
        refine okS_mo ?_ (b5 q hq)
        show _ ≤ (B.1 ++ [_]).length
        rw [ln_app]; omega
      · intro q hq
        have := b6 q hq
        show _ < (B.1 ++ [_]).length
        rw [ln_app]; omega
    · rw [if_neg h2] at h; exact absurd h h2
  · rw [if_neg h1] at h; exact absurd h h1
theorem tPc_ok {a b c : Nat} (hB : okB B) (h12 : B.2.1.length < 12) (ha : a < B.1.length) (hb : b < B.1.length) (hab : a ≠ b) (hc : 1 ≤ c ∧ c ≤ 9) (h : (tPc t n B a b c i).1 = 0) : okB (tPc t n B a b c i).2.2 := by
  unfold tPc at h ⊢
  by_cases h1 : nmf t n i 1 20 = 0
  · rw [if_pos h1] at h ⊢
    by_cases h2 : nmf t n (nmp t n i) 1 20 = 0
    · rw [if_pos h2] at h ⊢
      obtain ⟨b1, b2, b3, b4, b5, b6⟩ := hB
      have g1 := (nmf_0 h1).2.2
      have g2 := (nmf_0 h2).2.2
      refine ⟨b1, ?_, b3, b4, ?_, b6⟩
      · show (B.2.1 ++ [_]).length ≤ 12
        rw [ln_app]; omega
      · intro q hq
        rcases List.mem_append.mp hq with hq | hq
        · exact b5 q hq
        · rw [List.mem_singleton.mp hq]
          exact ⟨ha, hb, hab, hc.1, hc.2, by show 1 ≤ nmv t n i; omega, by show nmv t n i ≤ 20; omega, by show 1 ≤ nmv t n _; omega, by show nmv t n _ ≤ 20; omega⟩
    · rw [if_neg h2] at h; exact absurd h h2
  · rw [if_neg h1] at h; exact absurd h h1
theorem tSt_ok (hB : okB B) (h12 : B.2.1.length < 12) (h : (tSt t n B i).1 = 0) : okB (tSt t n B i).2.2 := by
  unfold tSt at h ⊢
  by_cases h1 : nmf t n i 0 (B.1.length - 1) = 0
  · rw [if_pos h1] at h ⊢
    by_cases h2 : nmf t n (nmp t n i) 0 (B.1.length - 1) = 0
    · rw [if_pos h2] at h ⊢
      by_cases h3 : nmv t n i = nmv t n (nmp t n i)
      · rw [if_pos h3] at h
        exact absurd h (by show ¬ (1 + 8 * _ + 1 = 0); omega)
      · rw [if_neg h3] at h ⊢
        by_cases h4 : nmf t n (nmp t n (nmp t n i)) 1 9 = 0
        · rw [if_pos h4] at h ⊢
          have g1 := (nmf_0 h1).2.2
          have g2 := (nmf_0 h2).2.2
          have g4 := (nmf_0 h4).2.2
          exact tPc_ok hB h12 (by omega) (by omega) h3 (by omega) h
        · rw [if_neg h4] at h; exact absurd h h4
    · rw [if_neg h2] at h; exact absurd h h2
  · rw [if_neg h1] at h; exact absurd h h1
theorem tTh_ok (hB : okB B) (h8 : B.2.2.length < 8) (h : (tTh t n B i).1 = 0) : okB (tTh t n B i).2.2 := by
  unfold tTh at h ⊢
  by_cases h1 : nmf t n i 0 (B.1.length - 1) = 0
  · rw [if_pos h1] at h ⊢
    obtain ⟨b1, b2, b3, b4, b5, b6⟩ := hB
    have g1 := (nmf_0 h1).2.2
    refine ⟨b1, b2, ?_, b4, b5, ?_⟩
    · show (B.2.2 ++ [_]).length ≤ 8
      rw [ln_app]; omega
    · intro q hq
      rcases List.mem_append.mp hq with hq | hq
      · exact b6 q hq
      · rw [List.mem_singleton.mp hq]
        show nmv t n i < B.1.length
        omega
  · rw [if_neg h1] at h; exact absurd h h1
theorem tcl_ok {c : Nat} (hB : okB B) (h : (tcl t n c B i).1 = 0) : okB (tcl t n c B i).2.2 ∧ c < 24 := by
  unfold tcl at h ⊢
  by_cases h1 : wat t n (mm_sb.getD 0 []) (sk t n i) = true
  · rw [if_pos h1] at h ⊢
    by_cases h2 : 10 ≤ B.1.length ∨ 24 ≤ c
    · rw [if_pos h2] at h; exact absurd h (by show ¬ (1 + 8 * _ + 4 = 0); omega)
    · rw [if_neg h2] at h ⊢
      exact ⟨tFl_ok hB (by omega) h, by omega⟩
  · rw [if_neg h1] at h ⊢
    by_cases h3 : wat t n (mm_sb.getD 1 []) (sk t n i) = true
    · rw [if_pos h3] at h ⊢
      by_cases h2 : 12 ≤ B.2.1.length ∨ 24 ≤ c
      · rw [if_pos h2] at h; exact absurd h (by show ¬ (1 + 8 * _ + 4 = 0); omega)
      · rw [if_neg h2] at h ⊢
        exact ⟨tSt_ok hB (by omega) h, by omega⟩
    · rw [if_neg h3] at h ⊢
      by_cases h4 : wat t n (mm_sb.getD 2 []) (sk t n i) = true
      · rw [if_pos h4] at h ⊢
        by_cases h2 : 8 ≤ B.2.2.length ∨ 24 ≤ c
        · rw [if_pos h2] at h; exact absurd h (by show ¬ (1 + 8 * _ + 4 = 0); omega)
        · rw [if_neg h2] at h ⊢
          exact ⟨tTh_ok hB (by omega) h, by omega⟩
      · rw [if_neg h4] at h; exact absurd h (by show ¬ (1 + 8 * _ = 0); omega)
end TS
end
noncomputable section
/-! the class reads a tower -/
def d5 : Nat × Nat × Nat × Nat × Nat := (0, 0, 0, 0, 0)
def twC (S : fS) (b : Nat) (F : List (Nat × Nat)) (E : List (Nat × Nat × Nat × Nat × Nat)) : Prop := S.1 b 6 = o3 F.length ∧ S.1 b 7 = o3 E.length ∧ (∀ k, k < F.length → S.2 (b + 1) k = pc (F.getD k (0, 0))) ∧ (∀ k, k < E.length → S.1 (b + 2) k = o3 (E.getD k d5).1 ∧ S.1 (b + 3) k = o3 (E.getD k d5).2.1 ∧ S.1 (b + 4) k = o3 (E.getD k d5).2.2.1 ∧ S.2 (b + 5) k = pc (E.getD k d5).2.2.2)
def cwC0 (S : fS) (c : Nat) (H : List Nat) : Prop := S.1 c 5 = o3 H.length ∧ S.1 c 6 = 0 ∧ ∀ k, k < H.length → S.1 (c + 1) k = o3 (H.getD k 0) ∧ S.1 (c + 2) k = -1 ∧ S.1 (c + 3) k = 0 ∧ S.1 (c + 4) k = -1 ∧ S.2 (c + 5) k = 0
def TBc (S : fS) (B : TB) : Prop := twC S 24 B.1 B.2.1 ∧ cwC0 S 31 B.2.2
theorem tS_pI {S : fS} {i s f x : Int32} {a k : Nat} (h : a ≠ 1) : pI (tS S i s f) a k x = tS (pI S a k x) i s f := by
  unfold tS
  rw [pI_sw (fun q => h q.1.symm), pI_sw (a := 1) (k := 3) (fun q => h q.1.symm), pI_sw (a := 1) (k := 2) (fun q => h q.1.symm)]
theorem tS_pL {S : fS} {i s f : Int32} {a k : Nat} {x : Int64} : pL (tS S i s f) a k x = tS (pL S a k x) i s f := rfl
theorem tS_ne {S : fS} {i s f : Int32} {a k : Nat} (h : a ≠ 1) : (tS S i s f).1 a k = S.1 a k := by
  unfold tS
  rw [pI_get, pI_get, pI_get, if_neg (fun q => h q.1), if_neg (fun q => h q.1), if_neg (fun q => h q.1)]
theorem tS_L {S : fS} {i s f : Int32} : (tS S i s f).2 = S.2 := rfl
theorem l1_20 : (1 : Int32).toInt = 1 ∧ (20 : Int32).toInt = 20 ∧ (9 : Int32).toInt = 9 := ⟨rfl, rfl, rfl⟩
section CW
variable {S : fS} {n : Nat} {s f : Int32}
theorem ct_pace (hn : S.1 1 1 = o3 n) (hl : n ≤ 400) {i : Nat} (hi : i ≤ n) : f_X9_readPace (tS S (o3 i) s f) = some (if nmf (S.1 2) n i 1 20 = 0 then (if nmf (S.1 2) n (nmp (S.1 2) n i) 1 20 = 0 then (pc (nmv (S.1 2) n i, nmv (S.1 2) n (nmp (S.1 2) n i)), tS S (o3 (nmp (S.1 2) n (nmp (S.1 2) n i))) (o3 (sk (S.1 2) n (nmp (S.1 2) n i))) f) else (-1, tS S (o3 (nmp (S.1 2) n (nmp (S.1 2) n i))) (o3 (sk (S.1 2) n (nmp (S.1 2) n i))) (o3 (nmf (S.1 2) n (nmp (S.1 2) n i) 1 20)))) else (-1, tS S (o3 (nmp (S.1 2) n i)) (o3 (sk (S.1 2) n i)) (o3 (nmf (S.1 2) n i 1 20)))) := by
  have h2 := nmp_le (t := S.1 2) hi
  unfold f_X9_readPace
  rw [ct_num hn hl hi, bd_some, l1_20.1, l1_20.2.1]
  by_cases c1 : nmf (S.1 2) n i 1 20 = 0
  · have g1 := (nmf_0 c1).2.2
    rw [if_pos c1, if_pos c1]
    dsimp only
    rw [if_pos (o3_0le (by omega)), ct_num hn hl h2, bd_some, l1_20.1, l1_20.2.1]
    by_cases c2 : nmf (S.1 2) n (nmp (S.1 2) n i) 1 20 = 0
    · have g2 := (nmf_0 c2).2.2
      rw [if_pos c2, if_pos c2]
      dsimp only
      rw [if_pos (show (0 : Int32) < o3 _ from (o3_lt (a := 0) (by omega) (by omega)).mpr (by omega)), o6_of3 (by omega), o6_of3 (by omega), show (232792560 : Int64) = o6 232792560 from rfl, o6_dL (by omega) (by omega) (by omega), bd_some, o6_mul]
      rfl
    · rw [if_neg c2, if_neg c2]
      rfl
  · rw [if_neg c1, if_neg c1]
    rfl
theorem pc_lt {q : Nat × Nat} (h : okF q) : q.1 * (232792560 / q.2) < 9223372036854775808 := by
  have h1 : 232792560 / q.2 ≤ 232792560 := Nat.div_le_self _ _
  have h2 := h.2.1
  generalize 232792560 / q.2 = x at h1
  have h3 : q.1 * x ≤ 20 * 232792560 := Nat.mul_le_mul h2 h1
  omega
theorem pc_nn {q : Nat × Nat} (h : okF q) : (0 : Int64) ≤ pc q := o6_0le (pc_lt h)
def upF (S : fS) (k : Nat) (p : Int64) : fS := pI (pL S 25 k p) 24 6 (o3 (k + 1))
theorem upF_B {B : TB} {q : Nat × Nat} (hB : TBc S B) : TBc (upF S B.1.length (pc q)) (B.1 ++ [q], B.2) := by
  obtain ⟨⟨h1, h2, h3, h4⟩, h5, h6, h7⟩ := hB
  refine ⟨⟨?_, h2, fun k hk => ?_, fun k hk => h4 k hk⟩, h5, h6, fun k hk => h7 k hk⟩
  · show o3 (B.1.length + 1) = _
    rw [ln_app]
  · rw [ln_app] at hk
    show (pL S 25 B.1.length (pc q)).2 25 k = _
    rw [pL_get, gd_app]
    by_cases hc : k = B.1.length
    · rw [if_pos ⟨rfl, hc⟩, if_pos hc]
    · rw [if_neg (fun q => hc q.2), if_neg hc]
      exact h3 k (by omega)
theorem ct_floor (hn : S.1 1 1 = o3 n) (hl : n ≤ 400) {B : TB} (hB : TBc S B) (h10 : B.1.length < 10) {i : Nat} (hi : i ≤ n) : ∃ S' i' s', f_X9_readFloor (tS S (o3 i) s f) = some (if (tFl (S.1 2) n B i).1 = 0 then (1, tS S' (o3 (tFl (S.1 2) n B i).2.1) s' f) else (0, tS S i' s' (o3 (tFl (S.1 2) n B i).1))) ∧ ((tFl (S.1 2) n B i).1 = 0 → TBc S' (tFl (S.1 2) n B i).2.2) := by
  unfold f_X9_readFloor
  rw [ct_pace hn hl hi, bd_some]
  unfold tFl
  by_cases c1 : nmf (S.1 2) n i 1 20 = 0
  · have g1 := (nmf_0 c1).2.2
    rw [if_pos c1, if_pos c1]
    by_cases c2 : nmf (S.1 2) n (nmp (S.1 2) n i) 1 20 = 0
    · have g2 := (nmf_0 c2).2.2
      rw [if_pos c2, if_pos c2]
      dsimp only
      rw [if_pos (pc_nn ⟨by show 1 ≤ nmv _ _ _; omega, by show nmv _ _ _ ≤ 20; omega, by show 1 ≤ nmv _ _ _; omega, by show nmv _ _ _ ≤ 20; omega⟩), tS_ne (by decide), hB.1.1, sL_o (by omega) (by omega), bd_some, bd_some, tS_pL, tS_ne (by decide), tS_pI (by decide), pL_1, hB.1.1, o3_s]
      exact ⟨upF S B.1.length (pc (nmv (S.1 2) n i, nmv (S.1 2) n (nmp (S.1 2) n i))), 0, _, rfl, fun _ => upF_B hB⟩
    · rw [if_neg c2, if_neg c2]
      exact ⟨S, _, _, by dsimp only; rw [if_neg (by decide), if_neg c2], fun q => absurd q c2⟩
  · rw [if_neg c1, if_neg c1]
    exact ⟨S, _, _, by dsimp only; rw [if_neg (by decide), if_neg c1], fun q => absurd q c1⟩
def upS (S : fS) (k : Nat) (a b c : Int32) (p : Int64) : fS := pI (pL (pI (pI (pI S 26 k a) 27 k b) 28 k c) 29 k p) 24 7 (o3 (k + 1))
theorem upS_B {B : TB} {a b c d e : Nat} (hB : TBc S B) : TBc (upS S B.2.1.length (o3 a) (o3 b) (o3 c) (pc (d, e))) (B.1, B.2.1 ++ [(a, b, c, d, e)], B.2.2) := by
  obtain ⟨⟨h1, h2, h3, h4⟩, h5, h6, h7⟩ := hB
  refine ⟨⟨h1, ?_, fun k hk => h3 k hk, fun k hk => ?_⟩, h5, h6, fun k hk => h7 k hk⟩
  · show o3 (B.2.1.length + 1) = _
    rw [ln_app]
  · rw [ln_app] at hk
    show (pI S 26 B.2.1.length (o3 a)).1 26 k = _ ∧ (pI S 27 B.2.1.length (o3 b)).1 27 k = _ ∧ (pI S 28 B.2.1.length (o3 c)).1 28 k = _ ∧ (pL S 29 B.2.1.length (pc (d, e))).2 29 k = _
    rw [pI_get, pI_get, pI_get, pL_get, gd_app]
    by_cases hc : k = B.2.1.length
    · rw [if_pos hc, if_pos ⟨rfl, hc⟩, if_pos ⟨rfl, hc⟩, if_pos ⟨rfl, hc⟩, if_pos ⟨rfl, hc⟩]
      exact ⟨rfl, rfl, rfl, rfl⟩
    · rw [if_neg hc, if_neg (fun q => hc q.2), if_neg (fun q => hc q.2), if_neg (fun q => hc q.2), if_neg (fun q => hc q.2)]
      exact h4 k (by omega)
theorem ct_addStair {a b c : Int32} {p : Int64} {k : Nat} {i : Int32} (hk : S.1 24 7 = o3 k) (h12 : k < 12) : f_X8_addStair 24 a b c p (tS S i s f) = some (tS (upS S k a b c p) i s f) := by
  unfold f_X8_addStair
  rw [tS_ne (by decide), hk, if_neg (show ¬ (12 : Int32) ≤ o3 _ from fun q => by have := (o3_le (a := 12) (by omega) (by omega)).mp q; omega)]
  rw [sI_o (by omega) (by omega), bd_some, tS_pI (by decide), tS_ne (by decide), show (pI S (24 + 2) k a).1 24 7 = S.1 24 7 from rfl, hk]
  rw [sI_o (by omega) (by omega), bd_some, tS_pI (by decide), tS_ne (by decide), show (pI (pI S (24 + 2) k a) (24 + 3) k b).1 24 7 = S.1 24 7 from rfl, hk]
  rw [sI_o (by omega) (by omega), bd_some, tS_pI (by decide), tS_ne (by decide), show (pI (pI (pI S (24 + 2) k a) (24 + 3) k b) (24 + 4) k c).1 24 7 = S.1 24 7 from rfl, hk]
  rw [sL_o (by omega) (by omega), bd_some, tS_pL, tS_ne (by decide), show (pL (pI (pI (pI S (24 + 2) k a) (24 + 3) k b) (24 + 4) k c) (24 + 5) k p).1 24 7 = S.1 24 7 from rfl, hk, bd_some, tS_pI (by decide), o3_s]
  rfl
theorem o3_p {k : Nat} (h : k < 1000000) : (o3 k - 1).toInt = k - 1 := by
  rw [ni_sub (b := 1) (by rw [o3_int (by omega)]; show _ ≤ _ - (1 : Int); omega) (by rw [o3_int (by omega)]; show _ - (1 : Int) < _; omega), o3_int (by omega)]
  rfl
theorem ct_stair (hn : S.1 1 1 = o3 n) (hl : n ≤ 400) {B : TB} (hB : TBc S B) (hok : okB B) (h12 : B.2.1.length < 12) {i : Nat} (hi : i ≤ n) : ∃ S' i' s', f_X9_readStair (tS S (o3 i) s f) = some (if (tSt (S.1 2) n B i).1 = 0 then (1, tS S' (o3 (tSt (S.1 2) n B i).2.1) s' f) else (0, tS S i' s' (o3 (tSt (S.1 2) n B i).1))) ∧ ((tSt (S.1 2) n B i).1 = 0 → TBc S' (tSt (S.1 2) n B i).2.2) := by
  have hm : B.1.length < 1000000 := by have := hok.1; omega
  have hi1 := nmp_le (t := S.1 2) hi
  have hi2 := nmp_le (t := S.1 2) hi1
  have hi3 := nmp_le (t := S.1 2) hi2
  unfold f_X9_readStair
  rw [tS_ne (by decide), hB.1.1, ct_num hn hl hi, bd_some, o3_p hm, ni_0]
  unfold tSt
  by_cases c1 : nmf (S.1 2) n i 0 (B.1.length - 1) = 0
  · have g1 := (nmf_0 c1).2.2
    rw [if_pos c1, if_pos c1]
    dsimp only
    rw [if_pos (o3_0le (by omega)), tS_ne (by decide), hB.1.1, ct_num hn hl hi1, bd_some, o3_p hm, ni_0]
    by_cases c2 : nmf (S.1 2) n (nmp (S.1 2) n i) 0 (B.1.length - 1) = 0
    · have g2 := (nmf_0 c2).2.2
      rw [if_pos c2, if_pos c2]
      dsimp only
      rw [if_pos (o3_0le (by omega))]
      by_cases c3 : nmv (S.1 2) n i = nmv (S.1 2) n (nmp (S.1 2) n i)
      · rw [if_pos ((o3_inj (by omega) (by omega)).mpr c3), if_pos c3, ct_fail, bd_some, tS_3]
        refine ⟨S, o3 (nmp (S.1 2) n (nmp (S.1 2) n i)), o3 (sk (S.1 2) n (nmp (S.1 2) n i)), ?_, fun q => absurd q (by show ¬ (1 + 8 * _ + 1 = 0); omega)⟩
        rw [if_neg (by show ¬ (1 + 8 * _ + 1 = 0); omega)]
        show some (0, pI (tS S _ _ f) 1 4 _) = _
        rw [tS_fa, show (1 : Int32) = o3 1 from rfl, show (8 : Int32) = o3 8 from rfl, o3_mul, o3_add, o3_add]
      · rw [if_neg (fun q => c3 ((o3_inj (by omega) (by omega)).mp q)), if_neg c3, ct_num hn hl hi2, bd_some, l1_20.1, l1_20.2.2]
        by_cases c4 : nmf (S.1 2) n (nmp (S.1 2) n (nmp (S.1 2) n i)) 1 9 = 0
        · have g4 := (nmf_0 c4).2.2
          rw [if_pos c4, if_pos c4]
          dsimp only
          rw [if_pos (o3_0le (by omega)), ct_pace hn hl hi3, bd_some]
          unfold tPc
          generalize nmp (S.1 2) n (nmp (S.1 2) n (nmp (S.1 2) n i)) = p at hi3
          by_cases c5 : nmf (S.1 2) n p 1 20 = 0
          · have g5 := (nmf_0 c5).2.2
            rw [if_pos c5, if_pos c5]
            by_cases c6 : nmf (S.1 2) n (nmp (S.1 2) n p) 1 20 = 0
            · have g6 := (nmf_0 c6).2.2
              rw [if_pos c6, if_pos c6]
              dsimp only
              rw [if_pos (pc_nn ⟨by show 1 ≤ nmv _ _ _; omega, by show nmv _ _ _ ≤ 20; omega, by show 1 ≤ nmv _ _ _; omega, by show nmv _ _ _ ≤ 20; omega⟩), ct_addStair hB.1.2.1 h12, bd_some]
              exact ⟨_, 0, _, rfl, fun _ => upS_B hB⟩
            · rw [if_neg c6, if_neg c6]
              exact ⟨S, _, _, by dsimp only; rw [if_neg (by decide), if_neg c6], fun q => absurd q c6⟩
          · rw [if_neg c5, if_neg c5]
            exact ⟨S, _, _, by dsimp only; rw [if_neg (by decide), if_neg c5], fun q => absurd q c5⟩
        · rw [if_neg c4, if_neg c4]
          exact ⟨S, _, _, by dsimp only; rw [if_neg (by decide), if_neg c4], fun q => absurd q c4⟩
    · rw [if_neg c2, if_neg c2]
      exact ⟨S, _, _, by dsimp only; rw [if_neg (by decide), if_neg c2], fun q => absurd q c2⟩
  · rw [if_neg c1, if_neg c1]
    exact ⟨S, _, _, by dsimp only; rw [if_neg (by decide), if_neg c1], fun q => absurd q c1⟩
def upT (S : fS) (k : Nat) (a : Int32) : fS := pI (pL (pI (pI (pI (pI S 32 k a) 33 k (-1)) 34 k 0) 35 k (-1)) 36 k 0) 31 5 (o3 (k + 1))
theorem upT_B {B : TB} {a : Nat} (hB : TBc S B) : TBc (upT S B.2.2.length (o3 a)) (B.1, B.2.1, B.2.2 ++ [a]) := by
  obtain ⟨⟨h1, h2, h3, h4⟩, h5, h6, h7⟩ := hB
  refine ⟨⟨h1, h2, fun k hk => h3 k hk, fun k hk => h4 k hk⟩, ?_, h6, fun k hk => ?_⟩
  · show o3 (B.2.2.length + 1) = _
    rw [ln_app]
  · rw [ln_app] at hk
    show (pI S 32 B.2.2.length (o3 a)).1 32 k = _ ∧ (pI S 33 B.2.2.length (-1)).1 33 k = _ ∧ (pI S 34 B.2.2.length 0).1 34 k = _ ∧ (pI S 35 B.2.2.length (-1)).1 35 k = _ ∧ (pL S 36 B.2.2.length 0).2 36 k = _
    rw [pI_get, pI_get, pI_get, pI_get, pL_get, gd_app]
    by_cases hc : k = B.2.2.length
    · rw [if_pos hc, if_pos ⟨rfl, hc⟩, if_pos ⟨rfl, hc⟩, if_pos ⟨rfl, hc⟩, if_pos ⟨rfl, hc⟩, if_pos ⟨rfl, hc⟩]
      exact ⟨rfl, rfl, rfl, rfl, rfl⟩
    · rw [if_neg hc, if_neg (fun q => hc q.2), if_neg (fun q => hc q.2), if_neg (fun q => hc q.2), if_neg (fun q => hc q.2), if_neg (fun q => hc q.2)]
      exact h7 k (by omega)
theorem ct_addThing {a : Int32} {k : Nat} {i : Int32} (hk : S.1 31 5 = o3 k) (h8 : k < 8) : f_X0_addThing 31 a (tS S i s f) = some (tS (upT S k a) i s f) := by
  unfold f_X0_addThing f_X0_putOn
  rw [tS_ne (by decide), hk, if_neg (show ¬ (8 : Int32) ≤ o3 _ from fun q => by have := (o3_le (a := 8) (by omega) (by omega)).mp q; omega)]
  rw [sI_o (by omega) (by omega), bd_some, tS_pI (by decide), sI_o (by omega) (by omega), bd_some, tS_pI (by decide), sI_o (by omega) (by omega), bd_some, tS_pI (by decide), sI_o (by omega) (by omega), bd_some, tS_pI (by decide), bd_some, tS_ne (by decide)]
  rw [show (pI (pI (pI (pI S (31 + 1) k a) (31 + 2) k (-1)) (31 + 3) k 0) (31 + 4) k (-1)).1 31 5 = S.1 31 5 from rfl, hk, sL_o (by omega) (by omega), bd_some, tS_pL, tS_ne (by decide), bd_some, tS_pI (by decide)]
  rw [show (pL (pI (pI (pI (pI S (31 + 1) k a) (31 + 2) k (-1)) (31 + 3) k 0) (31 + 4) k (-1)) (31 + 5) k 0).1 31 5 = S.1 31 5 from rfl, hk, o3_s]
  rfl
theorem ct_thing (hn : S.1 1 1 = o3 n) (hl : n ≤ 400) {B : TB} (hB : TBc S B) (hok : okB B) (h8 : B.2.2.length < 8) {i : Nat} (hi : i ≤ n) : ∃ S' i' s', f_X9_readThing (tS S (o3 i) s f) = some (if (tTh (S.1 2) n B i).1 = 0 then (1, tS S' (o3 (tTh (S.1 2) n B i).2.1) s' f) else (0, tS S i' s' (o3 (tTh (S.1 2) n B i).1))) ∧ ((tTh (S.1 2) n B i).1 = 0 → TBc S' (tTh (S.1 2) n B i).2.2) := by
  have hm : B.1.length < 1000000 := by have := hok.1; omega
  unfold f_X9_readThing
  rw [tS_ne (by decide), hB.1.1, ct_num hn hl hi, bd_some, o3_p hm, ni_0]
  unfold tTh
  by_cases c1 : nmf (S.1 2) n i 0 (B.1.length - 1) = 0
  · have g1 := (nmf_0 c1).2.2
    rw [if_pos c1, if_pos c1]
    dsimp only
    rw [if_pos (o3_0le (by omega)), ct_addThing hB.2.1 h8, bd_some]
    exact ⟨_, 0, _, rfl, fun _ => upT_B hB⟩
  · rw [if_neg c1, if_neg c1]
    exact ⟨S, _, _, by dsimp only; rw [if_neg (by decide), if_neg c1], fun q => absurd q c1⟩
theorem cl_F {c : Int32} {X : fS} : j_X9_readClause_30 c 1 X = if (10 : Int32) ≤ X.1 24 6 then j_X9_readClause_155 X else if c < 24 then ((f_X9_readFloor X).bind fun q33 => (bZ q33.1).bind fun z36 => some (z36, q33.2)) else j_X9_readClause_155 X := rfl
theorem cl_S {c : Int32} {X : fS} : j_X9_readClause_31 c 0 1 X = if (12 : Int32) ≤ X.1 24 7 then j_X9_readClause_155 X else if c < 24 then ((f_X9_readStair X).bind fun q30 => j_X9_readClause_195 q30.1 q30.2) else j_X9_readClause_155 X := rfl
theorem cl_T {c : Int32} {X : fS} : j_X9_readClause_57 c 0 0 1 X = if X.1 31 5 < 8 then (if c < 24 then ((f_X9_readThing X).bind fun q22 => j_X9_readClause_195 q22.1 q22.2) else j_X9_readClause_155 X) else j_X9_readClause_155 X := rfl
theorem cl_N {c : Int32} {X : fS} : j_X9_readClause_56 c 0 0 X = some (0, pI X 1 4 (1 + 8 * X.1 1 2 + 0)) := rfl
theorem cl_155 {X : fS} : j_X9_readClause_155 X = some (0, pI X 1 4 (1 + 8 * X.1 1 3 + 4)) := rfl
end CW
end
noncomputable section
/-! the class reads a tower, clause by clause -/
section TP
variable {t : Nat → Int32} {n : Nat} {B : TB} {i : Nat}
theorem tFl_le (hi : i ≤ n) (h : (tFl t n B i).1 = 0) : (tFl t n B i).2.1 ≤ n ∧ i < (tFl t n B i).2.1 := by
  unfold tFl at h ⊢
  by_cases h1 : nmf t n i 1 20 = 0
  · rw [if_pos h1] at h ⊢
    by_cases h2 : nmf t n (nmp t n i) 1 20 = 0
    · rw [if_pos h2] at h ⊢
      have := nmp_le (t := t) hi
      have a := nmp_gt h1
      have b := nmp_gt h2
      exact ⟨nmp_le this, by show i < nmp t n (nmp t n i); omega⟩
    · rw [if_neg h2] at h; exact absurd h h2
  · rw [if_neg h1] at h; exact absurd h h1
theorem tPc_le {a b c : Nat} (hi : i ≤ n) (h : (tPc t n B a b c i).1 = 0) : (tPc t n B a b c i).2.1 ≤ n ∧ i < (tPc t n B a b c i).2.1 := by
  unfold tPc at h ⊢
  by_cases h1 : nmf t n i 1 20 = 0
  · rw [if_pos h1] at h ⊢
    by_cases h2 : nmf t n (nmp t n i) 1 20 = 0
    · rw [if_pos h2] at h ⊢
      have := nmp_le (t := t) hi
      have a := nmp_gt h1
      have b := nmp_gt h2
      exact ⟨nmp_le this, by show i < nmp t n (nmp t n i); omega⟩
    · rw [if_neg h2] at h; exact absurd h h2
  · rw [if_neg h1] at h; exact absurd h h1
theorem tSt_le (hi : i ≤ n) (h : (tSt t n B i).1 = 0) : (tSt t n B i).2.1 ≤ n ∧ i < (tSt t n B i).2.1 := by
  unfold tSt at h ⊢
  by_cases h1 : nmf t n i 0 (B.1.length - 1) = 0
  · rw [if_pos h1] at h ⊢
    by_cases h2 : nmf t n (nmp t n i) 0 (B.1.length - 1) = 0
    · rw [if_pos h2] at h ⊢
      by_cases h3 : nmv t n i = nmv t n (nmp t n i)
      · rw [if_pos h3] at h
        exact absurd h (by show ¬ (1 + 8 * _ + 1 = 0); omega)
      · rw [if_neg h3] at h ⊢
        by_cases h4 : nmf t n (nmp t n (nmp t n i)) 1 9 = 0
        · rw [if_pos h4] at h ⊢
          have e1 := nmp_le (t := t) hi
          have e2 := nmp_le (t := t) e1
          have e3 := nmp_le (t := t) e2
          have a := nmp_gt h1
          have b := nmp_gt h2
          have c := nmp_gt h4
          have := tPc_le e3 h
          omega
        · rw [if_neg h4] at h; exact absurd h h4
    · rw [if_neg h2] at h; exact absurd h h2
  · rw [if_neg h1] at h; exact absurd h h1
theorem tTh_le (hi : i ≤ n) (h : (tTh t n B i).1 = 0) : (tTh t n B i).2.1 ≤ n ∧ i < (tTh t n B i).2.1 := by
  unfold tTh at h ⊢
  by_cases h1 : nmf t n i 0 (B.1.length - 1) = 0
  · rw [if_pos h1] at h ⊢
    exact ⟨nmp_le hi, nmp_gt h1⟩
  · rw [if_neg h1] at h; exact absurd h h1
theorem wpf_le : ∀ (w : List Int32) (j : Nat), j ≤ n → wpf t n w j = true → j + w.length ≤ n := by
  intro w
  induction w with
  | nil => intro j hj _; exact hj
  | cons c w ih =>
    intro j hj h
    have h : (decide (j < n ∧ t j = c) && wpf t n w (j + 1)) = true := h
    rw [Bool.and_eq_true, decide_eq_true_iff] at h
    have := ih (j + 1) (by have := h.1.1; omega) h.2
    show j + (w.length + 1) ≤ n
    omega
theorem wat_le {w : List Int32} {j : Nat} (hj : j ≤ n) (h : wat t n w j = true) : j + w.length ≤ n := by
  rw [wat_wpf, Bool.and_eq_true] at h
  exact wpf_le w j hj h.1
theorem tcl_le {c : Nat} (hi : i ≤ n) (h : (tcl t n c B i).1 = 0) : (tcl t n c B i).2.1 ≤ n ∧ i < (tcl t n c B i).2.1 := by
  have hj := sk_le (t := t) hi
  have hg := sk_ge (t := t) (n := n) (i := i)
  unfold tcl at h ⊢
  by_cases h1 : wat t n (mm_sb.getD 0 []) (sk t n i) = true
  · rw [if_pos h1] at h ⊢
    have hw := wat_le hj h1
    have hw : sk t n i + 5 ≤ n := hw
    by_cases h2 : 10 ≤ B.1.length ∨ 24 ≤ c
    · rw [if_pos h2] at h; exact absurd h (by show ¬ (1 + 8 * _ + 4 = 0); omega)
    · rw [if_neg h2] at h ⊢
      have := tFl_le hw h
      omega
  · rw [if_neg h1] at h ⊢
    by_cases h3 : wat t n (mm_sb.getD 1 []) (sk t n i) = true
    · rw [if_pos h3] at h ⊢
      have hw := wat_le hj h3
      have hw : sk t n i + 5 ≤ n := hw
      by_cases h2 : 12 ≤ B.2.1.length ∨ 24 ≤ c
      · rw [if_pos h2] at h; exact absurd h (by show ¬ (1 + 8 * _ + 4 = 0); omega)
      · rw [if_neg h2] at h ⊢
        have := tSt_le hw h
        omega
    · rw [if_neg h3] at h ⊢
      by_cases h4 : wat t n (mm_sb.getD 2 []) (sk t n i) = true
      · rw [if_pos h4] at h ⊢
        have hw := wat_le hj h4
        have hw : sk t n i + 5 ≤ n := hw
        by_cases h2 : 8 ≤ B.2.2.length ∨ 24 ≤ c
        · rw [if_pos h2] at h; exact absurd h (by show ¬ (1 + 8 * _ + 4 = 0); omega)
        · rw [if_neg h2] at h ⊢
          have := tTh_le hw h
          omega
      · rw [if_neg h4] at h; exact absurd h (by show ¬ (1 + 8 * _ = 0); omega)
end TP
section CR
variable {S : fS} {n : Nat} {s f : Int32}
theorem ct_clause (hn : S.1 1 1 = o3 n) (hl : n ≤ 400) {B : TB} (hB : TBc S B) (hok : okB B) {c i : Nat} (hc : c ≤ 24) (hi : i ≤ n) : ∃ S' i' s', f_X9_readClause (o3 c) (tS S (o3 i) s f) = some (if (tcl (S.1 2) n c B i).1 = 0 then (1, tS S' (o3 (tcl (S.1 2) n c B i).2.1) s' f) else (0, tS S i' s' (o3 (tcl (S.1 2) n c B i).1))) ∧ ((tcl (S.1 2) n c B i).1 = 0 → TBc S' (tcl (S.1 2) n c B i).2.2) := by
  have hj := sk_le (t := S.1 2) hi
  have hok2 := hok
  obtain ⟨b1, b2, b3, -⟩ := hok2
  unfold f_X9_readClause
  rw [ct_word hn hl (w := 0) (by decide) hi, bd_some]
  unfold tcl
  have e155 : ∀ (i' : Int32) (j : Nat), j ≤ 400 → j_X9_readClause_155 (tS S i' (o3 j) f) = some (0, tS S i' (o3 j) (o3 (1 + 8 * j + 4))) := fun i' j hj => by
    rw [cl_155, tS_3, tS_fa, show (1 : Int32) = o3 1 from rfl, show (8 : Int32) = o3 8 from rfl, show (4 : Int32) = o3 4 from rfl, o3_mul, o3_add, o3_add]
  by_cases w0 : wat (S.1 2) n (mm_sb.getD 0 []) (sk (S.1 2) n i) = true
  · rw [if_pos w0, if_pos w0]
    have hw := wat_le hj w0
    have hw : sk (S.1 2) n i + 5 ≤ n := hw
    dsimp only
    rw [if_neg (by decide), cl_F, tS_ne (by decide), hB.1.1]
    by_cases c1 : 10 ≤ B.1.length
    · rw [if_pos (show (10 : Int32) ≤ o3 _ from (o3_le (a := 10) (by omega) (by omega)).mpr c1), if_pos (Or.inl c1), e155 _ _ (by omega)]
      exact ⟨S, _, _, by rw [if_neg (by show ¬ (1 + 8 * _ + 4 = 0); omega)], fun q => absurd q (by show ¬ (1 + 8 * _ + 4 = 0); omega)⟩
    · rw [if_neg (show ¬ (10 : Int32) ≤ o3 _ from fun q => c1 ((o3_le (a := 10) (by omega) (by omega)).mp q))]
      by_cases c2 : 24 ≤ c
      · rw [if_neg (show ¬ o3 _ < (24 : Int32) from fun q => by have := (o3_lt (b := 24) (by omega) (by omega)).mp q; omega), if_pos (Or.inr c2), e155 _ _ (by omega)]
        exact ⟨S, _, _, by rw [if_neg (by show ¬ (1 + 8 * _ + 4 = 0); omega)], fun q => absurd q (by show ¬ (1 + 8 * _ + 4 = 0); omega)⟩
      · rw [if_pos (show o3 _ < (24 : Int32) from (o3_lt (b := 24) (by omega) (by omega)).mpr (by omega)), if_neg (fun q => by omega)]
        obtain ⟨S', i', s', e, hT⟩ := ct_floor (s := o3 (sk (S.1 2) n i)) (f := f) hn hl hB (by omega) (i := sk (S.1 2) n i + 5) hw
        refine ⟨S', i', s', ?_, hT⟩
        rw [show sk (S.1 2) n i + (mm_sb.getD 0 []).length = sk (S.1 2) n i + 5 from rfl, e, bd_some]
        by_cases hz : (tFl (S.1 2) n B (sk (S.1 2) n i + 5)).1 = 0
        · rw [if_pos hz]; rfl
        · rw [if_neg hz]; rfl
  · rw [if_neg w0, if_neg w0]
    dsimp only
    rw [if_pos rfl, ct_word hn hl (w := 1) (by decide) hj, bd_some, sk_id]
    by_cases w1 : wat (S.1 2) n (mm_sb.getD 1 []) (sk (S.1 2) n i) = true
    · rw [if_pos w1, if_pos w1]
      have hw := wat_le hj w1
      have hw : sk (S.1 2) n i + 5 ≤ n := hw
      dsimp only
      rw [if_neg (by decide), cl_S, tS_ne (by decide), hB.1.2.1]
      by_cases c1 : 12 ≤ B.2.1.length
      · rw [if_pos (show (12 : Int32) ≤ o3 _ from (o3_le (a := 12) (by omega) (by omega)).mpr c1), if_pos (Or.inl c1), e155 _ _ (by omega)]
        exact ⟨S, _, _, by rw [if_neg (by show ¬ (1 + 8 * _ + 4 = 0); omega)], fun q => absurd q (by show ¬ (1 + 8 * _ + 4 = 0); omega)⟩
      · rw [if_neg (show ¬ (12 : Int32) ≤ o3 _ from fun q => c1 ((o3_le (a := 12) (by omega) (by omega)).mp q))]
        by_cases c2 : 24 ≤ c
        · rw [if_neg (show ¬ o3 _ < (24 : Int32) from fun q => by have := (o3_lt (b := 24) (by omega) (by omega)).mp q; omega), if_pos (Or.inr c2), e155 _ _ (by omega)]
          exact ⟨S, _, _, by rw [if_neg (by show ¬ (1 + 8 * _ + 4 = 0); omega)], fun q => absurd q (by show ¬ (1 + 8 * _ + 4 = 0); omega)⟩
        · rw [if_pos (show o3 _ < (24 : Int32) from (o3_lt (b := 24) (by omega) (by omega)).mpr (by omega)), if_neg (fun q => by omega)]
          obtain ⟨S', i', s', e, hT⟩ := ct_stair (s := o3 (sk (S.1 2) n i)) (f := f) hn hl hB hok (by omega) (i := sk (S.1 2) n i + 5) hw
          refine ⟨S', i', s', ?_, hT⟩
          rw [show sk (S.1 2) n i + (mm_sb.getD 1 []).length = sk (S.1 2) n i + 5 from rfl, e, bd_some]
          by_cases hz : (tSt (S.1 2) n B (sk (S.1 2) n i + 5)).1 = 0
          · rw [if_pos hz]; rfl
          · rw [if_neg hz]; rfl
    · rw [if_neg w1, if_neg w1]
      dsimp only
      rw [if_pos rfl]
      unfold j_X9_readClause_30 j_X9_readClause_31
      rw [if_pos rfl, if_pos rfl, ct_word hn hl (w := 2) (by decide) hj, bd_some, sk_id]
      by_cases w2 : wat (S.1 2) n (mm_sb.getD 2 []) (sk (S.1 2) n i) = true
      · rw [if_pos w2, if_pos w2]
        have hw := wat_le hj w2
        have hw : sk (S.1 2) n i + 5 ≤ n := hw
        dsimp only
        rw [if_neg (by decide), cl_T, tS_ne (by decide), hB.2.1]
        by_cases c1 : 8 ≤ B.2.2.length
        · rw [if_neg (show ¬ o3 _ < (8 : Int32) from fun q => by have := (o3_lt (b := 8) (by omega) (by omega)).mp q; omega), if_pos (Or.inl c1), e155 _ _ (by omega)]
          exact ⟨S, _, _, by rw [if_neg (by show ¬ (1 + 8 * _ + 4 = 0); omega)], fun q => absurd q (by show ¬ (1 + 8 * _ + 4 = 0); omega)⟩
        · rw [if_pos (show o3 _ < (8 : Int32) from (o3_lt (b := 8) (by omega) (by omega)).mpr (by omega))]
          by_cases c2 : 24 ≤ c
          · rw [if_neg (show ¬ o3 _ < (24 : Int32) from fun q => by have := (o3_lt (b := 24) (by omega) (by omega)).mp q; omega), if_pos (Or.inr c2), e155 _ _ (by omega)]
            exact ⟨S, _, _, by rw [if_neg (by show ¬ (1 + 8 * _ + 4 = 0); omega)], fun q => absurd q (by show ¬ (1 + 8 * _ + 4 = 0); omega)⟩
          · rw [if_pos (show o3 _ < (24 : Int32) from (o3_lt (b := 24) (by omega) (by omega)).mpr (by omega)), if_neg (fun q => by omega)]
            obtain ⟨S', i', s', e, hT⟩ := ct_thing (s := o3 (sk (S.1 2) n i)) (f := f) hn hl hB hok (by omega) (i := sk (S.1 2) n i + 5) hw
            refine ⟨S', i', s', ?_, hT⟩
            rw [show sk (S.1 2) n i + (mm_sb.getD 2 []).length = sk (S.1 2) n i + 5 from rfl, e, bd_some]
            by_cases hz : (tTh (S.1 2) n B (sk (S.1 2) n i + 5)).1 = 0
            · rw [if_pos hz]; rfl
            · rw [if_neg hz]; rfl
      · rw [if_neg w2, if_neg w2]
        dsimp only
        rw [if_pos rfl, cl_N, tS_2, tS_fa, show (1 : Int32) = o3 1 from rfl, show (8 : Int32) = o3 8 from rfl, show (0 : Int32) = o3 0 from rfl, o3_mul, o3_add, o3_add]
        exact ⟨S, _, _, by rw [if_neg (by show ¬ (1 + 8 * _ = 0); omega)]; rfl, fun q => absurd q (by show ¬ (1 + 8 * _ = 0); omega)⟩
theorem tS_rw {i s' f' : Int32} : (tS S i s' f').1 1 1 = S.1 1 1 ∧ (tS S i s' f').1 2 = S.1 2 := ⟨rfl, rfl⟩
/-- fields that a clause of a tower leaves as they are -/
theorem ct_keep {c : Int32} {X Y : fS} {r : Int32} (h : f_X9_readClause c X = some (r, Y)) : Y.1 1 1 = X.1 1 1 ∧ Y.1 2 = X.1 2 := by
  have hF := fr_f_X9_readClause h
  refine ⟨hF.1 1 1 ?_, funext fun k => hF.1 2 k ?_⟩
  · unfold w1_f_X9_readClause; omega
  · unfold w1_f_X9_readClause; omega
end CR
end
noncomputable section
/-! the fewest hours between floors: phases over a matrix of numbers, 99999 where there is no way -/
abbrev Mx : Type := Nat → Nat → Nat
def wI : Mx := fun a b => if a = b then 0 else 99999
def wS1 (w : Mx) (q : Nat × Nat × Nat × Nat × Nat) : Mx := fun x y => if (x = q.1 ∧ y = q.2.1) ∨ (x = q.2.1 ∧ y = q.1) then min (w x y) q.2.2.1 else w x y
def wSt (E : List (Nat × Nat × Nat × Nat × Nat)) : Mx := E.foldl wS1 wI
def ph (p : Nat) (w : Mx) : Mx := fun a b => min (w a b) (w a p + w p b)
def phs (w : Mx) : Nat → Mx
  | 0 => w
  | k + 1 => ph k (phs w k)
/-- the fewest hours -/
def dst (E : List (Nat × Nat × Nat × Nat × Nat)) : Mx := phs (wSt E) 10
def z0 (w : Mx) : Prop := ∀ a, w a a = 0
def le9 (w : Mx) : Prop := ∀ a b, w a b ≤ 99999
theorem wS1_z {w : Mx} {q : Nat × Nat × Nat × Nat × Nat} (h : z0 w) : z0 (wS1 w q) := by
  intro a
  have := h a
  unfold wS1
  split
  · omega
  · exact this
theorem wS1_9 {w : Mx} {q : Nat × Nat × Nat × Nat × Nat} (h : le9 w) : le9 (wS1 w q) := by
  intro a b
  have := h a b
  unfold wS1
  split
  · omega
  · exact this
theorem wS1_le {w : Mx} {q : Nat × Nat × Nat × Nat × Nat} (a b : Nat) : wS1 w q a b ≤ w a b := by
  unfold wS1
  split
  · omega
  · exact Nat.le_refl _
theorem wI_z : z0 wI := fun a => if_pos rfl
theorem wI_9 : le9 wI := by
  intro a b
  unfold wI
  split <;> omega
theorem fold_z : ∀ (E : List (Nat × Nat × Nat × Nat × Nat)) (w : Mx), z0 w → z0 (E.foldl wS1 w) := by
  intro E
  induction E with
  | nil => intro w h; exact h
  | cons q E ih => intro w h; exact ih _ (wS1_z h)
theorem fold_9 : ∀ (E : List (Nat × Nat × Nat × Nat × Nat)) (w : Mx), le9 w → le9 (E.foldl wS1 w) := by
  intro E
  induction E with
  | nil => intro w h; exact h
  | cons q E ih => intro w h; exact ih _ (wS1_9 h)
theorem fold_le : ∀ (E : List (Nat × Nat × Nat × Nat × Nat)) (w : Mx) (a b : Nat), E.foldl wS1 w a b ≤ w a b := by
  intro E
  induction E with
  | nil => intro w a b; exact Nat.le_refl _
  | cons q E ih => intro w a b; exact Nat.le_trans (ih _ a b) (wS1_le a b)
theorem wSt_le : ∀ (E : List (Nat × Nat × Nat × Nat × Nat)) (w : Mx), ∀ q ∈ E, E.foldl wS1 w q.1 q.2.1 ≤ q.2.2.1 ∧ E.foldl wS1 w q.2.1 q.1 ≤ q.2.2.1 := by
  intro E
  induction E with
  | nil => intro w q hq; exact absurd hq (List.not_mem_nil)
  | cons r E ih =>
    intro w q hq
    rcases List.mem_cons.mp hq with rfl | hq
    · have h1 := fold_le E (wS1 w q) q.1 q.2.1
      have h2 := fold_le E (wS1 w q) q.2.1 q.1
      have e1 : wS1 w q q.1 q.2.1 = min (w q.1 q.2.1) q.2.2.1 := if_pos (Or.inl ⟨rfl, rfl⟩)
      have e2 : wS1 w q q.2.1 q.1 = min (w q.2.1 q.1) q.2.2.1 := if_pos (Or.inr ⟨rfl, rfl⟩)
      show E.foldl wS1 (wS1 w q) _ _ ≤ _ ∧ E.foldl wS1 (wS1 w q) _ _ ≤ _
      omega
    · exact ih _ q hq
/-- each number below 99999 between two floors came of a stair -/
theorem wSt_of : ∀ (E : List (Nat × Nat × Nat × Nat × Nat)) (w : Mx) (a b : Nat), a ≠ b → E.foldl wS1 w a b = w a b ∨ ∃ q ∈ E, E.foldl wS1 w a b = q.2.2.1 ∧ ((q.1 = a ∧ q.2.1 = b) ∨ (q.2.1 = a ∧ q.1 = b)) := by
  intro E
  induction E with
  | nil => intro w a b _; exact Or.inl rfl
  | cons r E ih =>
    intro w a b hab
    rcases ih (wS1 w r) a b hab with h | ⟨q, hq, h⟩
    · have h : (r :: E).foldl wS1 w a b = wS1 w r a b := h
      rw [h]
      by_cases hc : (a = r.1 ∧ b = r.2.1) ∨ (a = r.2.1 ∧ b = r.1)
      · have e : wS1 w r a b = min (w a b) r.2.2.1 := if_pos hc
        by_cases hm : w a b ≤ r.2.2.1
        · exact Or.inl (by rw [e]; omega)
        · refine Or.inr ⟨r, List.mem_cons_self, by rw [e]; omega, ?_⟩
          rcases hc with ⟨h1, h2⟩ | ⟨h1, h2⟩
          · exact Or.inl ⟨h1.symm, h2.symm⟩
          · exact Or.inr ⟨h1.symm, h2.symm⟩
      · exact Or.inl (if_neg hc)
    · exact Or.inr ⟨q, List.mem_cons_of_mem _ hq, h⟩
theorem ph_z {p : Nat} {w : Mx} (h : z0 w) : z0 (ph p w) := by
  intro a
  have := h a
  unfold ph
  omega
theorem ph_9 {p : Nat} {w : Mx} (h : le9 w) : le9 (ph p w) := by
  intro a b
  have := h a b
  unfold ph
  omega
theorem ph_le {p : Nat} {w : Mx} (a b : Nat) : ph p w a b ≤ w a b := Nat.min_le_left _ _
theorem phs_z {w : Mx} (h : z0 w) : ∀ k, z0 (phs w k) := by
  intro k
  induction k with
  | zero => exact h
  | succ k ih => exact ph_z ih
theorem phs_9 {w : Mx} (h : le9 w) : ∀ k, le9 (phs w k) := by
  intro k
  induction k with
  | zero => exact h
  | succ k ih => exact ph_9 ih
theorem phs_le {w : Mx} {a b : Nat} : ∀ k d, phs w (k + d) a b ≤ phs w k a b := by
  intro k d
  induction d with
  | zero => exact Nat.le_refl _
  | succ d ih => exact Nat.le_trans (ph_le a b) ih
/-- behind phase k: ways over the floors below k make nothing shorter -/
theorem phs_tri {w : Mx} (h : z0 w) : ∀ k p, p < k → ∀ a b, phs w k a b ≤ phs w k a p + phs w k p b := by
  intro k
  induction k with
  | zero => intro p hp; exact absurd hp (Nat.not_lt_zero _)
  | succ k ih =>
    intro p hp a b
    have hz := phs_z h k
    show ph k (phs w k) a b ≤ ph k (phs w k) a p + ph k (phs w k) p b
    generalize hw : phs w k = v at ih hz
    unfold ph
    have zk := hz k
    by_cases hpk : p = k
    · subst hpk
      omega
    · have t1 := ih p (by omega) a b
      have t2 := ih p (by omega) k b
      have t3 := ih p (by omega) a k
      omega
theorem dst_z {E : List (Nat × Nat × Nat × Nat × Nat)} : z0 (dst E) := phs_z (fold_z E wI wI_z) 10
theorem dst_9 {E : List (Nat × Nat × Nat × Nat × Nat)} : le9 (dst E) := phs_9 (fold_9 E wI wI_9) 10
theorem dst_tri {E : List (Nat × Nat × Nat × Nat × Nat)} {p : Nat} (hp : p < 10) (a b : Nat) : dst E a b ≤ dst E a p + dst E p b := phs_tri (fold_z E wI wI_z) 10 p hp a b
theorem dst_st {E : List (Nat × Nat × Nat × Nat × Nat)} {q : Nat × Nat × Nat × Nat × Nat} (hq : q ∈ E) : dst E q.1 q.2.1 ≤ q.2.2.1 ∧ dst E q.2.1 q.1 ≤ q.2.2.1 := by
  have h1 := phs_le (w := wSt E) (a := q.1) (b := q.2.1) 0 10
  have h2 := phs_le (w := wSt E) (a := q.2.1) (b := q.1) 0 10
  have h3 := wSt_le E wI q hq
  exact ⟨Nat.le_trans h1 h3.1, Nat.le_trans h2 h3.2⟩
/-- a first stair of a shortest way -/
def fst1 (E : List (Nat × Nat × Nat × Nat × Nat)) (D : Mx) (a b x : Nat) : Prop := ∃ q ∈ E, (q.1 = a ∧ q.2.2.1 + D q.2.1 b ≤ x) ∨ (q.2.1 = a ∧ q.2.2.1 + D q.1 b ≤ x)
theorem phs_fst {E : List (Nat × Nat × Nat × Nat × Nat)} : ∀ k, k ≤ 10 → ∀ a b, a ≠ b → phs (wSt E) k a b < 99999 → fst1 E (dst E) a b (phs (wSt E) k a b) := by
  intro k
  induction k with
  | zero =>
    intro _ a b hab h
    have h : wSt E a b < 99999 := h
    rcases wSt_of E wI a b hab with h1 | ⟨q, hq, h1, h2⟩
    · have e : wI a b = 99999 := if_neg hab
      have h1 : wSt E a b = wI a b := h1
      omega
    · have h1 : wSt E a b = q.2.2.1 := h1
      have zb := dst_z (E := E) b
      refine ⟨q, hq, ?_⟩
      rcases h2 with ⟨e1, e2⟩ | ⟨e1, e2⟩
      · exact Or.inl ⟨e1, by rw [e2, zb]; show _ ≤ wSt E a b; omega⟩
      · exact Or.inr ⟨e1, by rw [e2, zb]; show _ ≤ wSt E a b; omega⟩
  | succ k ih =>
    intro hk a b hab h
    have zk := phs_z (fold_z E wI wI_z) k k
    have hd : dst E k b ≤ phs (wSt E) k k b := by
      have := phs_le (w := wSt E) (a := k) (b := b) k (10 - k)
      rw [show k + (10 - k) = 10 by omega] at this
      exact this
    show fst1 E (dst E) a b (ph k (phs (wSt E) k) a b)
    have h : ph k (phs (wSt E) k) a b < 99999 := h
    have ihab := ih (by omega) a b hab
    unfold ph at h ⊢
    by_cases hm : phs (wSt E) k a b ≤ phs (wSt E) k a k + phs (wSt E) k k b
    · rw [Nat.min_eq_left hm] at h ⊢
      exact ihab h
    · rw [Nat.min_eq_right (by omega)] at h ⊢
      by_cases hak : a = k
      · subst hak
        have zk : phs (wSt E) a a a = 0 := zk
        omega
      · obtain ⟨q, hq, h1⟩ := ih (by omega) a k hak (by omega)
        refine ⟨q, hq, ?_⟩
        rcases h1 with ⟨e1, e2⟩ | ⟨e1, e2⟩
        · have := dst_tri (E := E) (p := k) (by omega) q.2.1 b
          exact Or.inl ⟨e1, by omega⟩
        · have := dst_tri (E := E) (p := k) (by omega) q.1 b
          exact Or.inr ⟨e1, by omega⟩
theorem dst_fst {E : List (Nat × Nat × Nat × Nat × Nat)} {a b : Nat} (hab : a ≠ b) (h : dst E a b < 99999) : fst1 E (dst E) a b (dst E a b) := phs_fst 10 (Nat.le_refl _) a b hab h
/-- bounds: no number between 18432 and 99999 -/
def bd9 (m : Nat) (w : Mx) : Prop := ∀ a b, w a b < 99999 → w a b ≤ m
theorem ph_bd {p m : Nat} {w : Mx} (h : bd9 m w) : bd9 (2 * m) (ph p w) := by
  intro a b hlt
  have h1 := h a b
  have h2 := h a p
  have h3 := h p b
  unfold ph at hlt ⊢
  omega
theorem fold_bd {m : Nat} : ∀ (E : List (Nat × Nat × Nat × Nat × Nat)) (w : Mx), (∀ q ∈ E, q.2.2.1 ≤ m) → bd9 m w → bd9 m (E.foldl wS1 w) := by
  intro E
  induction E with
  | nil => intro w _ h; exact h
  | cons r E ih =>
    intro w hE h
    refine ih _ (fun q hq => hE q (List.mem_cons_of_mem _ hq)) ?_
    intro a b hlt
    have h1 := h a b
    have h2 := hE r List.mem_cons_self
    unfold wS1 at hlt ⊢
    split at hlt
    · rename_i hc; rw [if_pos hc]; omega
    · rename_i hc; rw [if_neg hc]; exact h1 hlt
theorem wI_bd {m : Nat} : bd9 m wI := by
  intro a b h
  unfold wI at h ⊢
  split at h
  · rename_i hc; rw [if_pos hc]; omega
  · omega
theorem phs_bd {w : Mx} {m : Nat} (h : bd9 m w) : ∀ k, bd9 (2 ^ k * m) (phs w k) := by
  intro k
  induction k with
  | zero => rw [Nat.pow_zero, Nat.one_mul]; exact h
  | succ k ih =>
    have := ph_bd (p := k) ih
    rw [show 2 ^ (k + 1) * m = 2 * (2 ^ k * m) by rw [Nat.pow_succ]; rw [Nat.mul_comm (2 ^ k) 2, Nat.mul_assoc]]
    exact this
/-- floors that no stair reaches -/
def iso (m : Nat) (w : Mx) : Prop := ∀ a b, a ≠ b → (m ≤ a ∨ m ≤ b) → w a b = 99999
theorem iso_I {m : Nat} : iso m wI := fun _ _ h _ => if_neg h
theorem iso_S {m : Nat} : ∀ (E : List (Nat × Nat × Nat × Nat × Nat)) (w : Mx), (∀ q ∈ E, q.1 < m ∧ q.2.1 < m) → iso m w → iso m (E.foldl wS1 w) := by
  intro E
  induction E with
  | nil => intro w _ h; exact h
  | cons r E ih =>
    intro w hE h
    refine ih _ (fun q hq => hE q (List.mem_cons_of_mem _ hq)) ?_
    intro a b hab hm
    have h2 := hE r List.mem_cons_self
    have e : wS1 w r a b = w a b := if_neg (by omega)
    rw [e]
    exact h a b hab hm
theorem iso_p {m p : Nat} {w : Mx} (h9 : le9 w) (hz : z0 w) (h : iso m w) : iso m (ph p w) := by
  intro a b hab hm
  have h1 := h a b hab hm
  have za := hz a
  unfold ph
  by_cases hap : a = p
  · subst hap; omega
  · by_cases hpb : p = b
    · subst hpb; omega
    · rcases hm with hm | hm
      · have := h a p hap (Or.inl hm); omega
      · have := h p b hpb (Or.inr hm); omega
theorem ph_id {m p : Nat} {w : Mx} (h9 : le9 w) (hz : z0 w) (h : iso m w) (hp : m ≤ p) : ph p w = w := by
  funext a b
  have hab := h9 a b
  have zp := hz p
  unfold ph
  by_cases hap : a = p
  · subst hap; omega
  · have := h a p hap (Or.inr hp); omega
end
noncomputable section
/-! the class measures the ways -/
theorem o3_div {a b : Nat} (ha : a < 2147483648) (hb : b < 2147483648) : o3 a / o3 b = o3 (a / b) := by
  have h1 : a / b ≤ a := Nat.div_le_self a b
  rw [ni_eq, Int32.toInt_div, o3_int ha, o3_int hb, o3_int (by omega)]
  have e : (a : Int).tdiv (b : Int) = ((a / b : Nat) : Int) := by
    rw [Int.tdiv_eq_ediv_of_nonneg (by omega)]
    exact (Int.natCast_ediv a b).symm
  rw [e]
  clear e
  generalize a / b = q at h1
  exact ni_bm (by omega) (by omega)
theorem o3_ne0 {a : Nat} (ha : a < 2147483648) (h : a ≠ 0) : o3 a ≠ 0 := fun q => h ((o3_inj (b := 0) ha (by omega)).mp q)
theorem o3_dI {a b : Nat} (ha : a < 2147483648) (hb : b < 2147483648) (h : b ≠ 0) : dI (o3 a) (o3 b) = some (o3 (a / b)) := by
  unfold dI
  rw [if_neg (o3_ne0 hb h), o3_div ha hb]
theorem o3_rI {a b : Nat} (ha : a < 2147483648) (hb : b < 2147483648) (h : b ≠ 0) : rI (o3 a) (o3 b) = some (o3 (a % b)) := by
  unfold rI
  have hd : a / b * b ≤ a := Nat.div_mul_le_self a b
  have hm : a % b = a - a / b * b := by
    have := Nat.div_add_mod a b
    rw [Nat.mul_comm] at this
    omega
  rw [if_neg (o3_ne0 hb h), o3_div ha hb, o3_mul, o3_sub hd, hm]
def cwv (m : Nat) : Int32 := if m = 99999 then -1 else o3 m
def rW (S : fS) (r : Nat) (w : Mx) : Prop := ∀ a b, a < 10 → b < 10 → S.1 r (10 * a + b) = cwv (w a b)
/-- all but one row of ints is as it was -/
def eR (r : Nat) (S T : fS) : Prop := (∀ a k, a ≠ r → T.1 a k = S.1 a k) ∧ T.2 = S.2
theorem eR.rf {r : Nat} {S : fS} : eR r S S := ⟨fun _ _ _ => rfl, rfl⟩
theorem eR.tr {r : Nat} {S T U : fS} (h : eR r S T) (g : eR r T U) : eR r S U := ⟨fun a k n => (g.1 a k n).trans (h.1 a k n), g.2.trans h.2⟩
theorem eR_pI {r k : Nat} {S : fS} {x : Int32} : eR r S (pI S r k x) := ⟨fun a j h => by rw [pI_get, if_neg (fun q => h q.1)], rfl⟩
theorem eR_tw {S T : fS} {F : List (Nat × Nat)} {E : List (Nat × Nat × Nat × Nat × Nat)} (h : eR 30 S T) (hw : twC S 24 F E) : twC T 24 F E := by
  obtain ⟨h1, h2, h3, h4⟩ := hw
  refine ⟨by rw [h.1 24 6 (by decide)]; exact h1, by rw [h.1 24 7 (by decide)]; exact h2, fun k hk => by rw [h.2]; exact h3 k hk, fun k hk => ?_⟩
  rw [h.1 (24 + 2) k (by decide), h.1 (24 + 3) k (by decide), h.1 (24 + 4) k (by decide), h.2]
  exact h4 k hk
def wm (w : Mx) (a b h : Nat) : Mx := fun x y => if x = a ∧ y = b then min (w x y) h else w x y
theorem cw_hb {S : fS} {v a b : Nat} (ha : a < 10) (hb : b < 10) : f_X8_hoursBetween v (o3 a) (o3 b) S = some (S.1 (v + 6) (10 * a + b)) := by
  unfold f_X8_hoursBetween
  rw [show (10 : Int32) = o3 10 from rfl, o3_mul, o3_add, gI_o (by omega) (by omega), bd_some, Nat.mul_comm]
theorem cw_short {S : fS} {w : Mx} {a b h : Nat} (hw : rW S 30 w) (h9 : le9 w) (ha : a < 10) (hb : b < 10) (hh : h < 99999) : ∃ S', f_X8_shorten 24 (o3 a) (o3 b) (o3 h) S = some S' ∧ rW S' 30 (wm w a b h) ∧ eR 30 S S' := by
  have h9 := h9 a b
  have hset : rW (pI S 30 (10 * a + b) (o3 h)) 30 (fun x y => if x = a ∧ y = b then h else w x y) := by
    intro x y hx hy
    rw [pI_get]
    by_cases hc : x = a ∧ y = b
    · rw [if_pos ⟨rfl, by omega⟩]
      show _ = cwv (if x = a ∧ y = b then h else w x y)
      rw [if_pos hc]
      unfold cwv
      rw [if_neg (by omega)]
    · rw [if_neg (fun q => hc ⟨by omega, by omega⟩)]
      show _ = cwv (if x = a ∧ y = b then h else w x y)
      rw [if_neg hc]
      exact hw x y hx hy
  unfold f_X8_shorten
  rw [cw_hb ha hb, bd_some, show S.1 (24 + 6) (10 * a + b) = cwv (w a b) from hw a b ha hb]
  have hidx : (o3 a * 10 + o3 b : Int32) = o3 (10 * a + b) := by
    rw [show (10 : Int32) = o3 10 from rfl, o3_mul, o3_add, Nat.mul_comm]
  rw [hidx, sI_o (by omega) (by omega)]
  by_cases hi : w a b = 99999
  · refine ⟨pI S 30 (10 * a + b) (o3 h), ?_, ?_, eR_pI⟩
    · unfold cwv
      rw [if_pos hi, if_pos (by decide)]
      rfl
    · have e : (fun x y => if x = a ∧ y = b then h else w x y) = wm w a b h := by
        funext x y
        unfold wm
        by_cases hc : x = a ∧ y = b
        · rw [if_pos hc, if_pos hc, hc.1, hc.2]; omega
        · rw [if_neg hc, if_neg hc]
      rw [← e]; exact hset
  · have hcw : cwv (w a b) = o3 (w a b) := if_neg hi
    rw [hcw, if_neg (o3_nn (by omega))]
    by_cases hle : w a b ≤ h
    · refine ⟨S, ?_, ?_, eR.rf⟩
      · rw [if_pos ((o3_le (by omega) (by omega)).mpr hle)]
      · have e : wm w a b h = w := by
          funext x y
          unfold wm
          by_cases hc : x = a ∧ y = b
          · rw [if_pos hc, hc.1, hc.2]; omega
          · rw [if_neg hc]
        rw [e]; exact hw
    · refine ⟨pI S 30 (10 * a + b) (o3 h), ?_, ?_, eR_pI⟩
      · rw [if_neg (fun q => hle ((o3_le (by omega) (by omega)).mp q))]
        rfl
      · have e : (fun x y => if x = a ∧ y = b then h else w x y) = wm w a b h := by
          funext x y
          unfold wm
          by_cases hc : x = a ∧ y = b
          · rw [if_pos hc, if_pos hc, hc.1, hc.2]; omega
          · rw [if_neg hc, if_neg hc]
        rw [← e]; exact hset
theorem cw_init {K : fS → Option fS} : ∀ d k m (S : fS), k + d = 100 → d < m → (∀ j, j < k → S.1 30 j = cwv (wI (j / 10) (j % 10))) → ∃ S', lp_X8_measureWays_2 24 K m (o3 k) S = K S' ∧ rW S' 30 wI ∧ eR 30 S S' := by
  intro d
  induction d with
  | zero =>
    intro k m S hk hm h
    obtain ⟨m, rfl⟩ : ∃ m', m = m' + 1 := ⟨m - 1, by omega⟩
    rw [lp_X8_measureWays_2.eq_2, if_pos (show (100 : Int32) ≤ o3 _ from (o3_le (a := 100) (by omega) (by omega)).mpr (by omega))]
    refine ⟨S, rfl, fun a b ha hb => ?_, eR.rf⟩
    rw [h (10 * a + b) (by omega), show (10 * a + b) / 10 = a by omega, show (10 * a + b) % 10 = b by omega]
  | succ d ih =>
    intro k m S hk hm h
    obtain ⟨m, rfl⟩ : ∃ m', m = m' + 1 := ⟨m - 1, by omega⟩
    rw [lp_X8_measureWays_2.eq_2, if_neg (show ¬ (100 : Int32) ≤ o3 _ from fun q => by have := (o3_le (a := 100) (by omega) (by omega)).mp q; omega)]
    rw [show (10 : Int32) = o3 10 from rfl, o3_dI (by omega) (by omega) (by omega), bd_some, o3_rI (by omega) (by omega) (by omega), bd_some, o3_s]
    have hx : ∀ x, x = cwv (wI (k / 10) (k % 10)) → ∃ S', lp_X8_measureWays_2 24 K m (o3 (k + 1)) (pI S (24 + 6) k x) = K S' ∧ rW S' 30 wI ∧ eR 30 S S' := by
      intro x hx
      obtain ⟨S', e1, e2, e3⟩ := ih (k + 1) m (pI S (24 + 6) k x) (by omega) (by omega) (fun j hj => by
        rw [pI_get]
        by_cases hc : j = k
        · rw [if_pos ⟨rfl, hc⟩, hc]; exact hx
        · rw [if_neg (fun q => hc q.2)]; exact h j (by omega))
      exact ⟨S', e1, e2, eR_pI.tr e3⟩
    by_cases hc : k / 10 = k % 10
    · rw [if_pos ((o3_inj (by omega) (by omega)).mpr hc), sI_o (by omega) (by omega), bd_some]
      refine hx 0 ?_
      unfold cwv wI
      rw [if_pos hc]
      rfl
    · rw [if_neg (fun q => hc ((o3_inj (by omega) (by omega)).mp q)), sI_o (by omega) (by omega), bd_some]
      refine hx (-1) ?_
      unfold cwv wI
      rw [if_neg hc]
      rfl
theorem gd_mem {α : Type} {l : List α} {d : α} {k : Nat} (h : k < l.length) : l.getD k d ∈ l := by
  rw [List.getD_eq_getElem?_getD, List.getElem?_eq_getElem h]
  exact List.getElem_mem h
theorem fl_take {α β : Type} {f : β → α → β} {l : List α} {w : β} {d : α} {k : Nat} (h : k < l.length) : (l.take (k + 1)).foldl f w = f ((l.take k).foldl f w) (l.getD k d) := by
  rw [List.take_succ_eq_append_getElem h, List.foldl_append]
  rw [List.getD_eq_getElem?_getD, List.getElem?_eq_getElem h]
  rfl
theorem cw_stairs {K : fS → Option fS} {F : List (Nat × Nat)} {E : List (Nat × Nat × Nat × Nat × Nat)} (hE : ∀ q ∈ E, okS 10 q) (hl : E.length ≤ 12) : ∀ d k m (S : fS), k + d = E.length → d < m → twC S 24 F E → rW S 30 ((E.take k).foldl wS1 wI) → ∃ S', lp_X8_measureWays_38 24 K m (o3 k) S = K S' ∧ rW S' 30 (wSt E) ∧ eR 30 S S' := by
  intro d
  induction d with
  | zero =>
    intro k m S hk hm ht hw
    obtain ⟨m, rfl⟩ : ∃ m', m = m' + 1 := ⟨m - 1, by omega⟩
    rw [lp_X8_measureWays_38.eq_2, ht.2.1, if_pos ((o3_le (by omega) (by omega)).mpr (by omega))]
    refine ⟨S, rfl, ?_, eR.rf⟩
    rw [show k = E.length by omega, List.take_length] at hw
    exact hw
  | succ d ih =>
    intro k m S hk hm ht hw
    obtain ⟨m, rfl⟩ : ∃ m', m = m' + 1 := ⟨m - 1, by omega⟩
    have hk2 : k < E.length := by omega
    obtain ⟨s1, s2, s3, s4, s5, -⟩ := hE _ (gd_mem (d := d5) hk2)
    have h9 : le9 ((E.take k).foldl wS1 wI) := fold_9 _ _ wI_9
    obtain ⟨r1, r2, r3, -⟩ := ht.2.2.2 k hk2
    rw [lp_X8_measureWays_38.eq_2, ht.2.1, if_neg (fun q => by have := (o3_le (by omega) (by omega)).mp q; omega)]
    rw [gI_o (by omega) (by omega), bd_some, gI_o (by omega) (by omega), bd_some, gI_o (by omega) (by omega), bd_some, r1, r2, r3]
    obtain ⟨S1, e1, w1, f1⟩ := cw_short hw h9 s1 s2 (h := (E.getD k d5).2.2.1) (by omega)
    have ht1 := eR_tw f1 ht
    obtain ⟨q1, q2, q3, -⟩ := ht1.2.2.2 k hk2
    rw [e1, bd_some, gI_o (by omega) (by omega), bd_some, gI_o (by omega) (by omega), bd_some, gI_o (by omega) (by omega), bd_some, q1, q2, q3]
    have h92 : le9 (wm ((E.take k).foldl wS1 wI) (E.getD k d5).1 (E.getD k d5).2.1 (E.getD k d5).2.2.1) := by
      intro x y
      have := h9 x y
      unfold wm
      split
      · omega
      · exact this
    obtain ⟨S2, e2, w2, f2⟩ := cw_short w1 h92 s2 s1 (h := (E.getD k d5).2.2.1) (by omega)
    rw [e2, bd_some, o3_s]
    obtain ⟨S3, e3, w3, f3⟩ := ih (k + 1) m S2 (by omega) (by omega) (eR_tw f2 ht1) (by
      rw [fl_take (d := d5) hk2]
      have e : wm (wm ((E.take k).foldl wS1 wI) (E.getD k d5).1 (E.getD k d5).2.1 (E.getD k d5).2.2.1) (E.getD k d5).2.1 (E.getD k d5).1 (E.getD k d5).2.2.1 = wS1 ((E.take k).foldl wS1 wI) (E.getD k d5) := by
        funext x y
        unfold wm wS1
        by_cases c1 : x = (E.getD k d5).1 ∧ y = (E.getD k d5).2.1
        · rw [if_pos c1, if_pos (Or.inl c1), if_neg (fun q => s3 (c1.1.symm.trans q.1))]
        · rw [if_neg c1]
          by_cases c2 : x = (E.getD k d5).2.1 ∧ y = (E.getD k d5).1
          · rw [if_pos c2, if_pos (Or.inr c2)]
          · rw [if_neg c2, if_neg (fun q => q.elim c1 c2)]
      rw [← e]
      exact w2)
    exact ⟨S3, e3, w3, f1.tr (f2.tr f3)⟩
/-- in the middle of a phase: the places before (a, b) are done -/
def mid (w : Mx) (p a b : Nat) : Mx := fun x y => if x < a ∨ (x = a ∧ y < b) then ph p w x y else w x y
theorem mid_row {w : Mx} {p a b x : Nat} (hz : z0 w) : mid w p a b x p = w x p := by
  have := hz p
  unfold mid ph
  split
  · omega
  · rfl
theorem mid_col {w : Mx} {p a b y : Nat} (hz : z0 w) : mid w p a b p y = w p y := by
  have := hz p
  unfold mid ph
  split
  · omega
  · rfl
theorem mid_9 {w : Mx} {p a b : Nat} (h : le9 w) : le9 (mid w p a b) := by
  intro x y
  have := h x y
  unfold mid ph
  split
  · omega
  · exact this
theorem mid_s {w : Mx} {p a b : Nat} : mid w p a (b + 1) = fun x y => if x = a ∧ y = b then ph p w a b else mid w p a b x y := by
  funext x y
  unfold mid
  by_cases hc : x = a ∧ y = b
  · rw [if_pos hc, if_pos (by omega), hc.1, hc.2]
  · rw [if_neg hc]
    by_cases h2 : x < a ∨ (x = a ∧ y < b)
    · rw [if_pos h2, if_pos (by omega)]
    · rw [if_neg h2, if_neg (by omega)]
theorem rW_cg {S : fS} {r : Nat} {w v : Mx} (h : rW S r w) (e : ∀ a b, a < 10 → b < 10 → v a b = w a b) : rW S r v := fun a b ha hb => by rw [e a b ha hb]; exact h a b ha hb
theorem cw_118 {K : fS → Option fS} {w : Mx} {nf M p a : Nat} (hz : z0 w) (h9 : le9 w) (hM : bd9 M w) (h2M : 2 * M < 99999) (hnf : nf ≤ 10) (hp : p < nf) (ha : a < nf) : ∀ d b m (S : fS), b + d = nf → d < m → S.1 24 6 = o3 nf → rW S 30 (mid w p a b) → ∃ S', lp_X8_measureWays_118 24 (o3 p) (o3 a) K m (o3 b) S = K S' ∧ rW S' 30 (mid w p a nf) ∧ eR 30 S S' := by
  intro d
  induction d with
  | zero =>
    intro b m S hb hm hn hw
    obtain ⟨m, rfl⟩ : ∃ m', m = m' + 1 := ⟨m - 1, by omega⟩
    rw [lp_X8_measureWays_118.eq_2, hn, if_pos ((o3_le (by omega) (by omega)).mpr (by omega))]
    rw [show b = nf by omega] at hw
    exact ⟨S, rfl, hw, eR.rf⟩
  | succ d ih =>
    intro b m S hb hm hn hw
    obtain ⟨m, rfl⟩ : ∃ m', m = m' + 1 := ⟨m - 1, by omega⟩
    have w9 := h9 a b
    have z1 := h9 a p
    have z2 := h9 p b
    rw [lp_X8_measureWays_118.eq_2, hn, if_neg (fun q => by have := (o3_le (by omega) (by omega)).mp q; omega)]
    rw [cw_hb (by omega) (by omega), bd_some, cw_hb (by omega) (by omega), bd_some, hw a p (by omega) (by omega), hw p b (by omega) (by omega), mid_row hz, mid_col hz, o3_s]
    have same : w a p + w p b ≥ 99999 → ∃ S', lp_X8_measureWays_118 24 (o3 p) (o3 a) K m (o3 (b + 1)) S = K S' ∧ rW S' 30 (mid w p a nf) ∧ eR 30 S S' := by
      intro hge
      refine ih (b + 1) m S (by omega) (by omega) hn (rW_cg hw (fun x y _ _ => ?_))
      rw [mid_s]
      by_cases hc : x = a ∧ y = b
      · show (if x = a ∧ y = b then ph p w a b else mid w p a b x y) = _
        rw [if_pos hc, hc.1, hc.2]
        unfold mid ph
        rw [if_neg (by omega)]
        omega
      · show (if x = a ∧ y = b then ph p w a b else mid w p a b x y) = _
        rw [if_neg hc]
    by_cases c1 : w a p = 99999
    · have e1 : cwv (w a p) = -1 := if_pos c1
      rw [e1, if_pos (by decide)]
      exact same (by omega)
    · have e1 : cwv (w a p) = o3 (w a p) := if_neg c1
      rw [e1, if_neg (o3_nn (by omega))]
      by_cases c2 : w p b = 99999
      · have e2 : cwv (w p b) = -1 := if_pos c2
        rw [e2, if_pos (by decide)]
        exact same (by omega)
      · have e2 : cwv (w p b) = o3 (w p b) := if_neg c2
        have m1 := hM a p (by omega)
        have m2 := hM p b (by omega)
        rw [e2, if_neg (o3_nn (by omega)), o3_add]
        obtain ⟨S1, g1, g2, g3⟩ := cw_short hw (mid_9 h9) (a := a) (b := b) (h := w a p + w p b) (by omega) (by omega) (by omega)
        rw [g1, bd_some]
        obtain ⟨S2, k1, k2, k3⟩ := ih (b + 1) m S1 (by omega) (by omega) (by rw [g3.1 24 6 (by decide)]; exact hn) (rW_cg g2 (fun x y _ _ => by
          rw [mid_s]
          show (if x = a ∧ y = b then ph p w a b else mid w p a b x y) = wm (mid w p a b) a b (w a p + w p b) x y
          unfold wm
          by_cases hc : x = a ∧ y = b
          · rw [if_pos hc, if_pos hc, hc.1, hc.2]
            unfold mid ph
            rw [if_neg (by omega)]
          · rw [if_neg hc, if_neg hc]))
        exact ⟨S2, k1, k2, g3.tr k3⟩
theorem cw_108 {K : fS → Option fS} {w : Mx} {nf M p : Nat} (hz : z0 w) (h9 : le9 w) (hM : bd9 M w) (h2M : 2 * M < 99999) (hi : iso nf w) (hnf : nf ≤ 10) (hp : p < nf) : ∀ d a m (S : fS), a + d = nf → d < m → S.1 24 6 = o3 nf → rW S 30 (mid w p a 0) → ∃ S', lp_X8_measureWays_108 24 (o3 p) K m (o3 a) S = K S' ∧ rW S' 30 (ph p w) ∧ eR 30 S S' := by
  intro d
  induction d with
  | zero =>
    intro a m S ha hm hn hw
    obtain ⟨m, rfl⟩ : ∃ m', m = m' + 1 := ⟨m - 1, by omega⟩
    rw [lp_X8_measureWays_108.eq_2, hn, if_pos ((o3_le (by omega) (by omega)).mpr (by omega))]
    refine ⟨S, rfl, rW_cg hw (fun x y _ _ => ?_), eR.rf⟩
    unfold mid
    by_cases hc : x < a ∨ (x = a ∧ y < 0)
    · rw [if_pos hc]
    · rw [if_neg hc]
      by_cases hxy : x = y
      · subst hxy
        have := hz x
        unfold ph
        omega
      · have i1 := iso_p (p := p) h9 hz hi x y hxy (Or.inl (by omega))
        have i2 := hi x y hxy (Or.inl (by omega))
        rw [i1, i2]
  | succ d ih =>
    intro a m S ha hm hn hw
    obtain ⟨m, rfl⟩ : ∃ m', m = m' + 1 := ⟨m - 1, by omega⟩
    rw [lp_X8_measureWays_108.eq_2, hn, if_neg (fun q => by have := (o3_le (by omega) (by omega)).mp q; omega)]
    obtain ⟨S1, g1, g2, g3⟩ := cw_118 (K := fun S58 => lp_X8_measureWays_108 24 (o3 p) K m (o3 a + (1 : Int32)) S58) hz h9 hM h2M hnf hp (a := a) (by omega) nf 0 FU S (by omega) (FU_lt (by omega)) hn hw
    rw [show (0 : Int32) = o3 0 from rfl, g1, o3_s]
    obtain ⟨S2, k1, k2, k3⟩ := ih (a + 1) m S1 (by omega) (by omega) (by rw [g3.1 24 6 (by decide)]; exact hn) (rW_cg g2 (fun x y hx hy => by
      unfold mid
      by_cases hc : x < a ∨ (x = a ∧ y < nf)
      · rw [if_pos hc, if_pos (by omega)]
      · rw [if_neg hc]
        by_cases h3 : x < a + 1 ∨ (x = a + 1 ∧ y < 0)
        · rw [if_pos h3]
          have hxy : x ≠ y := by omega
          rw [iso_p (p := p) h9 hz hi x y hxy (Or.inr (by omega)), hi x y hxy (Or.inr (by omega))]
        · rw [if_neg h3]))
    exact ⟨S2, k1, k2, g3.tr k3⟩
theorem cw_98 {K : fS → Option fS} {w0 : Mx} {nf : Nat} (hz : z0 w0) (h9 : le9 w0) (hM : bd9 9 w0) (hi : iso nf w0) (hnf : nf ≤ 10) : ∀ d p m (S : fS), p + d = nf → d < m → S.1 24 6 = o3 nf → rW S 30 (phs w0 p) → ∃ S', lp_X8_measureWays_98 24 K m (o3 p) S = K S' ∧ rW S' 30 (phs w0 nf) ∧ eR 30 S S' := by
  intro d
  induction d with
  | zero =>
    intro p m S hp hm hn hw
    obtain ⟨m, rfl⟩ : ∃ m', m = m' + 1 := ⟨m - 1, by omega⟩
    rw [lp_X8_measureWays_98.eq_2, hn, if_pos ((o3_le (by omega) (by omega)).mpr (by omega))]
    rw [show p = nf by omega] at hw
    exact ⟨S, rfl, hw, eR.rf⟩
  | succ d ih =>
    intro p m S hp hm hn hw
    obtain ⟨m, rfl⟩ : ∃ m', m = m' + 1 := ⟨m - 1, by omega⟩
    have hiso : ∀ k, iso nf (phs w0 k) := by
      intro k
      induction k with
      | zero => exact hi
      | succ k ihk => exact iso_p (phs_9 h9 k) (phs_z hz k) ihk
    have hb : 2 ^ p * 9 ≤ 4608 := by
      have : 2 ^ p ≤ 2 ^ 9 := Nat.pow_le_pow_right (by decide) (by omega)
      have e : (2 : Nat) ^ 9 = 512 := by decide
      omega
    rw [lp_X8_measureWays_98.eq_2, hn, if_neg (fun q => by have := (o3_le (by omega) (by omega)).mp q; omega)]
    obtain ⟨S1, g1, g2, g3⟩ := cw_108 (K := fun S60 => lp_X8_measureWays_98 24 K m (o3 p + (1 : Int32)) S60) (phs_z hz p) (phs_9 h9 p) (phs_bd hM p) (by omega) (hiso p) hnf (p := p) (by omega) nf 0 FU S (by omega) (FU_lt (by omega)) hn (rW_cg hw (fun x y _ _ => by
      unfold mid
      rw [if_neg (by omega)]))
    rw [show (0 : Int32) = o3 0 from rfl, g1, o3_s]
    obtain ⟨S2, k1, k2, k3⟩ := ih (p + 1) m S1 (by omega) (by omega) (by rw [g3.1 24 6 (by decide)]; exact hn) g2
    exact ⟨S2, k1, k2, g3.tr k3⟩
theorem phs_more {w0 : Mx} {nf : Nat} (hz : z0 w0) (h9 : le9 w0) (hi : iso nf w0) : ∀ d, phs w0 (nf + d) = phs w0 nf := by
  have hiso : ∀ k, iso nf (phs w0 k) := by
    intro k
    induction k with
    | zero => exact hi
    | succ k ihk => exact iso_p (phs_9 h9 k) (phs_z hz k) ihk
  intro d
  induction d with
  | zero => rfl
  | succ d ih =>
    show ph (nf + d) (phs w0 (nf + d)) = _
    rw [ph_id (phs_9 h9 _) (phs_z hz _) (hiso _) (by omega), ih]
theorem cw_all {X : fS} {F : List (Nat × Nat)} {E : List (Nat × Nat × Nat × Nat × Nat)} (ht : twC X 24 F E) (hF : F.length ≤ 10) (hE : E.length ≤ 12) (hq : ∀ q ∈ E, okS F.length q) : ∃ Y, f_X8_measureWays 24 X = some Y ∧ rW Y 30 (dst E) ∧ eR 30 X Y := by
  unfold f_X8_measureWays
  obtain ⟨S1, a1, a2, a3⟩ := cw_init (K := fun S15 => lp_X8_measureWays_38 24 (fun S42 => lp_X8_measureWays_98 24 (fun S62 => some S62) FU (0 : Int32) S42) FU (0 : Int32) S15) 100 0 FU X (by omega) (FU_lt (by omega)) (fun j hj => absurd hj (Nat.not_lt_zero _))
  obtain ⟨S2, b1, b2, b3⟩ := cw_stairs (F := F) (K := fun S42 => lp_X8_measureWays_98 24 (fun S62 => some S62) FU (0 : Int32) S42) (fun q h => okS_mo hF (hq q h)) hE E.length 0 FU S1 (by omega) (FU_lt (by omega)) (eR_tw a3 ht) (by rw [List.take_zero]; exact a2)
  have hz : z0 (wSt E) := fold_z _ _ wI_z
  have h9 : le9 (wSt E) := fold_9 _ _ wI_9
  have hi : iso F.length (wSt E) := iso_S _ _ (fun q h => ⟨(hq q h).1, (hq q h).2.1⟩) iso_I
  obtain ⟨S3, c1, c2, c3⟩ := cw_98 (K := fun S62 => some S62) hz h9 (fold_bd E wI (fun q h => (hq q h).2.2.2.2.1) wI_bd) hi hF F.length 0 FU S2 (by omega) (FU_lt (by omega)) ((eR_tw b3 (eR_tw a3 ht)).1) b2
  refine ⟨S3, ?_, ?_, a3.tr (b3.tr c3)⟩
  · rw [show (0 : Int32) = o3 0 from rfl] at a1 b1 ⊢
    rw [a1, b1, c1]
  · have e : dst E = phs (wSt E) F.length := by
      have := phs_more hz h9 hi (10 - F.length)
      rw [show F.length + (10 - F.length) = 10 by omega] at this
      exact this
    rw [e]; exact c2
end
noncomputable section
/-! the class's tower, read to its end -/
theorem eR_TB {S T : fS} {B : TB} (h : eR 30 S T) (hB : TBc S B) : TBc T B := by
  obtain ⟨h1, h2, h3, h4⟩ := hB
  refine ⟨eR_tw h h1, by rw [h.1 31 5 (by decide)]; exact h2, by rw [h.1 31 6 (by decide)]; exact h3, fun k hk => ?_⟩
  rw [h.1 (31 + 1) k (by decide), h.1 (31 + 2) k (by decide), h.1 (31 + 3) k (by decide), h.1 (31 + 4) k (by decide), h.2]
  exact h4 k hk
theorem TBc_tS {S : fS} {B : TB} {i s f : Int32} (hB : TBc S B) : TBc (tS S i s f) B := hB
theorem tall_s {t : Nat → Int32} {n f c i : Nat} {B : TB} : tall t n (f + 1) c i B = if (tcl t n c B i).1 = 0 then
      (if sk t n (tcl t n c B i).2.1 < n then (if t (sk t n (tcl t n c B i).2.1) = 59 then tall t n f (c + 1) (sk t n (tcl t n c B i).2.1 + 1) (tcl t n c B i).2.2 else (1 + 8 * sk t n (tcl t n c B i).2.1, (tcl t n c B i).2.2)) else (0, (tcl t n c B i).2.2))
    else ((tcl t n c B i).1, B) := rfl
theorem ct_readlp {n : Nat} (hl : n ≤ 400) {f : Int32} {K : fS → Option (Int32 × fS)} {t : Nat → Int32} : ∀ d c m B (S : fS) (i : Nat) (s : Int32), S.1 1 1 = o3 n → S.1 2 = t → TBc S B → okB B → i ≤ n → c + d = 24 → d < m → ∃ Y, lp_X9_read_41 K m (o3 c) (tS S (o3 i) s f) = some (if (tall t n (d + 1) c i B).1 = 0 then 1 else 0, Y) ∧ ((tall t n (d + 1) c i B).1 = 0 → TBc Y (tall t n (d + 1) c i B).2 ∧ okB (tall t n (d + 1) c i B).2 ∧ rW Y 30 (dst (tall t n (d + 1) c i B).2.2.1)) ∧ (¬ (tall t n (d + 1) c i B).1 = 0 → Y.1 1 4 = o3 (tall t n (d + 1) c i B).1) := by
  intro d
  induction d with
  | zero =>
    intro c m B S i s hn ht hB hok hi hcd hm
    subst ht
    obtain ⟨m, rfl⟩ : ∃ m', m = m' + 1 := ⟨m - 1, by omega⟩
    rw [lp_X9_read_41.eq_2, if_neg (show ¬ (24 : Int32) < o3 _ from fun q => by have := (o3_lt (a := 24) (by omega) (by omega)).mp q; omega)]
    obtain ⟨S', i', s', e, hT⟩ := ct_clause (s := s) (f := f) hn hl hB hok (c := c) (by omega) hi
    have hz : ¬ (tcl (S.1 2) n c B i).1 = 0 := fun q => by have := (tcl_ok hok q).2; omega
    rw [e, bd_some, if_neg hz, tall_s, if_neg hz]
    dsimp only
    rw [if_pos rfl, if_neg hz]
    exact ⟨_, rfl, fun q => absurd q hz, fun _ => rfl⟩
  | succ d ih =>
    intro c m B S i s hn ht hB hok hi hcd hm
    subst ht
    obtain ⟨m, rfl⟩ : ∃ m', m = m' + 1 := ⟨m - 1, by omega⟩
    rw [lp_X9_read_41.eq_2, if_neg (show ¬ (24 : Int32) < o3 _ from fun q => by have := (o3_lt (a := 24) (by omega) (by omega)).mp q; omega)]
    obtain ⟨S', i', s', e, hT⟩ := ct_clause (s := s) (f := f) hn hl hB hok (c := c) (by omega) hi
    rw [tall_s]
    by_cases hz : (tcl (S.1 2) n c B i).1 = 0
    · rw [if_pos hz] at e
      have hk := ct_keep e
      have hn' : S'.1 1 1 = o3 n := hk.1.trans hn
      have ht' : S'.1 2 = S.1 2 := hk.2
      have hle := tcl_le hi hz
      have hok' := (tcl_ok hok hz).1
      have hB' := hT hz
      have hsk := sk_le (t := S.1 2) hle.1
      rw [e, bd_some, if_pos hz]
      dsimp only
      rw [if_neg (show ¬ (1 : Int32) = 0 by decide), ct_end hn' hl hle.1, bd_some, ht']
      by_cases h1 : sk (S.1 2) n (tcl (S.1 2) n c B i).2.1 < n
      · rw [if_pos h1, if_pos h1]
        dsimp only
        rw [if_pos rfl, ct_sign hn' hl (by decide) hsk, bd_some, ht', sk_id]
        by_cases h2 : S.1 2 (sk (S.1 2) n (tcl (S.1 2) n c B i).2.1) = 59
        · have hc : sk (S.1 2) n (tcl (S.1 2) n c B i).2.1 < n ∧ S.1 2 (sk (S.1 2) n (tcl (S.1 2) n c B i).2.1) = 59 := ⟨h1, h2⟩
          rw [if_pos hc, if_pos h2]
          dsimp only
          rw [if_neg (show ¬ (1 : Int32) = 0 by decide), o3_s]
          exact ih (c + 1) m _ S' _ _ hn' ht' hB' hok' (by omega) (by omega) (by omega)
        · have hc : ¬ (sk (S.1 2) n (tcl (S.1 2) n c B i).2.1 < n ∧ S.1 2 (sk (S.1 2) n (tcl (S.1 2) n c B i).2.1) = 59) := fun q => h2 q.2
          rw [if_neg hc, if_neg h2]
          dsimp only
          rw [if_pos rfl, ct_fail, bd_some, tS_2]
          refine ⟨pI (tS S' (o3 (sk (S.1 2) n (tcl (S.1 2) n c B i).2.1)) s' f) 1 4 (1 + 8 * o3 (sk (S.1 2) n (tcl (S.1 2) n c B i).2.1) + 0), ?_, fun q => absurd q (by show ¬ (1 + 8 * _ = 0); omega), ?_⟩
          · rw [if_neg (by show ¬ (1 + 8 * _ = 0); omega)]; rfl
          · intro _
            show 1 + 8 * o3 (sk (S.1 2) n (tcl (S.1 2) n c B i).2.1) + 0 = _
            rw [show (1 : Int32) = o3 1 from rfl, show (8 : Int32) = o3 8 from rfl, show (0 : Int32) = o3 0 from rfl, o3_mul, o3_add, o3_add]
            rfl
      · rw [if_neg h1, if_neg h1]
        dsimp only
        rw [if_neg (show ¬ (1 : Int32) = 0 by decide)]
        obtain ⟨Y, y1, y2, y3⟩ := cw_all (X := tS S' (o3 (sk (S.1 2) n (tcl (S.1 2) n c B i).2.1)) s' f) (TBc_tS hB').1 hok'.1 hok'.2.1 hok'.2.2.2.2.1
        rw [y1, bd_some]
        exact ⟨Y, rfl, fun _ => ⟨eR_TB y3 (TBc_tS hB'), hok', y2⟩, fun q => absurd rfl q⟩
    · rw [if_neg hz] at e
      rw [e, bd_some, if_neg hz]
      dsimp only
      rw [if_pos rfl, if_neg hz]
      exact ⟨_, rfl, fun q => absurd q hz, fun _ => rfl⟩
/-- the class's reading of the tape as a tower -/
def tw0 (t : Nat → Int32) (n : Nat) : Nat × TB := tall t n 25 0 0 ([], [], [])
theorem c_read {S : fS} {n : Nat} (hn : S.1 1 1 = o3 n) (hl : n ≤ 400) : ∃ Y, f_X9_read S = some (if (tw0 (S.1 2) n).1 = 0 then 1 else 0, Y) ∧ ((tw0 (S.1 2) n).1 = 0 → TBc Y (tw0 (S.1 2) n).2 ∧ okB (tw0 (S.1 2) n).2 ∧ rW Y 30 (dst (tw0 (S.1 2) n).2.2.1)) ∧ (¬ (tw0 (S.1 2) n).1 = 0 → Y.1 1 4 = o3 (tw0 (S.1 2) n).1) := by
  unfold f_X9_read
  rw [bd_some, bd_some, bd_some, bd_some]
  unfold f_X7_rewind
  rw [bd_some, bd_some, bd_some, bd_some]
  exact ct_readlp hl (f := 0) 24 0 FU ([], [], []) (pI (pI (pI (pI S 24 6 0) 24 7 0) 31 5 0) 31 6 0) 0 0 hn rfl ⟨⟨rfl, rfl, fun k hk => absurd hk (Nat.not_lt_zero _), fun k hk => absurd hk (Nat.not_lt_zero _)⟩, rfl, rfl, fun k hk => absurd hk (Nat.not_lt_zero _)⟩ ⟨by decide, by decide, by decide, fun q hq => absurd hq List.not_mem_nil, fun q hq => absurd hq List.not_mem_nil, fun q hq => absurd hq List.not_mem_nil⟩ (by omega) (by omega) (FU_lt (by omega))
end
noncomputable section
/-! the reference reads a tower -/
def TBm (S : fS) (B : TB) : Prop := S.1 145 7 = o3 B.1.length ∧ S.1 145 8 = o3 B.2.1.length ∧ S.1 145 9 = o3 B.2.2.length ∧ (∀ k, k < B.1.length → S.1 151 (2 * k) = o3 (B.1.getD k (0, 0)).1 ∧ S.1 151 (2 * k + 1) = o3 (B.1.getD k (0, 0)).2) ∧ (∀ k, k < B.2.1.length → S.1 152 (5 * k) = o3 (B.2.1.getD k d5).1 ∧ S.1 152 (5 * k + 1) = o3 (B.2.1.getD k d5).2.1 ∧ S.1 152 (5 * k + 2) = o3 (B.2.1.getD k d5).2.2.1 ∧ S.1 152 (5 * k + 3) = o3 (B.2.1.getD k d5).2.2.2.1 ∧ S.1 152 (5 * k + 4) = o3 (B.2.1.getD k d5).2.2.2.2) ∧ (∀ k, k < B.2.2.length → S.1 153 k = o3 (B.2.2.getD k 0))
def wM (a k : Nat) : Prop := (a = 145 ∧ (k = 7 ∨ k = 8 ∨ k = 9)) ∨ a = 151 ∨ a = 152 ∨ a = 153
def eM (S T : fS) : Prop := (∀ a k, ¬ wM a k → T.1 a k = S.1 a k) ∧ T.2 = S.2
theorem eM.rf {S : fS} : eM S S := ⟨fun _ _ _ => rfl, rfl⟩
theorem eM.tr {S T U : fS} (h : eM S T) (g : eM T U) : eM S U := ⟨fun a k n => (g.1 a k n).trans (h.1 a k n), g.2.trans h.2⟩
theorem eM_pI {S : fS} {a k : Nat} {x : Int32} (h : wM a k) : eM S (pI S a k x) := ⟨fun b j n => by
  rw [pI_get]
  by_cases q : b = a ∧ j = k
  · exact absurd (q.1 ▸ q.2 ▸ h) n
  · rw [if_neg q], rfl⟩
theorem mS_p {S : fS} {i w u x : Int32} {a k : Nat} (h : ¬ (a = 145 ∧ (k = 13 ∨ k = 14 ∨ k = 15))) : pI (mS S i w u) a k x = mS (pI S a k x) i w u := by
  unfold mS
  rw [pI_sw (by omega), pI_sw (a := 145) (k := 14) (by omega), pI_sw (a := 145) (k := 13) (by omega)]
theorem mS_ne {S : fS} {i w u : Int32} {a k : Nat} (h : ¬ (a = 145 ∧ (k = 13 ∨ k = 14 ∨ k = 15))) : (mS S i w u).1 a k = S.1 a k := by
  unfold mS
  rw [pI_get, pI_get, pI_get, if_neg (by omega), if_neg (by omega), if_neg (by omega)]
theorem mw_L : ∀ w, w < 16 → ∀ x ∈ mm_sb.getD w [], 97 ≤ x.toInt ∧ x.toInt ≤ 122 := by decide
theorem mw_l : ∀ w, w < 16 → 0 < (mm_sb.getD w []).length ∧ (mm_sb.getD w []).length ≤ 8 := by decide
def mwc : List Int64 := [439905906546, 495873780082, 499967946343, 29807, 26982, 7237492, 7237495, 499967946343, 439905906546, 6383461, 1751478885, 1918989413, 122511331521396, 8750341718045717364, 6385252, 28530]
theorem mw_c : ∀ w, w < 16 → mwc.getD w 0 = Int64.ofNat (pkW (mm_sb.getD w [])) := by decide
section MR
variable {S : fS} {n : Nat} {u : Int32}
theorem mr_word {w : Int32} (hn : S.1 145 1 = o3 n) (hl : n ≤ 400) (c : Int64) (k : Nat) (hk : k < 16) (hc : c = mwc.getD k 0) {i : Nat} (hi : i ≤ n) : f_X11_isWord c (mS S (o3 i) w u) = some (if wat (S.1 146) n (mm_sb.getD k []) (sk (S.1 146) n i) = true then 1 else 0, mS S (o3 (sk (S.1 146) n i)) w u) := mt_isWord hn hl (mw_L k hk) (mw_l k hk).1 (mw_l k hk).2 (hc.trans (mw_c k hk)) hi
theorem mf_fails {X : fS} {i w u : Int32} {p k : Nat} (h0 : w = 0) : f_X11_fails (o3 k) (o3 p) (mS X i w u) = some (0, mS X i (o3 (1 + 8 * p + k)) u) := by
  subst h0
  rw [mt_fails (by rw [mS_14]), mS_wr, show (1 : Int32) = o3 1 from rfl, show (8 : Int32) = o3 8 from rfl, o3_mul, o3_add, o3_add]
/-- one number of a floor -/
theorem mf_floor1 (hn : S.1 145 1 = o3 n) (hl : n ≤ 400) {K : fS → Option (Int32 × fS)} {k p m : Nat} (hk : S.1 145 7 = o3 k) (h10 : k < 10) (hp : p < 2) {i : Nat} (hi : i ≤ n) : ∃ u', lp_X11_isFloorHere_22 K (m + 1) (o3 p) (mS S (o3 i) 0 u) = (if nmf (S.1 146) n i 1 20 = 0 then lp_X11_isFloorHere_22 K m (o3 (p + 1)) (mS (pI S 151 (2 * k + p) (o3 (nmv (S.1 146) n i))) (o3 (nmp (S.1 146) n i)) 0 (o3 (nmv (S.1 146) n i))) else some (0, mS S (o3 (nmp (S.1 146) n i)) (o3 (nmf (S.1 146) n i 1 20)) u')) := by
  rw [lp_X11_isFloorHere_22.eq_2, if_neg (show ¬ (2 : Int32) ≤ o3 _ from fun q => by have := (o3_le (a := 2) (by omega) (by omega)).mp q; omega)]
  obtain ⟨u1, e1⟩ := mt_num (u := u) hn hl (lo := 1) (hi := 20) hi
  rw [l1_20.1, l1_20.2.1] at e1
  refine ⟨u1, ?_⟩
  rw [e1, bd_some]
  by_cases c1 : nmf (S.1 146) n i 1 20 = 0
  · rw [if_pos c1, if_pos c1]
    dsimp only
    rw [if_neg (show ¬ (1 : Int32) = 0 by decide), mS_ne (by omega), mS_15, hk, show (2 : Int32) = o3 2 from rfl, o3_mul, o3_add, sI_o (by omega) (by omega), bd_some, mS_p (by omega), o3_s]
  · rw [if_neg c1, if_neg c1]
    dsimp only
    rw [if_pos (show (0 : Int32) = 0 from rfl)]
theorem mf_floorB {B : TB} {x y : Nat} (hB : TBm S B) : TBm (pI (pI (pI S 151 (2 * B.1.length + 0) (o3 x)) 151 (2 * B.1.length + 1) (o3 y)) 145 7 (o3 (B.1.length + 1))) (B.1 ++ [(x, y)], B.2) := by
  obtain ⟨b1, b2, b3, b4, b5, b6⟩ := hB
  refine ⟨?_, ?_, ?_, fun k hk => ?_, fun k hk => ?_, fun k hk => ?_⟩
  · rw [pI_get, if_pos ⟨rfl, rfl⟩, ln_app]
  · rw [pI_get, if_neg (by omega), pI_get, if_neg (by omega), pI_get, if_neg (by omega)]; exact b2
  · rw [pI_get, if_neg (by omega), pI_get, if_neg (by omega), pI_get, if_neg (by omega)]; exact b3
  · rw [ln_app] at hk
    rw [gd_app]
    by_cases hc : k = B.1.length
    · rw [if_pos hc]
      refine ⟨?_, ?_⟩
      · rw [pI_get, if_neg (by omega), pI_get, if_neg (by omega), pI_get, if_pos (by omega)]
      · rw [pI_get, if_neg (by omega), pI_get, if_pos (by omega)]
    · rw [if_neg hc]
      refine ⟨?_, ?_⟩
      · rw [pI_get, if_neg (by omega), pI_get, if_neg (by omega), pI_get, if_neg (by omega)]
        exact (b4 k (by omega)).1
      · rw [pI_get, if_neg (by omega), pI_get, if_neg (by omega), pI_get, if_neg (by omega)]
        exact (b4 k (by omega)).2
  · have := b5 k hk
    refine ⟨?_, ?_, ?_, ?_, ?_⟩
    · rw [pI_get, if_neg (by omega), pI_get, if_neg (by omega), pI_get, if_neg (by omega)]; exact this.1
    · rw [pI_get, if_neg (by omega), pI_get, if_neg (by omega), pI_get, if_neg (by omega)]; exact this.2.1
    · rw [pI_get, if_neg (by omega), pI_get, if_neg (by omega), pI_get, if_neg (by omega)]; exact this.2.2.1
    · rw [pI_get, if_neg (by omega), pI_get, if_neg (by omega), pI_get, if_neg (by omega)]; exact this.2.2.2.1
    · rw [pI_get, if_neg (by omega), pI_get, if_neg (by omega), pI_get, if_neg (by omega)]; exact this.2.2.2.2
  · rw [pI_get, if_neg (by omega), pI_get, if_neg (by omega), pI_get, if_neg (by omega)]; exact b6 k hk
theorem mf_floorlp (hn : S.1 145 1 = o3 n) (hl : n ≤ 400) {K : fS → Option (Int32 × fS)} {B : TB} (hB : TBm S B) (h10 : B.1.length < 10) {i : Nat} (hi : i ≤ n) : ∃ S' u' i', lp_X11_isFloorHere_22 K FU (o3 0) (mS S (o3 i) 0 u) = (if (tFl (S.1 146) n B i).1 = 0 then K (mS S' (o3 (tFl (S.1 146) n B i).2.1) 0 u') else some (0, mS S' i' (o3 (tFl (S.1 146) n B i).1) u')) ∧ eM S S' ∧ ((tFl (S.1 146) n B i).1 = 0 → TBm (pI S' 145 7 (o3 (B.1.length + 1))) (tFl (S.1 146) n B i).2.2 ∧ S'.1 145 7 = o3 B.1.length) := by
  have hi1 := nmp_le (t := S.1 146) hi
  obtain ⟨mm, hF⟩ := op_FU
  rw [hF]
  obtain ⟨u1, e1⟩ := mf_floor1 (u := u) (K := K) (m := mm + 1 + 1 + 1 + 1) (p := 0) hn hl hB.1 h10 (by omega) hi
  rw [e1]
  unfold tFl
  by_cases c1 : nmf (S.1 146) n i 1 20 = 0
  · rw [if_pos c1, if_pos c1]
    have hn1 : (pI S 151 (2 * B.1.length + 0) (o3 (nmv (S.1 146) n i))).1 145 1 = o3 n := by rw [pI_get, if_neg (by omega)]; exact hn
    have hk1 : (pI S 151 (2 * B.1.length + 0) (o3 (nmv (S.1 146) n i))).1 145 7 = o3 B.1.length := by rw [pI_get, if_neg (by omega)]; exact hB.1
    have ht1 : (pI S 151 (2 * B.1.length + 0) (o3 (nmv (S.1 146) n i))).1 146 = S.1 146 := funext fun k => by rw [pI_get, if_neg (by omega)]
    obtain ⟨u2, e2⟩ := mf_floor1 (u := o3 (nmv (S.1 146) n i)) (K := K) (m := mm + 1 + 1 + 1) (p := 0 + 1) hn1 hl hk1 h10 (by omega) hi1
    rw [ht1] at e2
    rw [e2]
    by_cases c2 : nmf (S.1 146) n (nmp (S.1 146) n i) 1 20 = 0
    · rw [if_pos c2, if_pos c2, lp_X11_isFloorHere_22.eq_2, if_pos (show (2 : Int32) ≤ o3 _ from (o3_le (a := 2) (by omega) (by omega)).mpr (by omega))]
      refine ⟨pI (pI S 151 (2 * B.1.length + 0) (o3 (nmv (S.1 146) n i))) 151 (2 * B.1.length + 1) (o3 (nmv (S.1 146) n (nmp (S.1 146) n i))), _, 0, rfl, (eM_pI (by unfold wM; omega)).tr (eM_pI (by unfold wM; omega)), fun _ => ⟨mf_floorB hB, ?_⟩⟩
      rw [pI_get, if_neg (by omega)]
      exact hk1
    · rw [if_neg c2, if_neg c2]
      exact ⟨pI S 151 (2 * B.1.length + 0) (o3 (nmv (S.1 146) n i)), u2, o3 (nmp (S.1 146) n (nmp (S.1 146) n i)), (if_neg c2).symm, eM_pI (by unfold wM; omega), fun q => absurd q c2⟩
  · rw [if_neg c1, if_neg c1]
    exact ⟨S, u1, o3 (nmp (S.1 146) n i), (if_neg c1).symm, eM.rf, fun q => absurd q c1⟩
end MR
end
noncomputable section
section MR
variable {S : fS} {n : Nat} {u : Int32}
theorem mf_st1 (hn : S.1 145 1 = o3 n) (hl : n ≤ 400) {K : fS → Option (Int32 × fS)} {k p m : Nat} (h12 : k < 12) (hp2 : 2 ≤ p) (hp : p < 5) {i : Nat} (hi : i ≤ n) : ∃ u', lp_X11_isStairHere_114 (o3 (5 * k)) K (m + 1) (o3 p) (mS S (o3 i) 0 u) = (if nmf (S.1 146) n i 1 (if p = 2 then 9 else 20) = 0 then lp_X11_isStairHere_114 (o3 (5 * k)) K m (o3 (p + 1)) (mS (pI S 152 (5 * k + p) (o3 (nmv (S.1 146) n i))) (o3 (nmp (S.1 146) n i)) 0 (o3 (nmv (S.1 146) n i))) else some (0, mS S (o3 (nmp (S.1 146) n i)) (o3 (nmf (S.1 146) n i 1 (if p = 2 then 9 else 20))) u')) := by
  rw [lp_X11_isStairHere_114.eq_2, if_neg (show ¬ (5 : Int32) ≤ o3 _ from fun q => by have := (o3_le (a := 5) (by omega) (by omega)).mp q; omega)]
  by_cases h2 : p = 2
  · rw [if_pos (show o3 p = (2 : Int32) from (o3_inj (b := 2) (by omega) (by omega)).mpr h2), if_pos h2]
    obtain ⟨u1, e1⟩ := mt_num (u := u) hn hl (lo := 1) (hi := 9) hi
    rw [l1_20.1, l1_20.2.2] at e1
    refine ⟨u1, ?_⟩
    rw [e1, bd_some]
    by_cases c1 : nmf (S.1 146) n i 1 9 = 0
    · rw [if_pos c1, if_pos c1]
      dsimp only
      rw [if_neg (show ¬ (1 : Int32) = 0 by decide), mS_15, o3_add, sI_o (by omega) (by omega), bd_some, mS_p (by omega), o3_s]
    · rw [if_neg c1, if_neg c1]
      dsimp only
      rw [if_pos (show (0 : Int32) = 0 from rfl)]
  · rw [if_neg (show ¬ o3 p = (2 : Int32) from fun q => h2 ((o3_inj (b := 2) (by omega) (by omega)).mp q)), if_neg h2]
    obtain ⟨u1, e1⟩ := mt_num (u := u) hn hl (lo := 1) (hi := 20) hi
    rw [l1_20.1, l1_20.2.1] at e1
    refine ⟨u1, ?_⟩
    rw [e1, bd_some]
    by_cases c1 : nmf (S.1 146) n i 1 20 = 0
    · rw [if_pos c1, if_pos c1]
      dsimp only
      rw [if_neg (show ¬ (1 : Int32) = 0 by decide), mS_15, o3_add, sI_o (by omega) (by omega), bd_some, mS_p (by omega), o3_s]
    · rw [if_neg c1, if_neg c1]
      dsimp only
      rw [if_pos (show (0 : Int32) = 0 from rfl)]
def st5 (S : fS) (k a b c d e : Nat) : fS := pI (pI (pI (pI (pI S 152 (5 * k) (o3 a)) 152 (5 * k + 1) (o3 b)) 152 (5 * k + 2) (o3 c)) 152 (5 * k + 3) (o3 d)) 152 (5 * k + 4) (o3 e)
theorem st5_ne {k a b c d e x y : Nat} (h : x ≠ 152 ∨ y < 5 * k) : (st5 S k a b c d e).1 x y = S.1 x y := by
  unfold st5
  rw [pI_get, if_neg (by omega), pI_get, if_neg (by omega), pI_get, if_neg (by omega), pI_get, if_neg (by omega), pI_get, if_neg (by omega)]
theorem st5_eq {k a b c d e : Nat} : (st5 S k a b c d e).1 152 (5 * k) = o3 a ∧ (st5 S k a b c d e).1 152 (5 * k + 1) = o3 b ∧ (st5 S k a b c d e).1 152 (5 * k + 2) = o3 c ∧ (st5 S k a b c d e).1 152 (5 * k + 3) = o3 d ∧ (st5 S k a b c d e).1 152 (5 * k + 4) = o3 e := by
  unfold st5
  refine ⟨?_, ?_, ?_, ?_, ?_⟩
  · rw [pI_get, if_neg (by omega), pI_get, if_neg (by omega), pI_get, if_neg (by omega), pI_get, if_neg (by omega), pI_get, if_pos (by omega)]
  · rw [pI_get, if_neg (by omega), pI_get, if_neg (by omega), pI_get, if_neg (by omega), pI_get, if_pos (by omega)]
  · rw [pI_get, if_neg (by omega), pI_get, if_neg (by omega), pI_get, if_pos (by omega)]
  · rw [pI_get, if_neg (by omega), pI_get, if_pos (by omega)]
  · rw [pI_get, if_pos (by omega)]
theorem mf_stairB {B : TB} {a b c d e : Nat} (hB : TBm S B) : TBm (pI (st5 S B.2.1.length a b c d e) 145 8 (o3 (B.2.1.length + 1))) (B.1, B.2.1 ++ [(a, b, c, d, e)], B.2.2) := by
  obtain ⟨b1, b2, b3, b4, b5, b6⟩ := hB
  have he := st5_eq (S := S) (k := B.2.1.length) (a := a) (b := b) (c := c) (d := d) (e := e)
  refine ⟨?_, ?_, ?_, fun k hk => ⟨?_, ?_⟩, fun k hk => ?_, fun k hk => ?_⟩
  · rw [pI_get, if_neg (by omega), st5_ne (by omega)]; exact b1
  · rw [pI_get, if_pos ⟨rfl, rfl⟩, ln_app]
  · rw [pI_get, if_neg (by omega), st5_ne (by omega)]; exact b3
  · rw [pI_get, if_neg (by omega), st5_ne (by omega)]; exact (b4 k hk).1
  · rw [pI_get, if_neg (by omega), st5_ne (by omega)]; exact (b4 k hk).2
  · rw [ln_app] at hk
    rw [gd_app]
    by_cases hc : k = B.2.1.length
    · subst hc
      rw [if_pos rfl]
      refine ⟨?_, ?_, ?_, ?_, ?_⟩
      · rw [pI_get, if_neg (by omega)]; exact he.1
      · rw [pI_get, if_neg (by omega)]; exact he.2.1
      · rw [pI_get, if_neg (by omega)]; exact he.2.2.1
      · rw [pI_get, if_neg (by omega)]; exact he.2.2.2.1
      · rw [pI_get, if_neg (by omega)]; exact he.2.2.2.2
    · rw [if_neg hc]
      have hk2 : k < B.2.1.length := by omega
      have := b5 k hk2
      refine ⟨?_, ?_, ?_, ?_, ?_⟩
      · rw [pI_get, if_neg (by omega), st5_ne (by omega)]; exact this.1
      · rw [pI_get, if_neg (by omega), st5_ne (by omega)]; exact this.2.1
      · rw [pI_get, if_neg (by omega), st5_ne (by omega)]; exact this.2.2.1
      · rw [pI_get, if_neg (by omega), st5_ne (by omega)]; exact this.2.2.2.1
      · rw [pI_get, if_neg (by omega), st5_ne (by omega)]; exact this.2.2.2.2
  · rw [pI_get, if_neg (by omega), st5_ne (by omega)]; exact b6 k hk
/-- a state that goes on: what the reader needs of it -/
theorem mk_n {a k : Nat} {x : Int32} (hn : S.1 145 1 = o3 n) (h : ¬ (a = 145 ∧ k = 1)) : (pI S a k x).1 145 1 = o3 n := by
  rw [pI_get, if_neg (by omega)]; exact hn
theorem mk_t {a k : Nat} {x : Int32} (h : a ≠ 146) : (pI S a k x).1 146 = S.1 146 := funext fun j => by rw [pI_get, if_neg (by omega)]
/-- the last three numbers of a stair -/
theorem mf_st3 (hn : S.1 145 1 = o3 n) (hl : n ≤ 400) {K : fS → Option (Int32 × fS)} {k : Nat} (h12 : k < 12) {i : Nat} (hi : i ≤ n) : ∃ S' u' i', lp_X11_isStairHere_114 (o3 (5 * k)) K FU (o3 2) (mS S (o3 i) 0 u) = (if nmf (S.1 146) n i 1 9 = 0 then (if nmf (S.1 146) n (nmp (S.1 146) n i) 1 20 = 0 then (if nmf (S.1 146) n (nmp (S.1 146) n (nmp (S.1 146) n i)) 1 20 = 0 then K (mS (pI (pI (pI S 152 (5 * k + 2) (o3 (nmv (S.1 146) n i))) 152 (5 * k + 3) (o3 (nmv (S.1 146) n (nmp (S.1 146) n i)))) 152 (5 * k + 4) (o3 (nmv (S.1 146) n (nmp (S.1 146) n (nmp (S.1 146) n i))))) (o3 (nmp (S.1 146) n (nmp (S.1 146) n (nmp (S.1 146) n i)))) 0 u') else some (0, mS S' i' (o3 (nmf (S.1 146) n (nmp (S.1 146) n (nmp (S.1 146) n i)) 1 20)) u')) else some (0, mS S' i' (o3 (nmf (S.1 146) n (nmp (S.1 146) n i) 1 20)) u')) else some (0, mS S' i' (o3 (nmf (S.1 146) n i 1 9)) u')) ∧ eM S S' := by
  have hi1 := nmp_le (t := S.1 146) hi
  have hi2 := nmp_le (t := S.1 146) hi1
  obtain ⟨mm, hF⟩ := op_FU
  rw [hF]
  obtain ⟨u1, e1⟩ := mf_st1 (u := u) (K := K) (m := mm + 1 + 1 + 1 + 1) (p := 2) hn hl h12 (by omega) (by omega) hi
  rw [if_pos rfl] at e1
  rw [e1]
  by_cases c1 : nmf (S.1 146) n i 1 9 = 0
  · rw [if_pos c1]
    obtain ⟨u2, e2⟩ := mf_st1 (u := o3 (nmv (S.1 146) n i)) (K := K) (m := mm + 1 + 1 + 1) (p := 2 + 1) (mk_n (a := 152) (k := 5 * k + 2) (x := o3 (nmv (S.1 146) n i)) hn (by omega)) hl h12 (by omega) (by omega) hi1
    rw [if_neg (show ¬ (2 + 1 = 2) by omega), mk_t (by omega)] at e2
    rw [e2]
    by_cases c2 : nmf (S.1 146) n (nmp (S.1 146) n i) 1 20 = 0
    · rw [if_pos c2]
      obtain ⟨u3, e3⟩ := mf_st1 (u := o3 (nmv (S.1 146) n (nmp (S.1 146) n i))) (K := K) (m := mm + 1 + 1) (p := 2 + 1 + 1) (mk_n (a := 152) (k := 5 * k + (2 + 1)) (x := o3 (nmv (S.1 146) n (nmp (S.1 146) n i))) (mk_n (a := 152) (k := 5 * k + 2) (x := o3 (nmv (S.1 146) n i)) hn (by omega)) (by omega)) hl h12 (by omega) (by omega) hi2
      rw [if_neg (show ¬ (2 + 1 + 1 = 2) by omega), mk_t (by omega), mk_t (by omega)] at e3
      rw [e3]
      by_cases c3 : nmf (S.1 146) n (nmp (S.1 146) n (nmp (S.1 146) n i)) 1 20 = 0
      · rw [if_pos c3, lp_X11_isStairHere_114.eq_2, if_pos (show (5 : Int32) ≤ o3 _ from (o3_le (a := 5) (by omega) (by omega)).mpr (by omega))]
        exact ⟨S, _, 0, by rw [if_pos c1, if_pos c2, if_pos c3], eM.rf⟩
      · rw [if_neg c3]
        refine ⟨pI (pI S 152 (5 * k + 2) (o3 (nmv (S.1 146) n i))) 152 (5 * k + (2 + 1)) (o3 (nmv (S.1 146) n (nmp (S.1 146) n i))), u3, _, by rw [if_pos c1, if_pos c2, if_neg c3], (eM_pI (by unfold wM; omega)).tr (eM_pI (by unfold wM; omega))⟩
    · rw [if_neg c2]
      exact ⟨pI S 152 (5 * k + 2) (o3 (nmv (S.1 146) n i)), u2, _, by rw [if_pos c1, if_neg c2], eM_pI (by unfold wM; omega)⟩
  · rw [if_neg c1]
    exact ⟨S, u1, _, by rw [if_neg c1], eM.rf⟩
end MR
end
noncomputable section
theorem pI_eq {S : fS} {a k : Nat} {x : Int32} : (pI S a k x).1 a k = x := by rw [pI_get, if_pos ⟨rfl, rfl⟩]
theorem pL_eq {S : fS} {a k : Nat} {x : Int64} : (pL S a k x).2 a k = x := by rw [pL_get, if_pos ⟨rfl, rfl⟩]
section MR
variable {S : fS} {n : Nat} {u : Int32}
theorem mf_lm {m : Nat} (h : m < 1000000) : (o3 m - 1).toInt = m - 1 := o3_p h
theorem mf_stair (hn : S.1 145 1 = o3 n) (hl : n ≤ 400) {B : TB} (hB : TBm S B) (hok : okB B) (h12 : B.2.1.length < 12) {v j : Nat} (hj : j ≤ n) (hw : ll (S.1 146) n j = 5) : ∃ S' u' i', f_X11_isStairHere (o3 v) (mS S (o3 j) 0 u) = some (if (tSt (S.1 146) n B (j + 5)).1 = 0 then (1, mS S' (o3 (tSt (S.1 146) n B (j + 5)).2.1) 0 u') else (0, mS S' i' (o3 (tSt (S.1 146) n B (j + 5)).1) u')) ∧ eM S S' ∧ ((tSt (S.1 146) n B (j + 5)).1 = 0 → TBm S' (tSt (S.1 146) n B (j + 5)).2.2) := by
  have hj5 : j + 5 ≤ n := by have := ll_le (t := S.1 146) (n := n) _ j rfl hj; omega
  have hm : B.1.length < 1000000 := by have := hok.1; omega
  have hi1 := nmp_le (t := S.1 146) hj5
  have hi2 := nmp_le (t := S.1 146) hi1
  have hs2 := sk_le (t := S.1 146) hi1
  unfold f_X11_isStairHere
  rw [mS_ne (by omega), hB.2.1, if_neg (show ¬ o3 _ = (12 : Int32) from fun q => by have := (o3_inj (b := 12) (by omega) (by omega)).mp q; omega), mt_pass hn hl hj, bd_some, hw, mS_ne (by omega), hB.1]
  obtain ⟨u1, e1⟩ := mt_num (u := u) hn hl (lo := 0) (hi := o3 B.1.length - 1) hj5
  rw [mf_lm hm, ni_0] at e1
  rw [e1, bd_some]
  unfold tSt
  by_cases c1 : nmf (S.1 146) n (j + 5) 0 (B.1.length - 1) = 0
  · rw [if_pos c1, if_pos c1]
    dsimp only
    rw [if_neg (show ¬ (1 : Int32) = 0 by decide), mS_15, mS_ne (by omega), hB.2.1, show (5 : Int32) = o3 5 from rfl, o3_mul, sI_o (by omega) (by omega), bd_some, mS_p (by omega)]
    have hn1 := mk_n (a := 152) (k := 5 * B.2.1.length) (x := o3 (nmv (S.1 146) n (j + 5))) hn (by omega)
    have ht1 := mk_t (S := S) (a := 152) (k := 5 * B.2.1.length) (x := o3 (nmv (S.1 146) n (j + 5))) (by omega)
    rw [mt_see hn1 hl hi1, bd_some, ht1]
    dsimp only
    rw [mS_ne (by omega), mS_13, pI_get, if_neg (by omega), hB.1]
    obtain ⟨u2, e2⟩ := mt_num (u := o3 (nmv (S.1 146) n (j + 5))) hn1 hl (lo := 0) (hi := o3 B.1.length - 1) (i := sk (S.1 146) n (nmp (S.1 146) n (j + 5))) hs2
    rw [mf_lm hm, ni_0, ht1] at e2
    have hnmf : ∀ lo hi, nmf (S.1 146) n (sk (S.1 146) n (nmp (S.1 146) n (j + 5))) lo hi = nmf (S.1 146) n (nmp (S.1 146) n (j + 5)) lo hi := fun lo hi => by unfold nmf; rw [sk_id]
    have hnmv : nmv (S.1 146) n (sk (S.1 146) n (nmp (S.1 146) n (j + 5))) = nmv (S.1 146) n (nmp (S.1 146) n (j + 5)) := by unfold nmv; rw [sk_id]
    have hnmp : nmp (S.1 146) n (sk (S.1 146) n (nmp (S.1 146) n (j + 5))) = nmp (S.1 146) n (nmp (S.1 146) n (j + 5)) := by
      generalize nmp (S.1 146) n (j + 5) = x
      unfold nmp
      rw [sk_id]
    rw [hnmf, hnmv, hnmp] at e2
    rw [e2, bd_some]
    have g1 := (nmf_0 c1).2.2
    by_cases c2 : nmf (S.1 146) n (nmp (S.1 146) n (j + 5)) 0 (B.1.length - 1) = 0
    · have g2 := (nmf_0 c2).2.2
      rw [if_pos c2, if_pos c2]
      dsimp only
      rw [if_neg (show ¬ (1 : Int32) = 0 by decide), gI_o (by omega) (by omega), bd_some, mS_15, mS_ne (by omega), pI_eq]
      by_cases c3 : nmv (S.1 146) n (j + 5) = nmv (S.1 146) n (nmp (S.1 146) n (j + 5))
      · rw [if_pos (show o3 (nmv (S.1 146) n (nmp (S.1 146) n (j + 5))) = o3 (nmv (S.1 146) n (j + 5)) by rw [c3]), if_pos c3, show (1 : Int32) = o3 1 from rfl, mf_fails rfl, bd_some]
        refine ⟨pI S 152 (5 * B.2.1.length) (o3 (nmv (S.1 146) n (j + 5))), o3 (nmv (S.1 146) n (nmp (S.1 146) n (j + 5))), o3 (nmp (S.1 146) n (nmp (S.1 146) n (j + 5))), ?_, eM_pI (by unfold wM; omega), fun q => absurd q (by show ¬ (1 + 8 * _ + 1 = 0); omega)⟩
        rw [if_neg (by show ¬ (1 + 8 * _ + 1 = 0); omega)]
        rfl
      · rw [if_neg (fun q => c3 ((o3_inj (by omega) (by omega)).mp q).symm), if_neg c3, show (1 : Int32) = o3 1 from rfl, o3_add, sI_o (by omega) (by omega), bd_some, mS_p (by omega)]
        have hn2 := mk_n (a := 152) (k := 5 * B.2.1.length + 1) (x := o3 (nmv (S.1 146) n (nmp (S.1 146) n (j + 5)))) hn1 (by omega)
        have ht2 := mk_t (S := pI S 152 (5 * B.2.1.length) (o3 (nmv (S.1 146) n (j + 5)))) (a := 152) (k := 5 * B.2.1.length + 1) (x := o3 (nmv (S.1 146) n (nmp (S.1 146) n (j + 5)))) (by omega)
        rw [ht1] at ht2
        obtain ⟨S3, u3, i3, e3, f3⟩ := mf_st3 (u := o3 (nmv (S.1 146) n (nmp (S.1 146) n (j + 5)))) (K := fun S42 => (some (pI S42 145 8 ((S42.1 145 8) + (1 : Int32)))).bind fun S44 => some ((1 : Int32), S44)) hn2 hl h12 hi2
        rw [ht2] at e3
        rw [show (2 : Int32) = o3 2 from rfl]
        rw [show o3 1 = (1 : Int32) from rfl]
        have f4 := ((eM_pI (S := S) (a := 152) (k := 5 * B.2.1.length) (x := o3 (nmv (S.1 146) n (j + 5))) (by unfold wM; omega)).tr (eM_pI (a := 152) (k := 5 * B.2.1.length + 1) (x := o3 (nmv (S.1 146) n (nmp (S.1 146) n (j + 5)))) (by unfold wM; omega))).tr f3
        rw [e3]
        unfold tPc
        generalize hp2 : nmp (S.1 146) n (nmp (S.1 146) n (j + 5)) = p2
        by_cases c4 : nmf (S.1 146) n p2 1 9 = 0
        · rw [if_pos c4, if_pos c4]
          by_cases c5 : nmf (S.1 146) n (nmp (S.1 146) n p2) 1 20 = 0
          · rw [if_pos c5, if_pos c5]
            by_cases c6 : nmf (S.1 146) n (nmp (S.1 146) n (nmp (S.1 146) n p2)) 1 20 = 0
            · rw [if_pos c6, if_pos c6, bd_some, mS_p (by omega)]
              refine ⟨pI (st5 S B.2.1.length (nmv (S.1 146) n (j + 5)) (nmv (S.1 146) n (nmp (S.1 146) n (j + 5))) (nmv (S.1 146) n p2) (nmv (S.1 146) n (nmp (S.1 146) n p2)) (nmv (S.1 146) n (nmp (S.1 146) n (nmp (S.1 146) n p2)))) 145 8 (o3 (B.2.1.length + 1)), u3, 0, ?_, ?_, fun _ => mf_stairB hB⟩
              · have hk8 : (st5 S B.2.1.length (nmv (S.1 146) n (j + 5)) (nmv (S.1 146) n (nmp (S.1 146) n (j + 5))) (nmv (S.1 146) n p2) (nmv (S.1 146) n (nmp (S.1 146) n p2)) (nmv (S.1 146) n (nmp (S.1 146) n (nmp (S.1 146) n p2)))).1 145 8 = o3 B.2.1.length := by rw [st5_ne (by omega)]; exact hB.2.1
                have hk9 : (mS (st5 S B.2.1.length (nmv (S.1 146) n (j + 5)) (nmv (S.1 146) n (nmp (S.1 146) n (j + 5))) (nmv (S.1 146) n p2) (nmv (S.1 146) n (nmp (S.1 146) n p2)) (nmv (S.1 146) n (nmp (S.1 146) n (nmp (S.1 146) n p2)))) (o3 (nmp (S.1 146) n (nmp (S.1 146) n (nmp (S.1 146) n p2)))) 0 u3).1 145 8 + 1 = o3 (B.2.1.length + 1) := by rw [mS_ne (by omega), hk8, o3_s]
                unfold st5 at hk9 ⊢
                rw [hk9]
                rw [if_pos (show (0 : Nat) = 0 from rfl)]
              · unfold st5
                exact (((((eM_pI (by unfold wM; omega)).tr (eM_pI (by unfold wM; omega))).tr (eM_pI (by unfold wM; omega))).tr (eM_pI (by unfold wM; omega))).tr (eM_pI (by unfold wM; omega))).tr (eM_pI (by unfold wM; omega))
            · rw [if_neg c6, if_neg c6]
              exact ⟨S3, u3, i3, by rw [if_neg c6], f4, fun q => absurd q c6⟩
          · rw [if_neg c5, if_neg c5]
            exact ⟨S3, u3, i3, by rw [if_neg c5], f4, fun q => absurd q c5⟩
        · rw [if_neg c4, if_neg c4]
          exact ⟨S3, u3, i3, by rw [if_neg c4], f4, fun q => absurd q c4⟩
    · rw [if_neg c2, if_neg c2]
      dsimp only
      rw [if_pos (show (0 : Int32) = 0 from rfl)]
      exact ⟨pI S 152 (5 * B.2.1.length) (o3 (nmv (S.1 146) n (j + 5))), _, _, by rw [if_neg c2], eM_pI (by unfold wM; omega), fun q => absurd q c2⟩
  · rw [if_neg c1, if_neg c1]
    dsimp only
    rw [if_pos (show (0 : Int32) = 0 from rfl)]
    exact ⟨S, _, _, by rw [if_neg c1], eM.rf, fun q => absurd q c1⟩
end MR
end
noncomputable section
section MR
variable {S : fS} {n : Nat} {u : Int32}
theorem mf_floor (hn : S.1 145 1 = o3 n) (hl : n ≤ 400) {B : TB} (hB : TBm S B) (h10 : B.1.length < 10) {v j : Nat} (hj : j ≤ n) (hw : ll (S.1 146) n j = 5) : ∃ S' u' i', f_X11_isFloorHere (o3 v) (mS S (o3 j) 0 u) = some (if (tFl (S.1 146) n B (j + 5)).1 = 0 then (1, mS S' (o3 (tFl (S.1 146) n B (j + 5)).2.1) 0 u') else (0, mS S' i' (o3 (tFl (S.1 146) n B (j + 5)).1) u')) ∧ eM S S' ∧ ((tFl (S.1 146) n B (j + 5)).1 = 0 → TBm S' (tFl (S.1 146) n B (j + 5)).2.2) := by
  have hj5 : j + 5 ≤ n := by have := ll_le (t := S.1 146) (n := n) _ j rfl hj; omega
  unfold f_X11_isFloorHere
  rw [mS_ne (by omega), hB.1, if_neg (show ¬ o3 _ = (10 : Int32) from fun q => by have := (o3_inj (b := 10) (by omega) (by omega)).mp q; omega), mt_pass hn hl hj, bd_some, hw]
  obtain ⟨S1, u1, i1, e1, f1, g1⟩ := mf_floorlp (u := u) (K := fun S13 => (some (pI S13 145 7 ((S13.1 145 7) + (1 : Int32)))).bind fun S15 => some ((1 : Int32), S15)) hn hl hB h10 hj5
  rw [show (0 : Int32) = o3 0 from rfl] at e1 ⊢
  rw [e1]
  by_cases hz : (tFl (S.1 146) n B (j + 5)).1 = 0
  · rw [if_pos hz, bd_some, mS_p (by omega), mS_ne (by omega), (g1 hz).2, o3_s]
    exact ⟨pI S1 145 7 (o3 (B.1.length + 1)), u1, 0, by rw [if_pos hz], f1.tr (eM_pI (by unfold wM; omega)), fun _ => (g1 hz).1⟩
  · rw [if_neg hz]
    exact ⟨S1, u1, i1, by rw [if_neg hz], f1, fun q => absurd q hz⟩
theorem mf_thing (hn : S.1 145 1 = o3 n) (hl : n ≤ 400) {B : TB} (hB : TBm S B) (hok : okB B) (h8 : B.2.2.length < 8) {v j : Nat} (hj : j ≤ n) (hw : ll (S.1 146) n j = 5) : ∃ S' u' i', f_X11_isThingHere (o3 v) (mS S (o3 j) 0 u) = some (if (tTh (S.1 146) n B (j + 5)).1 = 0 then (1, mS S' (o3 (tTh (S.1 146) n B (j + 5)).2.1) 0 u') else (0, mS S' i' (o3 (tTh (S.1 146) n B (j + 5)).1) u')) ∧ eM S S' ∧ ((tTh (S.1 146) n B (j + 5)).1 = 0 → TBm S' (tTh (S.1 146) n B (j + 5)).2.2) := by
  have hj5 : j + 5 ≤ n := by have := ll_le (t := S.1 146) (n := n) _ j rfl hj; omega
  have hm : B.1.length < 1000000 := by have := hok.1; omega
  unfold f_X11_isThingHere
  rw [mS_ne (by omega), hB.2.2.1, if_neg (show ¬ o3 _ = (8 : Int32) from fun q => by have := (o3_inj (b := 8) (by omega) (by omega)).mp q; omega), mt_pass hn hl hj, bd_some, hw, mS_ne (by omega), hB.1]
  obtain ⟨u1, e1⟩ := mt_num (u := u) hn hl (lo := 0) (hi := o3 B.1.length - 1) hj5
  rw [mf_lm hm, ni_0] at e1
  rw [e1, bd_some]
  unfold tTh
  by_cases c1 : nmf (S.1 146) n (j + 5) 0 (B.1.length - 1) = 0
  · rw [if_pos c1, if_pos c1]
    dsimp only
    rw [if_neg (show ¬ (1 : Int32) = 0 by decide), mS_15, mS_ne (by omega), hB.2.2.1, sI_o (by omega) (by omega), bd_some, mS_p (by omega), bd_some, mS_ne (by omega), pI_get, if_neg (by omega), hB.2.2.1, mS_p (by omega), o3_s]
    refine ⟨pI (pI S 153 B.2.2.length (o3 (nmv (S.1 146) n (j + 5)))) 145 9 (o3 (B.2.2.length + 1)), _, 0, rfl, (eM_pI (by unfold wM; omega)).tr (eM_pI (by unfold wM; omega)), fun _ => ?_⟩
    obtain ⟨b1, b2, b3, b4, b5, b6⟩ := hB
    refine ⟨?_, ?_, ?_, fun k hk => ⟨?_, ?_⟩, fun k hk => ⟨?_, ?_, ?_, ?_, ?_⟩, fun k hk => ?_⟩
    · rw [pI_get, if_neg (by omega), pI_get, if_neg (by omega)]; exact b1
    · rw [pI_get, if_neg (by omega), pI_get, if_neg (by omega)]; exact b2
    · rw [pI_eq, ln_app]
    · rw [pI_get, if_neg (by omega), pI_get, if_neg (by omega)]; exact (b4 k hk).1
    · rw [pI_get, if_neg (by omega), pI_get, if_neg (by omega)]; exact (b4 k hk).2
    · rw [pI_get, if_neg (by omega), pI_get, if_neg (by omega)]; exact (b5 k hk).1
    · rw [pI_get, if_neg (by omega), pI_get, if_neg (by omega)]; exact (b5 k hk).2.1
    · rw [pI_get, if_neg (by omega), pI_get, if_neg (by omega)]; exact (b5 k hk).2.2.1
    · rw [pI_get, if_neg (by omega), pI_get, if_neg (by omega)]; exact (b5 k hk).2.2.2.1
    · rw [pI_get, if_neg (by omega), pI_get, if_neg (by omega)]; exact (b5 k hk).2.2.2.2
    · rw [ln_app] at hk
      rw [gd_app, pI_get, if_neg (by omega)]
      by_cases hc : k = B.2.2.length
      · rw [if_pos hc, hc, pI_eq]
      · rw [if_neg hc, pI_get, if_neg (by omega)]
        exact b6 k (by omega)
  · rw [if_neg c1, if_neg c1]
    dsimp only
    rw [if_pos (show (0 : Int32) = 0 from rfl)]
    exact ⟨S, _, _, by rw [if_neg c1], eM.rf, fun q => absurd q c1⟩
theorem TBm_19 {B : TB} {x : Int32} (hB : TBm S B) : TBm (pI S 145 19 x) B := by
  obtain ⟨b1, b2, b3, b4, b5, b6⟩ := hB
  refine ⟨?_, ?_, ?_, fun k hk => ⟨?_, ?_⟩, fun k hk => ⟨?_, ?_, ?_, ?_, ?_⟩, fun k hk => ?_⟩
  · rw [pI_get, if_neg (by omega)]; exact b1
  · rw [pI_get, if_neg (by omega)]; exact b2
  · rw [pI_get, if_neg (by omega)]; exact b3
  · rw [pI_get, if_neg (by omega)]; exact (b4 k hk).1
  · rw [pI_get, if_neg (by omega)]; exact (b4 k hk).2
  · rw [pI_get, if_neg (by omega)]; exact (b5 k hk).1
  · rw [pI_get, if_neg (by omega)]; exact (b5 k hk).2.1
  · rw [pI_get, if_neg (by omega)]; exact (b5 k hk).2.2.1
  · rw [pI_get, if_neg (by omega)]; exact (b5 k hk).2.2.2.1
  · rw [pI_get, if_neg (by omega)]; exact (b5 k hk).2.2.2.2
  · rw [pI_get, if_neg (by omega)]; exact b6 k hk
theorem mc_101 {p2 : Int32} {p1 c : Nat} {i : Int32} (hc : c < 24) (h19 : S.1 145 19 = o3 c) (hp2 : p2 = 1) : j_X11_clauseHere_101 (o3 p1) p2 (24 : Int32) ((mS S i 0 u).1 145 19) (mS S i 0 u) = ((f_X11_isWord (439905906546 : Int64) (mS (pI S 145 19 (o3 (c + 1))) i 0 u)).bind fun q16 =>
  if q16.1 = (0 : Int32) then ((f_X11_isWord (495873780082 : Int64) q16.2).bind fun q20 =>
  if q20.1 = (0 : Int32) then ((f_X11_isThingHere (o3 p1) q20.2).bind fun q24 =>
  j_X11_clauseHere_171  q24.1 q24.2) else
  ((f_X11_isStairHere (o3 p1) q20.2).bind fun q32 =>
  j_X11_clauseHere_171  q32.1 q32.2)) else
  ((f_X11_isFloorHere (o3 p1) q16.2).bind fun q35 =>
  j_X11_clauseHere_171  q35.1 q35.2)) := by
  unfold j_X11_clauseHere_101
  rw [mS_ne (by omega), h19, if_neg (show ¬ o3 _ = (24 : Int32) from fun q => by have := (o3_inj (b := 24) (by omega) (by omega)).mp q; omega), bd_some, hp2, if_neg (show ¬ (1 : Int32) = 0 by decide), mS_p (by omega), o3_s]
theorem mc_full {p2 : Int32} {p1 c : Nat} {i : Int32} (hc : c = 24) (h19 : S.1 145 19 = o3 c) : j_X11_clauseHere_101 (o3 p1) p2 (24 : Int32) ((mS S i 0 u).1 145 19) (mS S i 0 u) = some (0, mS S i (o3 (1 + 8 * p1 + 4)) u) := by
  unfold j_X11_clauseHere_101
  rw [mS_ne (by omega), h19, if_pos (show o3 _ = (24 : Int32) from (o3_inj (b := 24) (by omega) (by omega)).mpr hc), show (4 : Int32) = o3 4 from rfl, mf_fails rfl, bd_some]
  rfl
theorem mc_171 {x : Int32} {X : fS} (h : x = 0 ∨ x = 1) : j_X11_clauseHere_171 x X = some (x, X) := by
  unfold j_X11_clauseHere_171 bZ
  rw [if_pos h]
  rfl
theorem ll_of {t : Nat → Int32} {j k : Nat} (hk : k < 16) (h : wat t n (mm_sb.getD k []) j = true) : ll t n j = (mm_sb.getD k []).length := ((wat_ll _ _ (mw_L k hk)).mp h).1
end MR
end
noncomputable section
section MR
variable {S : fS} {n : Nat} {u : Int32}
/-- a clause counts itself, too -/
def eC (S T : fS) : Prop := (∀ a k, ¬ (wM a k ∨ (a = 145 ∧ k = 19)) → T.1 a k = S.1 a k) ∧ T.2 = S.2
theorem eC.rf {S : fS} : eC S S := ⟨fun _ _ _ => rfl, rfl⟩
theorem eC.tr {S T U : fS} (h : eC S T) (g : eC T U) : eC S U := ⟨fun a k n => (g.1 a k n).trans (h.1 a k n), g.2.trans h.2⟩
theorem eC_of {S T : fS} (h : eM S T) : eC S T := ⟨fun a k n => h.1 a k (fun q => n (Or.inl q)), h.2⟩
theorem eC_19 {S : fS} {x : Int32} : eC S (pI S 145 19 x) := ⟨fun a k n => by rw [pI_get, if_neg (fun q => n (Or.inr q))], rfl⟩
theorem mc_clause (hn : S.1 145 1 = o3 n) (hl : n ≤ 400) {B : TB} (hB : TBm S B) (hok : okB B) {c i : Nat} (hc : c ≤ 24) (h19 : S.1 145 19 = o3 c) (h16 : S.1 145 16 = 6) (hi : i ≤ n) : ∃ S' u' i', f_X11_clauseHere (mS S (o3 i) 0 u) = some (if (tcl (S.1 146) n c B i).1 = 0 then (1, mS S' (o3 (tcl (S.1 146) n c B i).2.1) 0 u') else (0, mS S' i' (o3 (tcl (S.1 146) n c B i).1) u')) ∧ eC S S' ∧ ((tcl (S.1 146) n c B i).1 = 0 → TBm S' (tcl (S.1 146) n c B i).2.2 ∧ S'.1 145 19 = o3 (c + 1)) := by
  have hj := sk_le (t := S.1 146) hi
  have hok2 := hok
  obtain ⟨b1, b2, b3, -⟩ := hok2
  have hB1 := TBm_19 (x := o3 (c + 1)) hB
  have hn1 : (pI S 145 19 (o3 (c + 1))).1 145 1 = o3 n := mk_n hn (by omega)
  have ht1 : (pI S 145 19 (o3 (c + 1))).1 146 = S.1 146 := mk_t (by omega)
  have hE1 : eC S (pI S 145 19 (o3 (c + 1))) := eC_19
  unfold f_X11_clauseHere
  rw [mt_see hn hl hi, bd_some]
  dsimp only
  rw [mS_ne (by omega), h16, if_pos rfl, mS_13]
  unfold j_X11_clauseHere_24
  rw [if_neg (show ¬ (1 : Int32) = 0 by decide), mr_word hn hl 439905906546 0 (by omega) rfl hj, bd_some, sk_id]
  have hfull : ∀ s0 : Int32, s0 = 1 → c = 24 → j_X11_clauseHere_74 (o3 (sk (S.1 146) n i)) 1 s0 (mS S (o3 (sk (S.1 146) n i)) 0 u) = some (0, mS S (o3 (sk (S.1 146) n i)) (o3 (1 + 8 * sk (S.1 146) n i + 4)) u) := fun s0 h0 h24 => by
    unfold j_X11_clauseHere_74
    rw [h0, if_neg (show ¬ (1 : Int32) = 0 by decide), if_neg (show ¬ (1 : Int32) = 0 by decide), mc_full h24 h19]
  have hgo : ∀ s0 : Int32, s0 = 1 → c < 24 → j_X11_clauseHere_74 (o3 (sk (S.1 146) n i)) 1 s0 (mS S (o3 (sk (S.1 146) n i)) 0 u) = (if wat (S.1 146) n (mm_sb.getD 0 []) (sk (S.1 146) n i) = true then ((f_X11_isFloorHere (o3 (sk (S.1 146) n i)) (mS (pI S 145 19 (o3 (c + 1))) (o3 (sk (S.1 146) n i)) 0 u)).bind fun q35 => j_X11_clauseHere_171 q35.1 q35.2) else if wat (S.1 146) n (mm_sb.getD 1 []) (sk (S.1 146) n i) = true then ((f_X11_isStairHere (o3 (sk (S.1 146) n i)) (mS (pI S 145 19 (o3 (c + 1))) (o3 (sk (S.1 146) n i)) 0 u)).bind fun q32 => j_X11_clauseHere_171 q32.1 q32.2) else ((f_X11_isThingHere (o3 (sk (S.1 146) n i)) (mS (pI S 145 19 (o3 (c + 1))) (o3 (sk (S.1 146) n i)) 0 u)).bind fun q24 => j_X11_clauseHere_171 q24.1 q24.2)) := fun s0 h0 h24 => by
    unfold j_X11_clauseHere_74
    rw [h0, if_neg (show ¬ (1 : Int32) = 0 by decide), if_neg (show ¬ (1 : Int32) = 0 by decide), mc_101 h24 h19 rfl, mr_word hn1 hl 439905906546 0 (by omega) rfl hj, bd_some, ht1, sk_id]
    by_cases w0 : wat (S.1 146) n (mm_sb.getD 0 []) (sk (S.1 146) n i) = true
    · rw [if_pos w0, if_pos w0, if_neg (show ¬ (1 : Int32) = 0 by decide)]
    · rw [if_neg w0, if_neg w0, if_pos (show (0 : Int32) = 0 from rfl)]
      dsimp only
      rw [mr_word hn1 hl 495873780082 1 (by omega) rfl hj, bd_some, ht1, sk_id]
      by_cases w1 : wat (S.1 146) n (mm_sb.getD 1 []) (sk (S.1 146) n i) = true
      · rw [if_pos w1, if_pos w1, if_neg (show ¬ (1 : Int32) = 0 by decide)]
      · rw [if_neg w1, if_neg w1, if_pos (show (0 : Int32) = 0 from rfl)]
  unfold j_X11_clauseHere_59
  by_cases w0 : wat (S.1 146) n (mm_sb.getD 0 []) (sk (S.1 146) n i) = true
  · rw [if_pos w0, if_neg (show ¬ (1 : Int32) = 0 by decide)]
    dsimp only
    have hll : ll ((pI S 145 19 (o3 (c + 1))).1 146) n (sk (S.1 146) n i) = 5 := by rw [ht1]; exact ll_of (by omega) w0
    by_cases h24 : c = 24
    · rw [hfull 1 rfl h24]
      have ht : tcl (S.1 146) n c B i = (1 + 8 * sk (S.1 146) n i + 4, 0, B) := by unfold tcl; rw [if_pos w0, if_pos (Or.inr (by omega))]
      rw [ht]
      exact ⟨S, u, _, by rw [if_neg (by show ¬ (1 + 8 * _ + 4 = 0); omega)], eC.rf, fun q => absurd q (by show ¬ (1 + 8 * _ + 4 = 0); omega)⟩
    · rw [hgo 1 rfl (by omega), if_pos w0]
      by_cases hfu : B.1.length = 10
      · have ht : tcl (S.1 146) n c B i = (1 + 8 * sk (S.1 146) n i + 4, 0, B) := by unfold tcl; rw [if_pos w0, if_pos (Or.inl (by omega))]
        rw [ht]
        unfold f_X11_isFloorHere
        rw [mS_ne (by omega), hB1.1, if_pos (show o3 _ = (10 : Int32) from (o3_inj (b := 10) (by omega) (by omega)).mpr hfu), show (4 : Int32) = o3 4 from rfl, mf_fails rfl, bd_some]
        refine ⟨pI S 145 19 (o3 (c + 1)), u, o3 (sk (S.1 146) n i), ?_, hE1, fun q => absurd q (by show ¬ (1 + 8 * _ + 4 = 0); omega)⟩
        rw [if_neg (by show ¬ (1 + 8 * _ + 4 = 0); omega)]
        rfl
      · have ht : tcl (S.1 146) n c B i = tFl (S.1 146) n B (sk (S.1 146) n i + 5) := by unfold tcl; rw [if_pos w0, if_neg (by omega)]
        rw [ht]
        obtain ⟨S1, u1, i1, e1, f1, g1⟩ := mf_floor (u := u) (v := sk (S.1 146) n i) hn1 hl hB1 (by omega) hj hll
        rw [ht1] at e1 g1
        rw [e1, bd_some]
        refine ⟨S1, u1, i1, ?_, hE1.tr (eC_of f1), fun q => ⟨g1 q, by rw [f1.1 145 19 (by unfold wM; omega), pI_eq]⟩⟩
        by_cases hz : (tFl (S.1 146) n B (sk (S.1 146) n i + 5)).1 = 0
        · rw [if_pos hz, mc_171 (Or.inr rfl)]
        · rw [if_neg hz, mc_171 (Or.inl rfl)]
  · rw [if_neg w0, if_pos (show (0 : Int32) = 0 from rfl)]
    dsimp only
    rw [mr_word hn hl 495873780082 1 (by omega) rfl hj, bd_some, sk_id]
    by_cases w1 : wat (S.1 146) n (mm_sb.getD 1 []) (sk (S.1 146) n i) = true
    · rw [if_pos w1, if_neg (show ¬ (1 : Int32) = 0 by decide)]
      dsimp only
      have hll : ll ((pI S 145 19 (o3 (c + 1))).1 146) n (sk (S.1 146) n i) = 5 := by rw [ht1]; exact ll_of (by omega) w1
      by_cases h24 : c = 24
      · rw [hfull 1 rfl h24]
        have ht : tcl (S.1 146) n c B i = (1 + 8 * sk (S.1 146) n i + 4, 0, B) := by unfold tcl; rw [if_neg w0, if_pos w1, if_pos (Or.inr (by omega))]
        rw [ht]
        exact ⟨S, u, _, by rw [if_neg (by show ¬ (1 + 8 * _ + 4 = 0); omega)], eC.rf, fun q => absurd q (by show ¬ (1 + 8 * _ + 4 = 0); omega)⟩
      · rw [hgo 1 rfl (by omega), if_neg w0, if_pos w1]
        by_cases hfu : B.2.1.length = 12
        · have ht : tcl (S.1 146) n c B i = (1 + 8 * sk (S.1 146) n i + 4, 0, B) := by unfold tcl; rw [if_neg w0, if_pos w1, if_pos (Or.inl (by omega))]
          rw [ht]
          unfold f_X11_isStairHere
          rw [mS_ne (by omega), hB1.2.1, if_pos (show o3 _ = (12 : Int32) from (o3_inj (b := 12) (by omega) (by omega)).mpr hfu), show (4 : Int32) = o3 4 from rfl, mf_fails rfl, bd_some]
          refine ⟨pI S 145 19 (o3 (c + 1)), u, o3 (sk (S.1 146) n i), ?_, hE1, fun q => absurd q (by show ¬ (1 + 8 * _ + 4 = 0); omega)⟩
          rw [if_neg (by show ¬ (1 + 8 * _ + 4 = 0); omega)]
          rfl
        · have ht : tcl (S.1 146) n c B i = tSt (S.1 146) n B (sk (S.1 146) n i + 5) := by unfold tcl; rw [if_neg w0, if_pos w1, if_neg (by omega)]
          rw [ht]
          obtain ⟨S1, u1, i1, e1, f1, g1⟩ := mf_stair (u := u) (v := sk (S.1 146) n i) hn1 hl hB1 hok (by omega) hj hll
          rw [ht1] at e1 g1
          rw [e1, bd_some]
          refine ⟨S1, u1, i1, ?_, hE1.tr (eC_of f1), fun q => ⟨g1 q, by rw [f1.1 145 19 (by unfold wM; omega), pI_eq]⟩⟩
          by_cases hz : (tSt (S.1 146) n B (sk (S.1 146) n i + 5)).1 = 0
          · rw [if_pos hz, mc_171 (Or.inr rfl)]
          · rw [if_neg hz, mc_171 (Or.inl rfl)]
    · rw [if_neg w1, if_pos (show (0 : Int32) = 0 from rfl)]
      dsimp only
      rw [mr_word hn hl 499967946343 2 (by omega) rfl hj, bd_some, sk_id]
      by_cases w2 : wat (S.1 146) n (mm_sb.getD 2 []) (sk (S.1 146) n i) = true
      · rw [if_pos w2, if_neg (show ¬ (1 : Int32) = 0 by decide)]
        dsimp only
        have hll : ll ((pI S 145 19 (o3 (c + 1))).1 146) n (sk (S.1 146) n i) = 5 := by rw [ht1]; exact ll_of (by omega) w2
        by_cases h24 : c = 24
        · rw [hfull 1 rfl h24]
          have ht : tcl (S.1 146) n c B i = (1 + 8 * sk (S.1 146) n i + 4, 0, B) := by unfold tcl; rw [if_neg w0, if_neg w1, if_pos w2, if_pos (Or.inr (by omega))]
          rw [ht]
          exact ⟨S, u, _, by rw [if_neg (by show ¬ (1 + 8 * _ + 4 = 0); omega)], eC.rf, fun q => absurd q (by show ¬ (1 + 8 * _ + 4 = 0); omega)⟩
        · rw [hgo 1 rfl (by omega), if_neg w0, if_neg w1]
          by_cases hfu : B.2.2.length = 8
          · have ht : tcl (S.1 146) n c B i = (1 + 8 * sk (S.1 146) n i + 4, 0, B) := by unfold tcl; rw [if_neg w0, if_neg w1, if_pos w2, if_pos (Or.inl (by omega))]
            rw [ht]
            unfold f_X11_isThingHere
            rw [mS_ne (by omega), hB1.2.2.1, if_pos (show o3 _ = (8 : Int32) from (o3_inj (b := 8) (by omega) (by omega)).mpr hfu), show (4 : Int32) = o3 4 from rfl, mf_fails rfl, bd_some]
            refine ⟨pI S 145 19 (o3 (c + 1)), u, o3 (sk (S.1 146) n i), ?_, hE1, fun q => absurd q (by show ¬ (1 + 8 * _ + 4 = 0); omega)⟩
            rw [if_neg (by show ¬ (1 + 8 * _ + 4 = 0); omega)]
            rfl
          · have ht : tcl (S.1 146) n c B i = tTh (S.1 146) n B (sk (S.1 146) n i + 5) := by unfold tcl; rw [if_neg w0, if_neg w1, if_pos w2, if_neg (by omega)]
            rw [ht]
            obtain ⟨S1, u1, i1, e1, f1, g1⟩ := mf_thing (u := u) (v := sk (S.1 146) n i) hn1 hl hB1 hok (by omega) hj hll
            rw [ht1] at e1 g1
            rw [e1, bd_some]
            refine ⟨S1, u1, i1, ?_, hE1.tr (eC_of f1), fun q => ⟨g1 q, by rw [f1.1 145 19 (by unfold wM; omega), pI_eq]⟩⟩
            by_cases hz : (tTh (S.1 146) n B (sk (S.1 146) n i + 5)).1 = 0
            · rw [if_pos hz, mc_171 (Or.inr rfl)]
            · rw [if_neg hz, mc_171 (Or.inl rfl)]
      · rw [if_neg w2, if_pos (show (0 : Int32) = 0 from rfl)]
        unfold j_X11_clauseHere_74
        rw [if_pos (show (0 : Int32) = 0 from rfl)]
        dsimp only
        rw [show f_X11_fails 0 (o3 (sk (S.1 146) n i)) (mS S (o3 (sk (S.1 146) n i)) 0 u) = some (0, mS S (o3 (sk (S.1 146) n i)) (o3 (1 + 8 * sk (S.1 146) n i + 0)) u) from mf_fails (k := 0) rfl, bd_some]
        have ht : tcl (S.1 146) n c B i = (1 + 8 * sk (S.1 146) n i, 0, B) := by unfold tcl; rw [if_neg w0, if_neg w1, if_neg w2]
        rw [ht]
        refine ⟨S, u, o3 (sk (S.1 146) n i), ?_, eC.rf, fun q => absurd q (by show ¬ (1 + 8 * _ = 0); omega)⟩
        rw [if_neg (by show ¬ (1 + 8 * _ = 0); omega)]
        rfl
end MR
end
noncomputable section
/-! the reference reads a tower to its end -/
theorem b255 : ∀ k : Fin 256, (Int32.ofInt ((k : Int) - 128) &&& 255) = if k.val < 128 then Int32.ofInt ((k : Int) + 128) else Int32.ofInt ((k : Int) - 128) := by decide +kernel
def byt (x : Int32) : Prop := -128 ≤ x.toInt ∧ x.toInt ≤ 127
theorem b_and {x : Int32} (h : byt x) : (x &&& 255).toInt = if x.toInt < 0 then x.toInt + 256 else x.toInt := by
  obtain ⟨h1, h2⟩ := h
  have hk : (x.toInt + 128).toNat < 256 := by omega
  have e := b255 ⟨(x.toInt + 128).toNat, hk⟩
  have hv : ((⟨(x.toInt + 128).toNat, hk⟩ : Fin 256).val : Int) = x.toInt + 128 := by show ((x.toInt + 128).toNat : Int) = _; omega
  have ex : Int32.ofInt (((⟨(x.toInt + 128).toNat, hk⟩ : Fin 256).val : Int) - 128) = x := by
    rw [hv, ni_eq, Int32.toInt_ofInt_of_le (by omega) (by omega)]; omega
  have e : (Int32.ofInt (((⟨(x.toInt + 128).toNat, hk⟩ : Fin 256).val : Int) - 128) &&& 255) = if (x.toInt + 128).toNat < 128 then Int32.ofInt (((⟨(x.toInt + 128).toNat, hk⟩ : Fin 256).val : Int) + 128) else Int32.ofInt (((⟨(x.toInt + 128).toNat, hk⟩ : Fin 256).val : Int) - 128) := e
  rw [ex] at e
  rw [e]
  by_cases hx : x.toInt < 0
  · rw [if_pos (by omega), if_pos hx, hv, Int32.toInt_ofInt_of_le (by omega) (by omega)]; omega
  · rw [if_neg (by omega), if_neg hx]
theorem seen_eq {t : Nat → Int32} {n j : Nat} (hb : ∀ k, byt (t k)) {c : Int32} (h0 : 0 ≤ c.toInt) (h1 : c.toInt ≤ 127) : seen t n j = c ↔ j < n ∧ t j = c := by
  unfold seen
  by_cases h : j < n
  · rw [if_pos h]
    have e := b_and (hb j)
    have hbj := hb j
    unfold byt at hbj
    constructor
    · intro q
      rw [q] at e
      refine ⟨h, ni_eq.mpr ?_⟩
      split at e <;> omega
    · rintro ⟨-, q⟩
      rw [ni_eq, e, q, if_neg (by omega)]
  · rw [if_neg h]
    constructor
    · intro q
      rw [← q] at h0
      exact absurd h0 (by decide)
    · intro q; exact absurd q.1 h
theorem seen_no {t : Nat → Int32} {n j : Nat} (hb : ∀ k, byt (t k)) : seen t n j = -1 ↔ ¬ j < n := by
  unfold seen
  by_cases h : j < n
  · rw [if_pos h]
    have e := b_and (hb j)
    have hbj := hb j
    unfold byt at hbj
    constructor
    · intro q
      rw [q] at e
      have e : (-1 : Int) = _ := e
      split at e <;> omega
    · intro q; exact absurd h q
  · rw [if_neg h]
    exact ⟨fun _ => h, fun _ => rfl⟩
theorem tFl_ne {t : Nat → Int32} {n i : Nat} {B : TB} (h : (tFl t n B i).1 = 0) : 0 < (tFl t n B i).2.2.1.length := by
  unfold tFl at h ⊢
  by_cases c1 : nmf t n i 1 20 = 0
  · rw [if_pos c1] at h ⊢
    by_cases c2 : nmf t n (nmp t n i) 1 20 = 0
    · rw [if_pos c2]
      show 0 < (B.1 ++ [_]).length
      rw [ln_app]; omega
    · rw [if_neg c2] at h; exact absurd h c2
  · rw [if_neg c1] at h; exact absurd h c1
theorem tPc_ne {t : Nat → Int32} {n i a b c : Nat} {B : TB} : (tPc t n B a b c i).2.2.1 = B.1 := by
  unfold tPc
  by_cases c1 : nmf t n i 1 20 = 0
  · rw [if_pos c1]
    by_cases c2 : nmf t n (nmp t n i) 1 20 = 0
    · rw [if_pos c2]
    · rw [if_neg c2]
  · rw [if_neg c1]
theorem tSt_ne {t : Nat → Int32} {n i : Nat} {B : TB} (h : (tSt t n B i).1 = 0) : 0 < (tSt t n B i).2.2.1.length := by
  unfold tSt at h ⊢
  by_cases c1 : nmf t n i 0 (B.1.length - 1) = 0
  · have g := (nmf_0 c1).2.2
    rw [if_pos c1] at h ⊢
    by_cases c2 : nmf t n (nmp t n i) 0 (B.1.length - 1) = 0
    · rw [if_pos c2] at h ⊢
      by_cases c3 : nmv t n i = nmv t n (nmp t n i)
      · rw [if_pos c3]
        show 0 < B.1.length
        omega
      · rw [if_neg c3] at h ⊢
        by_cases c4 : nmf t n (nmp t n (nmp t n i)) 1 9 = 0
        · rw [if_pos c4, tPc_ne]
          omega
        · rw [if_neg c4]
          show 0 < B.1.length
          omega
    · rw [if_neg c2]
      show 0 < B.1.length
      omega
  · rw [if_neg c1] at h; exact absurd h c1
theorem tTh_ne {t : Nat → Int32} {n i : Nat} {B : TB} (h : (tTh t n B i).1 = 0) : 0 < (tTh t n B i).2.2.1.length := by
  unfold tTh at h ⊢
  by_cases c1 : nmf t n i 0 (B.1.length - 1) = 0
  · have g := (nmf_0 c1).2.2
    rw [if_pos c1]
    show 0 < B.1.length
    omega
  · rw [if_neg c1] at h; exact absurd h c1
theorem tcl_ne {t : Nat → Int32} {n c i : Nat} {B : TB} (h : (tcl t n c B i).1 = 0) : 0 < (tcl t n c B i).2.2.1.length := by
  unfold tcl at h ⊢
  by_cases h1 : wat t n (mm_sb.getD 0 []) (sk t n i) = true
  · rw [if_pos h1] at h ⊢
    by_cases h2 : 10 ≤ B.1.length ∨ 24 ≤ c
    · rw [if_pos h2] at h; exact absurd h (by show ¬ (1 + 8 * _ + 4 = 0); omega)
    · rw [if_neg h2] at h ⊢
      exact tFl_ne h
  · rw [if_neg h1] at h ⊢
    by_cases h3 : wat t n (mm_sb.getD 1 []) (sk t n i) = true
    · rw [if_pos h3] at h ⊢
      by_cases h2 : 12 ≤ B.2.1.length ∨ 24 ≤ c
      · rw [if_pos h2] at h; exact absurd h (by show ¬ (1 + 8 * _ + 4 = 0); omega)
      · rw [if_neg h2] at h ⊢
        exact tSt_ne h
    · rw [if_neg h3] at h ⊢
      by_cases h4 : wat t n (mm_sb.getD 2 []) (sk t n i) = true
      · rw [if_pos h4] at h ⊢
        by_cases h2 : 8 ≤ B.2.2.length ∨ 24 ≤ c
        · rw [if_pos h2] at h; exact absurd h (by show ¬ (1 + 8 * _ + 4 = 0); omega)
        · rw [if_neg h2] at h ⊢
          exact tTh_ne h
      · rw [if_neg h4] at h; exact absurd h (by show ¬ (1 + 8 * _ = 0); omega)
/-- behind a clause -/
def tl (t : Nat → Int32) (n d c i : Nat) (B : TB) : Nat × TB := if sk t n i < n then (if t (sk t n i) = 59 then tall t n d c (sk t n i + 1) B else (1 + 8 * sk t n i, B)) else (0, B)
theorem tall_tl {t : Nat → Int32} {n d c i : Nat} {B : TB} : tall t n (d + 1) c i B = if (tcl t n c B i).1 = 0 then tl t n d (c + 1) (tcl t n c B i).2.1 (tcl t n c B i).2.2 else ((tcl t n c B i).1, B) := rfl
section ML
variable {n : Nat} {t : Nat → Int32}
/-- how the loop over clauses leaves the reader: good, and at the end; or with a fault that is told, or that is to be told at the place where it stands -/
def mEnd (n : Nat) (t : Nat → Int32) (r : Nat × TB) (g : Int32) (S' : fS) (i' w' : Int32) : Prop :=
  (r.1 = 0 ∧ g = 1 ∧ w' = 0 ∧ (∃ j, i' = o3 j ∧ ¬ j < n ∧ j ≤ n) ∧ TBm S' r.2 ∧ 0 < r.2.1.length ∧ okB r.2) ∨ (r.1 ≠ 0 ∧ g = 0 ∧ w' = o3 r.1) ∨ (∃ j, r.1 = 1 + 8 * j ∧ g = 1 ∧ w' = 0 ∧ i' = o3 j ∧ j < n ∧ sk t n j = j)
theorem ml_loop (hl : n ≤ 400) (hb : ∀ k, byt (t k)) {K : Int32 → fS → Option (Int32 × fS)} : ∀ d c m B (S : fS) (i : Nat) (u : Int32), S.1 145 1 = o3 n → S.1 146 = t → TBm S B → okB B → 0 < B.1.length → S.1 145 19 = o3 c → S.1 145 16 = 6 → i ≤ n → c + d = 24 → d + 1 < m → ∃ S' u' i' w' g, lp_X11_readsAll_35 K m 1 (mS S (o3 i) 0 u) = K g (mS S' i' w' u') ∧ eC S S' ∧ mEnd n t (tl t n (d + 1) c i B) g S' i' w' := by
  intro d
  induction d with
  | zero =>
    intro c m B S i u hn ht hB hok hne h19 h16 hi hcd hm
    subst ht
    obtain ⟨m, rfl⟩ : ∃ m', m = m' + 1 := ⟨m - 1, by omega⟩
    have hj := sk_le (t := S.1 146) hi
    rw [lp_X11_readsAll_35.eq_2, if_neg (show ¬ (1 : Int32) = 0 by decide), mt_see hn hl hi, bd_some]
    dsimp only
    unfold tl
    by_cases h59 : sk (S.1 146) n i < n ∧ S.1 146 (sk (S.1 146) n i) = 59
    · rw [if_pos ((seen_eq hb (by decide) (by decide)).mpr h59), bd_some, mS_nx, mS_13, o3_s, if_pos h59.1, if_pos h59.2, tall_tl]
      obtain ⟨S1, u1, i1, e1, f1, g1⟩ := mc_clause (u := u) hn hl hB hok (c := c) (by omega) h19 h16 (i := sk (S.1 146) n i + 1) (by omega)
      have hz : ¬ (tcl (S.1 146) n c B (sk (S.1 146) n i + 1)).1 = 0 := fun q => by have := (tcl_ok hok q).2; omega
      obtain ⟨m, rfl⟩ : ∃ m', m = m' + 1 := ⟨m - 1, by omega⟩
      rw [e1, bd_some, if_neg hz, if_neg hz]
      dsimp only
      rw [lp_X11_readsAll_35.eq_2, if_pos (show (0 : Int32) = 0 from rfl)]
      exact ⟨S1, u1, i1, _, 0, rfl, f1, Or.inr (Or.inl ⟨hz, rfl, rfl⟩)⟩
    · rw [if_neg (fun q => h59 ((seen_eq hb (by decide) (by decide)).mp q))]
      refine ⟨S, u, _, 0, 1, rfl, eC.rf, ?_⟩
      by_cases h1 : sk (S.1 146) n i < n
      · rw [if_pos h1, if_neg (fun q => h59 ⟨h1, q⟩)]
        exact Or.inr (Or.inr ⟨sk (S.1 146) n i, rfl, rfl, rfl, rfl, h1, sk_id⟩)
      · rw [if_neg h1]
        exact Or.inl ⟨rfl, rfl, rfl, ⟨_, rfl, h1, hj⟩, hB, hne, hok⟩
  | succ d ih =>
    intro c m B S i u hn ht hB hok hne h19 h16 hi hcd hm
    subst ht
    obtain ⟨m, rfl⟩ : ∃ m', m = m' + 1 := ⟨m - 1, by omega⟩
    have hj := sk_le (t := S.1 146) hi
    rw [lp_X11_readsAll_35.eq_2, if_neg (show ¬ (1 : Int32) = 0 by decide), mt_see hn hl hi, bd_some]
    dsimp only
    rw [show tl (S.1 146) n (d + 1 + 1) c i B = if sk (S.1 146) n i < n then (if S.1 146 (sk (S.1 146) n i) = 59 then tall (S.1 146) n (d + 1 + 1) c (sk (S.1 146) n i + 1) B else (1 + 8 * sk (S.1 146) n i, B)) else (0, B) from rfl]
    by_cases h59 : sk (S.1 146) n i < n ∧ S.1 146 (sk (S.1 146) n i) = 59
    · rw [if_pos ((seen_eq hb (by decide) (by decide)).mpr h59), bd_some, mS_nx, mS_13, o3_s, if_pos h59.1, if_pos h59.2, tall_tl]
      obtain ⟨S1, u1, i1, e1, f1, g1⟩ := mc_clause (u := u) hn hl hB hok (c := c) (by omega) h19 h16 (i := sk (S.1 146) n i + 1) (by omega)
      rw [e1, bd_some]
      by_cases hz : (tcl (S.1 146) n c B (sk (S.1 146) n i + 1)).1 = 0
      · rw [if_pos hz, if_pos hz]
        dsimp only
        have hle := tcl_le (t := S.1 146) (B := B) (c := c) (i := sk (S.1 146) n i + 1) (by omega) hz
        obtain ⟨S2, u2, i2, w2, g2, e2, f2, m2⟩ := ih (c + 1) m _ S1 _ u1 (by rw [f1.1 145 1 (by unfold wM; omega)]; exact hn) (funext fun k => f1.1 146 k (by unfold wM; omega)) (g1 hz).1 (tcl_ok hok hz).1 (tcl_ne hz) (g1 hz).2 (by rw [f1.1 145 16 (by unfold wM; omega)]; exact h16) hle.1 (by omega) (by omega)
        exact ⟨S2, u2, i2, w2, g2, e2, f1.tr f2, m2⟩
      · rw [if_neg hz, if_neg hz]
        dsimp only
        obtain ⟨m, rfl⟩ : ∃ m', m = m' + 1 := ⟨m - 1, by omega⟩
        rw [lp_X11_readsAll_35.eq_2, if_pos (show (0 : Int32) = 0 from rfl)]
        exact ⟨S1, u1, i1, _, 0, rfl, f1, Or.inr (Or.inl ⟨hz, rfl, rfl⟩)⟩
    · rw [if_neg (fun q => h59 ((seen_eq hb (by decide) (by decide)).mp q))]
      refine ⟨S, u, _, 0, 1, rfl, eC.rf, ?_⟩
      by_cases h1 : sk (S.1 146) n i < n
      · rw [if_pos h1, if_neg (fun q => h59 ⟨h1, q⟩)]
        exact Or.inr (Or.inr ⟨sk (S.1 146) n i, rfl, rfl, rfl, rfl, h1, sk_id⟩)
      · rw [if_neg h1]
        exact Or.inl ⟨rfl, rfl, rfl, ⟨_, rfl, h1, hj⟩, hB, hne, hok⟩
end ML
end
noncomputable section
theorem pI_ne {S : fS} {a k b j : Nat} {x : Int32} (h : ¬ (b = a ∧ j = k)) : (pI S a k x).1 b j = S.1 b j := by rw [pI_get, if_neg h]
theorem pL_ne {S : fS} {a k b j : Nat} {x : Int64} (h : ¬ (b = a ∧ j = k)) : (pL S a k x).2 b j = S.2 b j := by rw [pL_get, if_neg h]
/-! a tower's faults are small -/
section TF
variable {t : Nat → Int32} {n : Nat} {B : TB} {i : Nat}
theorem tFl_fl (hi : i ≤ n) : (tFl t n B i).1 ≤ 8 * n + 10 := by
  have h1 := nmf_le (t := t) (lo := 1) (hi := 20) hi
  have h2 := nmf_le (t := t) (lo := 1) (hi := 20) (nmp_le (t := t) hi)
  unfold tFl
  split
  · split
    · exact Nat.zero_le _
    · show nmf t n (nmp t n i) 1 20 ≤ _; omega
  · show nmf t n i 1 20 ≤ _; omega
theorem tPc_fl {a b c : Nat} (hi : i ≤ n) : (tPc t n B a b c i).1 ≤ 8 * n + 10 := by
  have h1 := nmf_le (t := t) (lo := 1) (hi := 20) hi
  have h2 := nmf_le (t := t) (lo := 1) (hi := 20) (nmp_le (t := t) hi)
  unfold tPc
  split
  · split
    · exact Nat.zero_le _
    · show nmf t n (nmp t n i) 1 20 ≤ _; omega
  · show nmf t n i 1 20 ≤ _; omega
theorem tSt_fl (hi : i ≤ n) : (tSt t n B i).1 ≤ 8 * n + 10 := by
  have e1 := nmp_le (t := t) hi
  have e2 := nmp_le (t := t) e1
  have e3 := nmp_le (t := t) e2
  have h1 := nmf_le (t := t) (lo := 0) (hi := B.1.length - 1) hi
  have h2 := nmf_le (t := t) (lo := 0) (hi := B.1.length - 1) e1
  have h3 := nmf_le (t := t) (lo := 1) (hi := 9) e2
  have h4 := sk_le (t := t) e1
  unfold tSt
  split
  · split
    · split
      · show 1 + 8 * sk t n (nmp t n i) + 1 ≤ _; omega
      · split
        · exact tPc_fl e3
        · show nmf t n (nmp t n (nmp t n i)) 1 9 ≤ _; omega
    · show nmf t n (nmp t n i) 0 _ ≤ _; omega
  · show nmf t n i 0 _ ≤ _; omega
theorem tTh_fl (hi : i ≤ n) : (tTh t n B i).1 ≤ 8 * n + 10 := by
  have h1 := nmf_le (t := t) (lo := 0) (hi := B.1.length - 1) hi
  unfold tTh
  split
  · exact Nat.zero_le _
  · show nmf t n i 0 _ ≤ _; omega
theorem tcl_fl {c : Nat} (hi : i ≤ n) : (tcl t n c B i).1 ≤ 8 * n + 10 := by
  have hj := sk_le (t := t) hi
  unfold tcl
  by_cases h1 : wat t n (mm_sb.getD 0 []) (sk t n i) = true
  · rw [if_pos h1]
    have hw : sk t n i + 5 ≤ n := wat_le hj h1
    split
    · show 1 + 8 * sk t n i + 4 ≤ _; omega
    · exact tFl_fl hw
  · rw [if_neg h1]
    by_cases h2 : wat t n (mm_sb.getD 1 []) (sk t n i) = true
    · rw [if_pos h2]
      have hw : sk t n i + 5 ≤ n := wat_le hj h2
      split
      · show 1 + 8 * sk t n i + 4 ≤ _; omega
      · exact tSt_fl hw
    · rw [if_neg h2]
      by_cases h3 : wat t n (mm_sb.getD 2 []) (sk t n i) = true
      · rw [if_pos h3]
        have hw : sk t n i + 5 ≤ n := wat_le hj h3
        split
        · show 1 + 8 * sk t n i + 4 ≤ _; omega
        · exact tTh_fl hw
      · rw [if_neg h3]
        show 1 + 8 * sk t n i ≤ _; omega
end TF
theorem tall_fl {t : Nat → Int32} {n : Nat} : ∀ f c i B, i ≤ n → (tall t n f c i B).1 ≤ 8 * n + 10 := by
  intro f
  induction f with
  | zero => intro c i B _; show 1 ≤ _; omega
  | succ f ih =>
    intro c i B hi
    have h1 := tcl_fl (t := t) (B := B) (c := c) hi
    rw [tall_tl]
    by_cases hz : (tcl t n c B i).1 = 0
    · rw [if_pos hz]
      have hle := tcl_le hi hz
      have hs := sk_le (t := t) hle.1
      unfold tl
      split
      · split
        · exact ih _ _ _ (by omega)
        · show 1 + 8 * _ ≤ _; omega
      · exact Nat.zero_le _
    · rw [if_neg hz]; exact h1
/-- what the reference's reader does behind the clauses -/
def rdK (u30 : Int32) (S31 : fS) : Option (Int32 × fS) := if u30 = (0 : Int32) then (if u30 = (0 : Int32) then ((some (pI S31 145 1 (0 : Int32))).bind fun S35 =>
  if (S35.1 145 14) = (0 : Int32) then (some ((1 : Int32), S35)) else
  (some ((0 : Int32), S35))) else
  (if (S31.1 145 16) = (6 : Int32) then (if (S31.1 145 7) = (0 : Int32) then ((f_X11_fails (0 : Int32) (S31.1 145 13) S31).bind fun q49 =>
  (some (pI q49.2 145 1 (0 : Int32))).bind fun S52 =>
  if (S52.1 145 14) = (0 : Int32) then (some ((1 : Int32), S52)) else
  (some ((0 : Int32), S52))) else
  ((some (pI S31 145 1 (0 : Int32))).bind fun S45 =>
  if (S45.1 145 14) = (0 : Int32) then (some ((1 : Int32), S45)) else
  (some ((0 : Int32), S45)))) else
  ((some (pI S31 145 1 (0 : Int32))).bind fun S40 =>
  if (S40.1 145 14) = (0 : Int32) then (some ((1 : Int32), S40)) else
  (some ((0 : Int32), S40))))) else
  ((f_X11_see  S31).bind fun q56 =>
  if q56.1 = (-1 : Int32) then (if u30 = (0 : Int32) then ((some (pI q56.2 145 1 (0 : Int32))).bind fun S61 =>
  if (S61.1 145 14) = (0 : Int32) then (some ((1 : Int32), S61)) else
  (some ((0 : Int32), S61))) else
  (if (q56.2.1 145 16) = (6 : Int32) then (if (q56.2.1 145 7) = (0 : Int32) then ((f_X11_fails (0 : Int32) (q56.2.1 145 13) q56.2).bind fun q75 =>
  (some (pI q75.2 145 1 (0 : Int32))).bind fun S78 =>
  if (S78.1 145 14) = (0 : Int32) then (some ((1 : Int32), S78)) else
  (some ((0 : Int32), S78))) else
  ((some (pI q56.2 145 1 (0 : Int32))).bind fun S71 =>
  if (S71.1 145 14) = (0 : Int32) then (some ((1 : Int32), S71)) else
  (some ((0 : Int32), S71)))) else
  ((some (pI q56.2 145 1 (0 : Int32))).bind fun S66 =>
  if (S66.1 145 14) = (0 : Int32) then (some ((1 : Int32), S66)) else
  (some ((0 : Int32), S66))))) else
  ((f_X11_fails (0 : Int32) (q56.2.1 145 13) q56.2).bind fun q82 =>
  if q82.1 = (0 : Int32) then ((some (pI q82.2 145 1 (0 : Int32))).bind fun S86 =>
  if (S86.1 145 14) = (0 : Int32) then (some ((1 : Int32), S86)) else
  (some ((0 : Int32), S86))) else
  (if (q82.2.1 145 16) = (6 : Int32) then (if (q82.2.1 145 7) = (0 : Int32) then ((f_X11_fails (0 : Int32) (q82.2.1 145 13) q82.2).bind fun q100 =>
  (some (pI q100.2 145 1 (0 : Int32))).bind fun S103 =>
  if (S103.1 145 14) = (0 : Int32) then (some ((1 : Int32), S103)) else
  (some ((0 : Int32), S103))) else
  ((some (pI q82.2 145 1 (0 : Int32))).bind fun S96 =>
  if (S96.1 145 14) = (0 : Int32) then (some ((1 : Int32), S96)) else
  (some ((0 : Int32), S96)))) else
  ((some (pI q82.2 145 1 (0 : Int32))).bind fun S91 =>
  if (S91.1 145 14) = (0 : Int32) then (some ((1 : Int32), S91)) else
  (some ((0 : Int32), S91))))))
theorem rd_eq {S : fS} : f_X11_readsAll S = ((sI S 148 7 (S.1 145 16) (0 : Int32)).bind fun S1 =>
  (some (pI S1 145 19 (0 : Int32))).bind fun S4 =>
  (some (pI S4 145 13 (0 : Int32))).bind fun S7 =>
  (some (pI S7 145 14 (0 : Int32))).bind fun S10 =>
  (some (pI S10 145 17 (0 : Int32))).bind fun S13 =>
  (f_X11_clauseHere S13).bind fun q16 => lp_X11_readsAll_35 rdK FU q16.1 q16.2) := rfl
theorem rd_0 {X : fS} : rdK 0 X = some (if X.1 145 14 = 0 then 1 else 0, pI X 145 1 0) := by
  unfold rdK
  rw [if_pos (show (0 : Int32) = 0 from rfl), if_pos (show (0 : Int32) = 0 from rfl), bd_some, pI_ne (by omega)]
  by_cases h : X.1 145 14 = 0
  · rw [if_pos h, if_pos h]
  · rw [if_neg h, if_neg h]
theorem rd_1 {X Y : fS} {c : Int32} (e : f_X11_see X = some (c, Y)) (hc : c ≠ -1) (hw : Y.1 145 14 = 0) : rdK 1 X = some (if (1 + 8 * Y.1 145 13 + 0 : Int32) = 0 then 1 else 0, pI (pI Y 145 14 (1 + 8 * Y.1 145 13 + 0)) 145 1 0) := by
  unfold rdK
  rw [if_neg (show ¬ (1 : Int32) = 0 by decide), e, bd_some]
  dsimp only
  rw [if_neg hc, mt_fails hw, bd_some]
  dsimp only
  rw [if_pos (show (0 : Int32) = 0 from rfl), bd_some, pI_ne (by omega), pI_eq]
  by_cases h : (1 + 8 * Y.1 145 13 + 0 : Int32) = 0
  · rw [if_pos h, if_pos h]
  · rw [if_neg h, if_neg h]
theorem rd_2 {X Y : fS} (e : f_X11_see X = some (-1, Y)) (h16 : Y.1 145 16 = 6) (h7 : Y.1 145 7 ≠ 0) (hw : Y.1 145 14 = 0) : rdK 1 X = some (1, pI Y 145 1 0) := by
  unfold rdK
  rw [if_neg (show ¬ (1 : Int32) = 0 by decide), e, bd_some]
  dsimp only
  rw [if_pos (show (-1 : Int32) = -1 from rfl), if_neg (show ¬ (1 : Int32) = 0 by decide), if_pos h16, if_neg h7, bd_some, pI_ne (by omega), if_pos hw]
/-- outside of the reader's own cells -/
def wR (a k : Nat) : Prop := (a = 145 ∧ (k = 1 ∨ k = 7 ∨ k = 8 ∨ k = 9 ∨ k = 13 ∨ k = 14 ∨ k = 15 ∨ k = 17 ∨ k = 19)) ∨ (a = 148 ∧ k = 6) ∨ a = 151 ∨ a = 152 ∨ a = 153
def eD (S T : fS) : Prop := (∀ a k, ¬ wR a k → T.1 a k = S.1 a k) ∧ T.2 = S.2
theorem eD.rf {S : fS} : eD S S := ⟨fun _ _ _ => rfl, rfl⟩
theorem eD.tr {S T U : fS} (h : eD S T) (g : eD T U) : eD S U := ⟨fun a k n => (g.1 a k n).trans (h.1 a k n), g.2.trans h.2⟩
theorem eD_of {S T : fS} (h : eC S T) : eD S T := ⟨fun a k n => h.1 a k (fun q => n (by unfold wR; unfold wM at q; omega)), h.2⟩
theorem eD_pI {S : fS} {a k : Nat} {x : Int32} (h : wR a k) : eD S (pI S a k x) := ⟨fun b j n => by
  rw [pI_get]
  by_cases q : b = a ∧ j = k
  · exact absurd (q.1 ▸ q.2 ▸ h) n
  · rw [if_neg q], rfl⟩
theorem eD_mS {S : fS} {i w u : Int32} : eD S (mS S i w u) := by
  unfold mS
  exact ((eD_pI (by unfold wR; omega)).tr (eD_pI (by unfold wR; omega))).tr (eD_pI (by unfold wR; omega))
theorem mS_mk {X : fS} {i w : Int32} : pI (pI X 145 13 i) 145 14 w = mS X i w (X.1 145 15) := by
  have e : X.1 145 15 = (pI (pI X 145 13 i) 145 14 w).1 145 15 := by rw [pI_get, if_neg (by omega), pI_get, if_neg (by omega)]
  unfold mS
  rw [e, pI_self]
theorem TBm_cg {S T : fS} {B : TB} (h1 : ∀ k, k = 7 ∨ k = 8 ∨ k = 9 → T.1 145 k = S.1 145 k) (h2 : ∀ a k, a = 151 ∨ a = 152 ∨ a = 153 → T.1 a k = S.1 a k) (hB : TBm S B) : TBm T B := by
  obtain ⟨b1, b2, b3, b4, b5, b6⟩ := hB
  refine ⟨?_, ?_, ?_, fun k hk => ⟨?_, ?_⟩, fun k hk => ⟨?_, ?_, ?_, ?_, ?_⟩, fun k hk => ?_⟩
  · rw [h1 7 (by omega)]; exact b1
  · rw [h1 8 (by omega)]; exact b2
  · rw [h1 9 (by omega)]; exact b3
  · rw [h2 _ _ (by omega)]; exact (b4 k hk).1
  · rw [h2 _ _ (by omega)]; exact (b4 k hk).2
  · rw [h2 _ _ (by omega)]; exact (b5 k hk).1
  · rw [h2 _ _ (by omega)]; exact (b5 k hk).2.1
  · rw [h2 _ _ (by omega)]; exact (b5 k hk).2.2.1
  · rw [h2 _ _ (by omega)]; exact (b5 k hk).2.2.2.1
  · rw [h2 _ _ (by omega)]; exact (b5 k hk).2.2.2.2
  · rw [h2 _ _ (by omega)]; exact b6 k hk
end
noncomputable section
theorem m_reads {S : fS} {n : Nat} (hn : S.1 145 1 = o3 n) (hl : n ≤ 400) (hb : ∀ k, byt (S.1 146 k)) (h16 : S.1 145 16 = 6) (h7 : S.1 145 7 = 0) (h8 : S.1 145 8 = 0) (h9 : S.1 145 9 = 0) : ∃ Y, f_X11_readsAll S = some (if (tw0 (S.1 146) n).1 = 0 then 1 else 0, Y) ∧ Y.1 145 1 = 0 ∧ ((tw0 (S.1 146) n).1 = 0 → TBm Y (tw0 (S.1 146) n).2) ∧ (¬ (tw0 (S.1 146) n).1 = 0 → Y.1 145 14 = o3 (tw0 (S.1 146) n).1) ∧ eD S Y := by
  have hfl : (tw0 (S.1 146) n).1 ≤ 8 * n + 10 := tall_fl 25 0 0 _ (Nat.zero_le _)
  rw [rd_eq, h16, show (6 : Int32) = o3 6 from rfl, sI_o (by omega) (by omega), bd_some, bd_some, bd_some, bd_some, bd_some]
  rw [mS_mk, mS_p (by omega)]
  generalize hX : pI (pI (pI S 148 6 0) 145 19 0) 145 17 0 = X
  generalize hu : (pI (pI S 148 6 0) 145 19 0).1 145 15 = u
  have hD0 : eD S X := by
    rw [← hX]
    exact ((eD_pI (by unfold wR; omega)).tr (eD_pI (by unfold wR; omega))).tr (eD_pI (by unfold wR; omega))
  have hXn : X.1 145 1 = o3 n := by rw [← hX, pI_ne (by omega), pI_ne (by omega), pI_ne (by omega)]; exact hn
  have hXt : X.1 146 = S.1 146 := by rw [← hX]; exact funext fun k => by rw [pI_ne (by omega), pI_ne (by omega), pI_ne (by omega)]
  have hX16 : X.1 145 16 = 6 := by rw [← hX, pI_ne (by omega), pI_ne (by omega), pI_ne (by omega)]; exact h16
  have hX7 : X.1 145 7 = 0 := by rw [← hX, pI_ne (by omega), pI_ne (by omega), pI_ne (by omega)]; exact h7
  have hX8 : X.1 145 8 = 0 := by rw [← hX, pI_ne (by omega), pI_ne (by omega), pI_ne (by omega)]; exact h8
  have hX9 : X.1 145 9 = 0 := by rw [← hX, pI_ne (by omega), pI_ne (by omega), pI_ne (by omega)]; exact h9
  have hX19 : X.1 145 19 = o3 0 := by rw [← hX, pI_ne (by omega), pI_eq]; rfl
  have hB : TBm X ([], [], []) := ⟨hX7, hX8, hX9, fun k hk => absurd hk (Nat.not_lt_zero _), fun k hk => absurd hk (Nat.not_lt_zero _), fun k hk => absurd hk (Nat.not_lt_zero _)⟩
  have hok : okB ([], [], []) := ⟨by decide, by decide, by decide, fun q hq => absurd hq List.not_mem_nil, fun q hq => absurd hq List.not_mem_nil, fun q hq => absurd hq List.not_mem_nil⟩
  obtain ⟨S1, u1, i1, e1, f1, g1⟩ := mc_clause (u := u) hXn hl hB hok (c := 0) (by omega) hX19 hX16 (i := 0) (by omega)
  rw [hXt] at e1 g1
  have e1' : f_X11_clauseHere (mS X 0 0 u) = some (if (tcl (S.1 146) n 0 ([], [], []) 0).1 = 0 then (1, mS S1 (o3 (tcl (S.1 146) n 0 ([], [], []) 0).2.1) 0 u1) else (0, mS S1 i1 (o3 (tcl (S.1 146) n 0 ([], [], []) 0).1) u1)) := e1
  rw [e1', bd_some]
  have htw : tw0 (S.1 146) n = if (tcl (S.1 146) n 0 ([], [], []) 0).1 = 0 then tl (S.1 146) n 24 1 (tcl (S.1 146) n 0 ([], [], []) 0).2.1 (tcl (S.1 146) n 0 ([], [], []) 0).2.2 else ((tcl (S.1 146) n 0 ([], [], []) 0).1, ([], [], [])) := rfl
  have bad : ∀ (S2 : fS) (i2 u2 : Int32) (r : Nat), r ≠ 0 → r ≤ 8 * n + 10 → eD S S2 → rdK 0 (mS S2 i2 (o3 r) u2) = some (0, pI (mS S2 i2 (o3 r) u2) 145 1 0) ∧ (pI (mS S2 i2 (o3 r) u2) 145 1 0).1 145 14 = o3 r ∧ eD S (pI (mS S2 i2 (o3 r) u2) 145 1 0) := by
    intro S2 i2 u2 r h0 hr hD
    refine ⟨?_, ?_, (hD.tr eD_mS).tr (eD_pI (by unfold wR; omega))⟩
    · rw [rd_0, mS_14, if_neg (o3_ne0 (by omega) h0)]
    · rw [pI_ne (by omega), mS_14]
  by_cases hz : (tcl (S.1 146) n 0 ([], [], []) 0).1 = 0
  · rw [if_pos hz]
    rw [if_pos hz] at htw
    dsimp only
    have hle := tcl_le (t := S.1 146) (n := n) (c := 0) (B := ([], [], [])) (i := 0) (Nat.zero_le _) hz
    have f1' := f1
    obtain ⟨S2, u2, i2, w2, g2, e2, f2, m2⟩ := ml_loop hl hb (K := rdK) 23 1 FU _ S1 _ u1 (by rw [f1.1 145 1 (by unfold wM; omega)]; exact hXn) (by rw [← hXt]; exact funext fun k => f1.1 146 k (by unfold wM; omega)) (g1 hz).1 (tcl_ok hok hz).1 (tcl_ne hz) (g1 hz).2 (by rw [f1.1 145 16 (by unfold wM; omega)]; exact hX16) hle.1 (by omega) (FU_lt (by omega))
    rw [e2, htw]
    rw [htw] at hfl
    have hD2 : eD S S2 := hD0.tr ((eD_of f1).tr (eD_of f2))
    have hn2 : S2.1 145 1 = o3 n := by rw [f2.1 145 1 (by unfold wM; omega), f1.1 145 1 (by unfold wM; omega)]; exact hXn
    have ht2 : S2.1 146 = S.1 146 := by rw [← hXt]; exact funext fun k => by rw [f2.1 146 k (by unfold wM; omega), f1.1 146 k (by unfold wM; omega)]
    have h162 : S2.1 145 16 = 6 := by rw [f2.1 145 16 (by unfold wM; omega), f1.1 145 16 (by unfold wM; omega)]; exact hX16
    rcases m2 with ⟨r0, rfl, rfl, ⟨j, rfl, hj1, hj2⟩, hT, hne, hok2⟩ | ⟨r0, rfl, rfl⟩ | ⟨j, r0, rfl, rfl, rfl, hj1, hj2⟩
    · have hsee := mt_see (w := 0) (u := u2) hn2 hl (i := j) hj2
      have hsk := sk_ge (t := S2.1 146) (n := n) (i := j)
      rw [(seen_no (by rw [ht2]; exact hb)).mpr (by omega)] at hsee
      have hlen := hok2.1
      rw [rd_2 hsee (by rw [mS_ne (by omega)]; exact h162) (by rw [mS_ne (by omega), hT.1]; exact o3_ne0 (by omega) (by omega)) (by rw [mS_14]), if_pos r0]
      refine ⟨_, rfl, by rw [pI_eq], fun _ => TBm_cg (fun k hk => by rw [pI_ne (by omega), mS_ne (by omega)]) (fun a k ha => by rw [pI_ne (by omega), mS_ne (by omega)]) hT, fun q => absurd r0 q, (hD2.tr eD_mS).tr (eD_pI (by unfold wR; omega))⟩
    · obtain ⟨b1, b2, b3⟩ := bad S2 i2 u2 _ r0 hfl hD2
      rw [b1, if_neg r0]
      exact ⟨_, rfl, by rw [pI_eq], fun q => absurd q r0, fun _ => b2, b3⟩
    · have hsee := mt_see (w := 0) (u := u2) hn2 hl (i := j) (by omega)
      rw [ht2, hj2] at hsee
      have r1 : ¬ (tl (S.1 146) n 24 1 (tcl (S.1 146) n 0 ([], [], []) 0).2.1 (tcl (S.1 146) n 0 ([], [], []) 0).2.2).1 = 0 := by
        show ¬ (tl (S.1 146) n (23 + 1) 1 _ _).1 = 0
        rw [r0]; omega
      have hval : (1 + 8 * o3 j + 0 : Int32) = o3 (1 + 8 * j) := by rw [show (1 : Int32) = o3 1 from rfl, show (8 : Int32) = o3 8 from rfl, show (0 : Int32) = o3 0 from rfl, o3_mul, o3_add, o3_add]; rfl
      rw [rd_1 hsee (fun q => (seen_no hb).mp q hj1) (by rw [mS_14]), mS_13, hval, if_neg (o3_ne0 (by omega) (by omega)), if_neg r1]
      refine ⟨_, rfl, by rw [pI_eq], fun q => absurd q r1, fun _ => ?_, ((hD2.tr eD_mS).tr (eD_pI (by unfold wR; omega))).tr (eD_pI (by unfold wR; omega))⟩
      rw [pI_ne (by omega), pI_eq]
      show o3 (1 + 8 * j) = o3 (tl (S.1 146) n (23 + 1) 1 _ _).1
      rw [r0]
  · rw [if_neg hz]
    rw [if_neg hz] at htw
    dsimp only
    have hzf : (tcl (S.1 146) n 0 ([], [], []) 0).1 ≤ 8 * n + 10 := tcl_fl (Nat.zero_le _)
    obtain ⟨mm, hF⟩ := op_FU
    rw [hF, lp_X11_readsAll_35.eq_2, if_pos (show (0 : Int32) = 0 from rfl), htw]
    obtain ⟨b1, b2, b3⟩ := bad S1 i1 u1 _ hz hzf (hD0.tr (eD_of f1))
    rw [b1, if_neg hz]
    exact ⟨_, rfl, by rw [pI_eq], fun q => absurd q hz, fun _ => b2, b3⟩
end
noncomputable section
/-! the reference measures the ways -/
def rH (S : fS) (w : Mx) : Prop := ∀ a b, a < 10 → b < 10 → S.2 161 (10 * a + b) = o6 (w a b)
def eL (S T : fS) : Prop := T.1 = S.1 ∧ ∀ a k, a ≠ 161 → T.2 a k = S.2 a k
theorem eL.rf {S : fS} : eL S S := ⟨rfl, fun _ _ _ => rfl⟩
theorem eL.tr {S T U : fS} (h : eL S T) (g : eL T U) : eL S U := ⟨g.1.trans h.1, fun a k n => (g.2 a k n).trans (h.2 a k n)⟩
theorem eL_pL {S : fS} {k : Nat} {x : Int64} : eL S (pL S 161 k x) := ⟨rfl, fun a j h => pL_ne (fun q => h q.1)⟩
theorem rH_cg {S : fS} {w v : Mx} (h : rH S w) (e : ∀ a b, a < 10 → b < 10 → v a b = w a b) : rH S v := fun a b ha hb => by rw [e a b ha hb]; exact h a b ha hb
theorem rH_set {S : fS} {w : Mx} {a b x : Nat} (hw : rH S w) : rH (pL S 161 (10 * a + b) (o6 x)) (fun c d => if c = a ∧ d = b then x else w c d) ∨ 10 ≤ b := by
  by_cases hb : b < 10
  · refine Or.inl fun c d hc hd => ?_
    rw [pL_get]
    by_cases h : c = a ∧ d = b
    · rw [if_pos ⟨rfl, by omega⟩]
      show _ = o6 (if c = a ∧ d = b then x else w c d)
      rw [if_pos h]
    · rw [if_neg (fun q => h ⟨by omega, by omega⟩)]
      show _ = o6 (if c = a ∧ d = b then x else w c d)
      rw [if_neg h]
      exact hw c d hc hd
  · exact Or.inr (by omega)
theorem rH_set' {S : fS} {w : Mx} {a b x : Nat} (hb : b < 10) (hw : rH S w) : rH (pL S 161 (10 * a + b) (o6 x)) (fun c d => if c = a ∧ d = b then x else w c d) := (rH_set hw).resolve_right (by omega)
theorem ix10 {a b : Nat} : ((10 : Int32) * o3 a + o3 b) = o3 (10 * a + b) := by
  rw [show (10 : Int32) = o3 10 from rfl, o3_mul, o3_add]
theorem sp_10 {K : fS → Option fS} {a : Nat} (ha : a < 10) : ∀ d b m (S : fS), b + d = 10 → d < m → (∀ c e, e < 10 → (c < a ∨ (c = a ∧ e < b)) → S.2 161 (10 * c + e) = o6 (wI c e)) → ∃ S', lp_X11_spreads_10 (o3 a) K m (o3 b) S = K S' ∧ (∀ c e, e < 10 → c < a + 1 → S'.2 161 (10 * c + e) = o6 (wI c e)) ∧ eL S S' := by
  intro d
  induction d with
  | zero =>
    intro b m S hb hm h
    obtain ⟨m, rfl⟩ : ∃ m', m = m' + 1 := ⟨m - 1, by omega⟩
    rw [lp_X11_spreads_10.eq_2, if_pos (show (10 : Int32) ≤ o3 _ from (o3_le (a := 10) (by omega) (by omega)).mpr (by omega))]
    exact ⟨S, rfl, fun c e he hc => h c e he (by omega), eL.rf⟩
  | succ d ih =>
    intro b m S hb hm h
    obtain ⟨m, rfl⟩ : ∃ m', m = m' + 1 := ⟨m - 1, by omega⟩
    rw [lp_X11_spreads_10.eq_2, if_neg (show ¬ (10 : Int32) ≤ o3 _ from fun q => by have := (o3_le (a := 10) (by omega) (by omega)).mp q; omega), ix10, o3_s]
    have go : ∀ x, x = wI a b → ∃ S', lp_X11_spreads_10 (o3 a) K m (o3 (b + 1)) (pL S 161 (10 * a + b) (o6 x)) = K S' ∧ (∀ c e, e < 10 → c < a + 1 → S'.2 161 (10 * c + e) = o6 (wI c e)) ∧ eL S S' := by
      intro x hx
      obtain ⟨S', e1, e2, e3⟩ := ih (b + 1) m (pL S 161 (10 * a + b) (o6 x)) (by omega) (by omega) (fun c e he hc => by
        by_cases hq : c = a ∧ e = b
        · rw [hq.1, hq.2, pL_eq, hx]
        · rw [pL_ne (by omega)]
          exact h c e he (by omega))
      exact ⟨S', e1, e2, eL_pL.tr e3⟩
    by_cases hab : a = b
    · rw [if_pos (by rw [hab]), show (0 : Int64) = o6 0 from rfl, sL_o (by omega) (by omega), bd_some]
      exact go 0 (by unfold wI; rw [if_pos hab])
    · rw [if_neg (fun q => hab ((o3_inj (by omega) (by omega)).mp q)), show (99999 : Int64) = o6 99999 from rfl, sL_o (by omega) (by omega), bd_some]
      exact go 99999 (by unfold wI; rw [if_neg hab])
theorem sp_2 {K : fS → Option fS} : ∀ d a m (S : fS), a + d = 10 → d < m → (∀ c e, e < 10 → c < a → S.2 161 (10 * c + e) = o6 (wI c e)) → ∃ S', lp_X11_spreads_2 K m (o3 a) S = K S' ∧ rH S' wI ∧ eL S S' := by
  intro d
  induction d with
  | zero =>
    intro a m S ha hm h
    obtain ⟨m, rfl⟩ : ∃ m', m = m' + 1 := ⟨m - 1, by omega⟩
    rw [lp_X11_spreads_2.eq_2, if_pos (show (10 : Int32) ≤ o3 _ from (o3_le (a := 10) (by omega) (by omega)).mpr (by omega))]
    exact ⟨S, rfl, fun c e hc he => h c e he (by omega), eL.rf⟩
  | succ d ih =>
    intro a m S ha hm h
    obtain ⟨m, rfl⟩ : ∃ m', m = m' + 1 := ⟨m - 1, by omega⟩
    rw [lp_X11_spreads_2.eq_2, if_neg (show ¬ (10 : Int32) ≤ o3 _ from fun q => by have := (o3_le (a := 10) (by omega) (by omega)).mp q; omega)]
    obtain ⟨S1, e1, e2, e3⟩ := sp_10 (K := fun S10 => lp_X11_spreads_2 K m (o3 a + (1 : Int32)) S10) (a := a) (by omega) 10 0 FU S (by omega) (FU_lt (by omega)) (fun c e he hc => h c e he (by omega))
    rw [show (0 : Int32) = o3 0 from rfl, e1, o3_s]
    obtain ⟨S2, g1, g2, g3⟩ := ih (a + 1) m S1 (by omega) (by omega) e2
    exact ⟨S2, g1, g2, e3.tr g3⟩
/-- floors and stairs as the reference holds them -/
def twM (I : Nat → Int32) (F : List (Nat × Nat)) (E : List (Nat × Nat × Nat × Nat × Nat)) : Prop := I 0 = o3 F.length ∧ I 1 = o3 E.length ∧ (∀ k, k < F.length → I (10 + 2 * k) = o3 (F.getD k (0, 0)).1 ∧ I (10 + 2 * k + 1) = o3 (F.getD k (0, 0)).2) ∧ (∀ k, k < E.length → I (30 + 5 * k) = o3 (E.getD k d5).1 ∧ I (30 + 5 * k + 1) = o3 (E.getD k d5).2.1 ∧ I (30 + 5 * k + 2) = o3 (E.getD k d5).2.2.1 ∧ I (30 + 5 * k + 3) = o3 (E.getD k d5).2.2.2.1 ∧ I (30 + 5 * k + 4) = o3 (E.getD k d5).2.2.2.2)
theorem m_stairOf {S : fS} {s k : Nat} (hs : s < 12) (hk : k < 5) : f_X11_stairOf (o3 s) (o3 k) S = some (S.1 157 (30 + 5 * s + k)) := by
  unfold f_X11_stairOf
  rw [show (30 : Int32) = o3 30 from rfl, show (5 : Int32) = o3 5 from rfl, o3_mul, o3_add, o3_add, gI_o (by omega) (by omega), bd_some]
def sy (w : Mx) : Prop := ∀ a b, w a b = w b a
theorem sy_I : sy wI := by
  intro a b
  unfold wI
  by_cases h : a = b
  · rw [if_pos h, if_pos h.symm]
  · rw [if_neg h, if_neg (fun q => h q.symm)]
theorem sy_1 {w : Mx} {q : Nat × Nat × Nat × Nat × Nat} (h : sy w) : sy (wS1 w q) := by
  intro a b
  have := h a b
  unfold wS1
  by_cases hc : (a = q.1 ∧ b = q.2.1) ∨ (a = q.2.1 ∧ b = q.1)
  · rw [if_pos hc, if_pos (by omega), this]
  · rw [if_neg hc, if_neg (by omega), this]
theorem sy_f : ∀ (E : List (Nat × Nat × Nat × Nat × Nat)) (w : Mx), sy w → sy (E.foldl wS1 w) := by
  intro E
  induction E with
  | nil => intro w h; exact h
  | cons q E ih => intro w h; exact ih _ (sy_1 h)
theorem sp_53 {K : fS → Option fS} {F : List (Nat × Nat)} {E : List (Nat × Nat × Nat × Nat × Nat)} (hE : ∀ q ∈ E, okS 10 q) (hl : E.length ≤ 12) : ∀ d k m (S : fS), k + d = E.length → d < m → twM (S.1 157) F E → rH S ((E.take k).foldl wS1 wI) → ∃ S', lp_X11_spreads_53 K m (o3 k) S = K S' ∧ rH S' (wSt E) ∧ eL S S' := by
  intro d
  induction d with
  | zero =>
    intro k m S hk hm ht hw
    obtain ⟨m, rfl⟩ : ∃ m', m = m' + 1 := ⟨m - 1, by omega⟩
    rw [lp_X11_spreads_53.eq_2, show (1 : Int32) = o3 1 from rfl, gI_o (by omega) (by omega), bd_some, ht.2.1, if_pos ((o3_le (by omega) (by omega)).mpr (by omega))]
    refine ⟨S, rfl, ?_, eL.rf⟩
    rw [show k = E.length by omega, List.take_length] at hw
    exact hw
  | succ d ih =>
    intro k m S hk hm ht hw
    obtain ⟨m, rfl⟩ : ∃ m', m = m' + 1 := ⟨m - 1, by omega⟩
    have hk2 : k < E.length := by omega
    obtain ⟨s1, s2, s3, s4, s5, -⟩ := hE _ (gd_mem (d := d5) hk2)
    have h9 : le9 ((E.take k).foldl wS1 wI) := fold_9 _ _ wI_9
    have hsy : sy ((E.take k).foldl wS1 wI) := sy_f _ _ sy_I
    obtain ⟨r1, r2, r3, -⟩ := ht.2.2.2 k hk2
    rw [lp_X11_spreads_53.eq_2, show (1 : Int32) = o3 1 from rfl, gI_o (by omega) (by omega), bd_some, ht.2.1, if_neg (fun q => by have := (o3_le (by omega) (by omega)).mp q; omega)]
    rw [show (0 : Int32) = o3 0 from rfl, show (2 : Int32) = o3 2 from rfl, m_stairOf (by omega) (by omega), bd_some, m_stairOf (by omega) (by omega), bd_some, m_stairOf (by omega) (by omega), bd_some, Nat.add_zero, r1, r2, r3, ix10, ix10, gL_o (by omega) (by omega), bd_some, hw _ _ s1 s2, o6_of3 (by omega), o3_add]
    have w9 := h9 (E.getD k d5).1 (E.getD k d5).2.1
    have wsy := hsy (E.getD k d5).1 (E.getD k d5).2.1
    have ihk : ∀ (T : fS), eL S T → rH T (wS1 ((E.take k).foldl wS1 wI) (E.getD k d5)) → ∃ S', lp_X11_spreads_53 K m (o3 (k + 1)) T = K S' ∧ rH S' (wSt E) ∧ eL S S' := by
      intro T hT hr
      obtain ⟨S', e1, e2, e3⟩ := ih (k + 1) m T (by omega) (by omega) (by rw [hT.1]; exact ht) (by rw [fl_take (d := d5) hk2]; exact hr)
      exact ⟨S', e1, e2, hT.tr e3⟩
    generalize hv : (E.take k).foldl wS1 wI = v at hw h9 hsy w9 wsy ihk
    by_cases hlt : (E.getD k d5).2.2.1 < v (E.getD k d5).1 (E.getD k d5).2.1
    · rw [if_pos ((o6_lt (by omega) (by omega)).mpr hlt), bd_some, sL_o (by omega) (by omega), bd_some, m_stairOf (by omega) (by omega), pL_1, r3, bd_some, o6_of3 (by omega), sL_o (by omega) (by omega), bd_some]
      refine ihk _ (eL_pL.tr eL_pL) (rH_cg (rH_set' s1 (rH_set' s2 hw)) (fun x y _ _ => ?_))
      unfold wS1
      by_cases c1 : x = (E.getD k d5).2.1 ∧ y = (E.getD k d5).1
      · rw [if_pos c1, if_pos (Or.inr c1), c1.1, c1.2]; omega
      · rw [if_neg c1]
        show _ = (if x = (E.getD k d5).1 ∧ y = (E.getD k d5).2.1 then _ else _)
        by_cases c2 : x = (E.getD k d5).1 ∧ y = (E.getD k d5).2.1
        · rw [if_pos c2, if_pos (Or.inl c2), c2.1, c2.2]; omega
        · rw [if_neg c2, if_neg (fun q => q.elim c2 c1)]
    · rw [if_neg (fun q => hlt ((o6_lt (by omega) (by omega)).mp q))]
      refine ihk _ eL.rf (rH_cg hw (fun x y _ _ => ?_))
      unfold wS1
      by_cases c1 : (x = (E.getD k d5).1 ∧ y = (E.getD k d5).2.1) ∨ (x = (E.getD k d5).2.1 ∧ y = (E.getD k d5).1)
      · rw [if_pos c1]
        rcases c1 with c1 | c1
        · rw [c1.1, c1.2]; omega
        · rw [c1.1, c1.2]; omega
      · rw [if_neg c1]
end
noncomputable section
theorem sp_162 {K : fS → Option fS} {w : Mx} {p a : Nat} (hz : z0 w) (h9 : le9 w) (hp : p < 10) (ha : a < 10) : ∀ d b m (S : fS), b + d = 10 → d < m → rH S (mid w p a b) → ∃ S', lp_X11_spreads_162 (o3 p) (o3 a) K m (o3 b) S = K S' ∧ rH S' (mid w p a 10) ∧ eL S S' := by
  intro d
  induction d with
  | zero =>
    intro b m S hb hm hw
    obtain ⟨m, rfl⟩ : ∃ m', m = m' + 1 := ⟨m - 1, by omega⟩
    rw [lp_X11_spreads_162.eq_2, if_pos (show (10 : Int32) ≤ o3 _ from (o3_le (a := 10) (by omega) (by omega)).mpr (by omega))]
    rw [show b = 10 by omega] at hw
    exact ⟨S, rfl, hw, eL.rf⟩
  | succ d ih =>
    intro b m S hb hm hw
    obtain ⟨m, rfl⟩ : ∃ m', m = m' + 1 := ⟨m - 1, by omega⟩
    have w9 := h9 a b
    have z1 := h9 a p
    have z2 := h9 p b
    have hmid : mid w p a b a b = w a b := by unfold mid; rw [if_neg (by omega)]
    rw [lp_X11_spreads_162.eq_2, if_neg (show ¬ (10 : Int32) ≤ o3 _ from fun q => by have := (o3_le (a := 10) (by omega) (by omega)).mp q; omega)]
    rw [ix10, ix10, ix10, gL_o (by omega) (by omega), bd_some, gL_o (by omega) (by omega), bd_some, gL_o (by omega) (by omega), bd_some, hw a p ha hp, hw p b hp (by omega), hw a b ha (by omega), mid_row hz, mid_col hz, hmid, o6_add, o3_s]
    by_cases hle : w a b ≤ w a p + w p b
    · rw [if_pos ((o6_le (by omega) (by omega)).mpr hle)]
      refine ih (b + 1) m S (by omega) (by omega) (rH_cg hw (fun x y _ _ => ?_))
      rw [mid_s]
      show (if x = a ∧ y = b then ph p w a b else mid w p a b x y) = _
      by_cases hc : x = a ∧ y = b
      · rw [if_pos hc, hc.1, hc.2, hmid]
        unfold ph
        omega
      · rw [if_neg hc]
    · rw [if_neg (fun q => hle ((o6_le (by omega) (by omega)).mp q)), bd_some, bd_some, o6_add, sL_o (by omega) (by omega), bd_some]
      obtain ⟨S', e1, e2, e3⟩ := ih (b + 1) m (pL S 161 (10 * a + b) (o6 (w a p + w p b))) (by omega) (by omega) (rH_cg (rH_set' (by omega) hw) (fun x y _ _ => by
        rw [mid_s]
        show (if x = a ∧ y = b then ph p w a b else mid w p a b x y) = (if x = a ∧ y = b then w a p + w p b else mid w p a b x y)
        by_cases hc : x = a ∧ y = b
        · rw [if_pos hc, if_pos hc]
          unfold ph
          omega
        · rw [if_neg hc, if_neg hc]))
      exact ⟨S', e1, e2, eL_pL.tr e3⟩
theorem sp_154 {K : fS → Option fS} {w : Mx} {p : Nat} (hz : z0 w) (h9 : le9 w) (hp : p < 10) : ∀ d a m (S : fS), a + d = 10 → d < m → rH S (mid w p a 0) → ∃ S', lp_X11_spreads_154 (o3 p) K m (o3 a) S = K S' ∧ rH S' (ph p w) ∧ eL S S' := by
  intro d
  induction d with
  | zero =>
    intro a m S ha hm hw
    obtain ⟨m, rfl⟩ : ∃ m', m = m' + 1 := ⟨m - 1, by omega⟩
    rw [lp_X11_spreads_154.eq_2, if_pos (show (10 : Int32) ≤ o3 _ from (o3_le (a := 10) (by omega) (by omega)).mpr (by omega))]
    refine ⟨S, rfl, rH_cg hw (fun x y hx _ => ?_), eL.rf⟩
    unfold mid
    rw [if_pos (by omega)]
  | succ d ih =>
    intro a m S ha hm hw
    obtain ⟨m, rfl⟩ : ∃ m', m = m' + 1 := ⟨m - 1, by omega⟩
    rw [lp_X11_spreads_154.eq_2, if_neg (show ¬ (10 : Int32) ≤ o3 _ from fun q => by have := (o3_le (a := 10) (by omega) (by omega)).mp q; omega)]
    obtain ⟨S1, g1, g2, g3⟩ := sp_162 (K := fun S67 => lp_X11_spreads_154 (o3 p) K m (o3 a + (1 : Int32)) S67) hz h9 hp (a := a) (by omega) 10 0 FU S (by omega) (FU_lt (by omega)) hw
    rw [show (0 : Int32) = o3 0 from rfl, g1, o3_s]
    obtain ⟨S2, k1, k2, k3⟩ := ih (a + 1) m S1 (by omega) (by omega) (rH_cg g2 (fun x y hx hy => by
      unfold mid
      by_cases hc : x < a ∨ (x = a ∧ y < 10)
      · rw [if_pos hc, if_pos (by omega)]
      · rw [if_neg hc, if_neg (by omega)]))
    exact ⟨S2, k1, k2, g3.tr k3⟩
theorem sp_146 {K : fS → Option fS} {w0 : Mx} (hz : z0 w0) (h9 : le9 w0) : ∀ d p m (S : fS), p + d = 10 → d < m → rH S (phs w0 p) → ∃ S', lp_X11_spreads_146 K m (o3 p) S = K S' ∧ rH S' (phs w0 10) ∧ eL S S' := by
  intro d
  induction d with
  | zero =>
    intro p m S hp hm hw
    obtain ⟨m, rfl⟩ : ∃ m', m = m' + 1 := ⟨m - 1, by omega⟩
    rw [lp_X11_spreads_146.eq_2, if_pos (show (10 : Int32) ≤ o3 _ from (o3_le (a := 10) (by omega) (by omega)).mpr (by omega))]
    rw [show p = 10 by omega] at hw
    exact ⟨S, rfl, hw, eL.rf⟩
  | succ d ih =>
    intro p m S hp hm hw
    obtain ⟨m, rfl⟩ : ∃ m', m = m' + 1 := ⟨m - 1, by omega⟩
    rw [lp_X11_spreads_146.eq_2, if_neg (show ¬ (10 : Int32) ≤ o3 _ from fun q => by have := (o3_le (a := 10) (by omega) (by omega)).mp q; omega)]
    obtain ⟨S1, g1, g2, g3⟩ := sp_154 (K := fun S69 => lp_X11_spreads_146 K m (o3 p + (1 : Int32)) S69) (phs_z hz p) (phs_9 h9 p) (p := p) (by omega) 10 0 FU S (by omega) (FU_lt (by omega)) (rH_cg hw (fun x y _ _ => by
      unfold mid
      rw [if_neg (by omega)]))
    rw [show (0 : Int32) = o3 0 from rfl, g1, o3_s]
    obtain ⟨S2, k1, k2, k3⟩ := ih (p + 1) m S1 (by omega) (by omega) g2
    exact ⟨S2, k1, k2, g3.tr k3⟩
theorem m_spreads {S : fS} {F : List (Nat × Nat)} {E : List (Nat × Nat × Nat × Nat × Nat)} (ht : twM (S.1 157) F E) (hF : F.length ≤ 10) (hE : E.length ≤ 12) (hq : ∀ q ∈ E, okS F.length q) : ∃ Y, f_X11_spreads S = some Y ∧ rH Y (dst E) ∧ eL S Y := by
  unfold f_X11_spreads
  obtain ⟨S1, a1, a2, a3⟩ := sp_2 (K := fun S12 => lp_X11_spreads_53 (fun S43 => lp_X11_spreads_146 (fun S71 => some S71) FU (0 : Int32) S43) FU (0 : Int32) S12) 10 0 FU S (by omega) (FU_lt (by omega)) (fun c e _ hc => absurd hc (Nat.not_lt_zero _))
  obtain ⟨S2, b1, b2, b3⟩ := sp_53 (F := F) (K := fun S43 => lp_X11_spreads_146 (fun S71 => some S71) FU (0 : Int32) S43) (fun q h => okS_mo hF (hq q h)) hE E.length 0 FU S1 (by omega) (FU_lt (by omega)) (by rw [a3.1]; exact ht) (by rw [List.take_zero]; exact a2)
  obtain ⟨S3, c1, c2, c3⟩ := sp_146 (K := fun S71 => some S71) (fold_z E wI wI_z) (fold_9 E wI wI_9) 10 0 FU S2 (by omega) (FU_lt (by omega)) b2
  refine ⟨S3, ?_, c2, a3.tr (b3.tr c3)⟩
  rw [show (0 : Int32) = o3 0 from rfl] at a1 b1 ⊢
  rw [a1, b1, c1]
end
noncomputable section
/-! the reference takes the tower that it read -/
theorem TBm_r {S T : fS} {B : TB} (h : ∀ a k, a ≠ 157 → T.1 a k = S.1 a k) (hB : TBm S B) : TBm T B := TBm_cg (fun k _ => h 145 k (by omega)) (fun a k _ => h a k (by omega)) hB
/-- row 157 alone, from place lo on below hi -/
def e157 (lo hi : Nat) (S T : fS) : Prop := (∀ a k, ¬ (a = 157 ∧ lo ≤ k ∧ k < hi) → T.1 a k = S.1 a k) ∧ T.2 = S.2
theorem e157.rf {lo hi : Nat} {S : fS} : e157 lo hi S S := ⟨fun _ _ _ => rfl, rfl⟩
theorem e157.tr {lo hi : Nat} {S T U : fS} (h : e157 lo hi S T) (g : e157 lo hi T U) : e157 lo hi S U := ⟨fun a k n => (g.1 a k n).trans (h.1 a k n), g.2.trans h.2⟩
theorem e157_pI {lo hi k : Nat} {S : fS} {x : Int32} (h1 : lo ≤ k) (h2 : k < hi) : e157 lo hi S (pI S 157 k x) := ⟨fun a j n => pI_ne (by omega), rfl⟩
theorem mt_82 {K : fS → Option (Int32 × fS)} {nf : Nat} (hnf : nf ≤ 10) : ∀ d k m (S : fS), k + d = 2 * nf → d < m → S.1 145 7 = o3 nf → (∀ j, j < k → S.1 157 (10 + j) = S.1 151 j) → ∃ S', lp_X11_tower_82 K m (o3 k) S = K S' ∧ (∀ j, j < 2 * nf → S'.1 157 (10 + j) = S.1 151 j) ∧ e157 10 30 S S' := by
  intro d
  induction d with
  | zero =>
    intro k m S hk hm h7 h
    obtain ⟨m, rfl⟩ : ∃ m', m = m' + 1 := ⟨m - 1, by omega⟩
    rw [lp_X11_tower_82.eq_2, h7, show (2 : Int32) = o3 2 from rfl, o3_mul, if_pos ((o3_le (by omega) (by omega)).mpr (by omega))]
    exact ⟨S, rfl, fun j hj => h j (by omega), e157.rf⟩
  | succ d ih =>
    intro k m S hk hm h7 h
    obtain ⟨m, rfl⟩ : ∃ m', m = m' + 1 := ⟨m - 1, by omega⟩
    rw [lp_X11_tower_82.eq_2, h7, show (2 : Int32) = o3 2 from rfl, o3_mul, if_neg (fun q => by have := (o3_le (by omega) (by omega)).mp q; omega), gI_o (by omega) (by omega), bd_some, show (10 : Int32) = o3 10 from rfl, o3_add, sI_o (by omega) (by omega), bd_some, o3_s]
    have hE : e157 10 30 S (pI S 157 (10 + k) (S.1 151 k)) := e157_pI (by omega) (by omega)
    obtain ⟨S', e1, e2, e3⟩ := ih (k + 1) m (pI S 157 (10 + k) (S.1 151 k)) (by omega) (by omega) (by rw [pI_ne (by omega)]; exact h7) (fun j hj => by
      rw [pI_ne (a := 157) (b := 151) (by omega)]
      by_cases hc : j = k
      · rw [hc, pI_eq]
      · rw [pI_ne (by omega)]; exact h j (by omega))
    exact ⟨S', e1, fun j hj => by rw [e2 j hj, pI_ne (by omega)], hE.tr e3⟩
theorem mt_115 {K : fS → Option (Int32 × fS)} {ns : Nat} (hns : ns ≤ 12) : ∀ d k m (S : fS), k + d = 5 * ns → d < m → S.1 145 8 = o3 ns → (∀ j, j < k → S.1 157 (30 + j) = S.1 152 j) → ∃ S', lp_X11_tower_115 K m (o3 k) S = K S' ∧ (∀ j, j < 5 * ns → S'.1 157 (30 + j) = S.1 152 j) ∧ e157 30 90 S S' := by
  intro d
  induction d with
  | zero =>
    intro k m S hk hm h7 h
    obtain ⟨m, rfl⟩ : ∃ m', m = m' + 1 := ⟨m - 1, by omega⟩
    rw [lp_X11_tower_115.eq_2, h7, show (5 : Int32) = o3 5 from rfl, o3_mul, if_pos ((o3_le (by omega) (by omega)).mpr (by omega))]
    exact ⟨S, rfl, fun j hj => h j (by omega), e157.rf⟩
  | succ d ih =>
    intro k m S hk hm h7 h
    obtain ⟨m, rfl⟩ : ∃ m', m = m' + 1 := ⟨m - 1, by omega⟩
    rw [lp_X11_tower_115.eq_2, h7, show (5 : Int32) = o3 5 from rfl, o3_mul, if_neg (fun q => by have := (o3_le (by omega) (by omega)).mp q; omega), gI_o (by omega) (by omega), bd_some, show (30 : Int32) = o3 30 from rfl, o3_add, sI_o (by omega) (by omega), bd_some, o3_s]
    have hE : e157 30 90 S (pI S 157 (30 + k) (S.1 152 k)) := e157_pI (by omega) (by omega)
    obtain ⟨S', e1, e2, e3⟩ := ih (k + 1) m (pI S 157 (30 + k) (S.1 152 k)) (by omega) (by omega) (by rw [pI_ne (by omega)]; exact h7) (fun j hj => by
      rw [pI_ne (a := 157) (b := 152) (by omega)]
      by_cases hc : j = k
      · rw [hc, pI_eq]
      · rw [pI_ne (by omega)]; exact h j (by omega))
    exact ⟨S', e1, fun j hj => by rw [e2 j hj, pI_ne (by omega)], hE.tr e3⟩
/-- a thing that stands -/
def st4 (S : fS) (t : Nat) (f : Int32) : fS := pI (pI (pI (pI S 157 (90 + 4 * t) f) 157 (90 + 4 * t + 1) (-1)) 157 (90 + 4 * t + 2) 0) 157 (90 + 4 * t + 3) (-1)
theorem m_stands {S : fS} {t : Nat} {f : Int32} (ht : t < 8) : f_X11_stands (o3 t) f S = some (st4 S t f) := by
  unfold f_X11_stands st4
  rw [show (90 : Int32) = o3 90 from rfl, show (4 : Int32) = o3 4 from rfl, show (1 : Int32) = o3 1 from rfl, show (2 : Int32) = o3 2 from rfl, show (3 : Int32) = o3 3 from rfl, o3_mul, o3_add, o3_add, o3_add, o3_add, sI_o (by omega) (by omega), bd_some, sI_o (by omega) (by omega), bd_some, sI_o (by omega) (by omega), bd_some, sI_o (by omega) (by omega), bd_some]
theorem st4_ne {S : fS} {t a k : Nat} {f : Int32} (h : ¬ (a = 157 ∧ 90 + 4 * t ≤ k ∧ k < 90 + 4 * t + 4)) : (st4 S t f).1 a k = S.1 a k := by
  unfold st4
  rw [pI_ne (by omega), pI_ne (by omega), pI_ne (by omega), pI_ne (by omega)]
theorem st4_eq {S : fS} {t : Nat} {f : Int32} : (st4 S t f).1 157 (90 + 4 * t) = f ∧ (st4 S t f).1 157 (90 + 4 * t + 1) = -1 ∧ (st4 S t f).1 157 (90 + 4 * t + 2) = 0 ∧ (st4 S t f).1 157 (90 + 4 * t + 3) = -1 := by
  unfold st4
  refine ⟨?_, ?_, ?_, ?_⟩
  · rw [pI_ne (by omega), pI_ne (by omega), pI_ne (by omega), pI_eq]
  · rw [pI_ne (by omega), pI_ne (by omega), pI_eq]
  · rw [pI_ne (by omega), pI_eq]
  · rw [pI_eq]
theorem st4_2 {S : fS} {t : Nat} {f : Int32} : (st4 S t f).2 = S.2 := rfl
theorem mt_148 {K : fS → Option (Int32 × fS)} {nt : Nat} (hnt : nt ≤ 8) : ∀ d k m (S : fS), k + d = nt → d < m → S.1 145 9 = o3 nt → (∀ j, j < k → S.1 157 (90 + 4 * j) = S.1 153 j ∧ S.1 157 (90 + 4 * j + 1) = -1 ∧ S.1 157 (90 + 4 * j + 2) = 0 ∧ S.1 157 (90 + 4 * j + 3) = -1 ∧ S.2 158 j = 0) → ∃ S', lp_X11_tower_148 K m (o3 k) S = K S' ∧ (∀ j, j < nt → S'.1 157 (90 + 4 * j) = S.1 153 j ∧ S'.1 157 (90 + 4 * j + 1) = -1 ∧ S'.1 157 (90 + 4 * j + 2) = 0 ∧ S'.1 157 (90 + 4 * j + 3) = -1 ∧ S'.2 158 j = 0) ∧ (∀ a k, ¬ (a = 157 ∧ 90 ≤ k ∧ k < 122) → S'.1 a k = S.1 a k) ∧ (∀ a k, ¬ a = 158 → S'.2 a k = S.2 a k) := by
  intro d
  induction d with
  | zero =>
    intro k m S hk hm h7 h
    obtain ⟨m, rfl⟩ : ∃ m', m = m' + 1 := ⟨m - 1, by omega⟩
    rw [lp_X11_tower_148.eq_2, h7, if_pos ((o3_le (by omega) (by omega)).mpr (by omega))]
    exact ⟨S, rfl, fun j hj => h j (by omega), fun _ _ _ => rfl, fun _ _ _ => rfl⟩
  | succ d ih =>
    intro k m S hk hm h7 h
    obtain ⟨m, rfl⟩ : ∃ m', m = m' + 1 := ⟨m - 1, by omega⟩
    rw [lp_X11_tower_148.eq_2, h7, if_neg (fun q => by have := (o3_le (by omega) (by omega)).mp q; omega), gI_o (by omega) (by omega), bd_some, m_stands (by omega), bd_some, sL_o (by omega) (by omega), bd_some, o3_s]
    obtain ⟨S', e1, e2, e3, e4⟩ := ih (k + 1) m (pL (st4 S k (S.1 153 k)) 158 k 0) (by omega) (by omega) (by rw [pL_1, st4_ne (by omega)]; exact h7) (fun j hj => by
      rw [pL_1, st4_ne (a := 153) (by omega)]
      by_cases hc : j = k
      · subst hc
        have q := st4_eq (S := S) (t := j) (f := S.1 153 j)
        exact ⟨q.1, q.2.1, q.2.2.1, q.2.2.2, pL_eq⟩
      · rw [st4_ne (by omega), st4_ne (by omega), st4_ne (by omega), st4_ne (by omega), pL_ne (by omega), st4_2]
        exact h j (by omega))
    refine ⟨S', e1, fun j hj => ?_, fun a j hn => ?_, fun a j hn => ?_⟩
    · have q := e2 j hj
      rw [pL_1, st4_ne (a := 153) (by omega)] at q
      exact q
    · rw [e3 a j hn, pL_1, st4_ne (by omega)]
    · rw [e4 a j hn, pL_ne (by omega), st4_2]
/-- the crowd at its beginning, as the reference holds it -/
def cwM0 (I : Nat → Int32) (A : Nat → Int64) (H : List Nat) : Prop := I 2 = o3 H.length ∧ I 3 = 0 ∧ ∀ k, k < H.length → I (90 + 4 * k) = o3 (H.getD k 0) ∧ I (90 + 4 * k + 1) = -1 ∧ I (90 + 4 * k + 2) = 0 ∧ I (90 + 4 * k + 3) = -1 ∧ A k = 0
/-- places of the reference that tower() may write -/
def wT (a k : Nat) : Prop := wR a k ∨ (a = 145 ∧ k = 16) ∨ (a = 157 ∧ (k < 5 ∨ (10 ≤ k ∧ k < 122)))
theorem tall_ok {t : Nat → Int32} {n : Nat} : ∀ f c i B, okB B → (tall t n f c i B).1 = 0 → okB (tall t n f c i B).2 := by
  intro f
  induction f with
  | zero => intro c i B _ h; exact absurd h (by show ¬ (1 = 0); omega)
  | succ f ih =>
    intro c i B hok h
    rw [tall_tl] at h ⊢
    by_cases hz : (tcl t n c B i).1 = 0
    · rw [if_pos hz] at h ⊢
      unfold tl at h ⊢
      by_cases h1 : sk t n (tcl t n c B i).2.1 < n
      · rw [if_pos h1] at h ⊢
        by_cases h2 : t (sk t n (tcl t n c B i).2.1) = 59
        · rw [if_pos h2] at h ⊢
          exact ih _ _ _ (tcl_ok hok hz).1 h
        · rw [if_neg h2] at h
          exact absurd h (by show ¬ (1 + 8 * _ = 0); omega)
      · rw [if_neg h1]
        exact (tcl_ok hok hz).1
    · rw [if_neg hz] at h; exact absurd h hz
theorem tw0_ok {t : Nat → Int32} {n : Nat} (h : (tw0 t n).1 = 0) : okB (tw0 t n).2 := tall_ok 25 0 0 _ ⟨by decide, by decide, by decide, fun q hq => absurd hq List.not_mem_nil, fun q hq => absurd hq List.not_mem_nil, fun q hq => absurd hq List.not_mem_nil⟩ h
/-- the counts -/
def ct5 (S : fS) (a b c : Int32) : fS := pI (pI (pI (pI (pI S 157 0 a) 157 1 b) 157 2 c) 157 3 0) 157 4 0
theorem ct5_ne {S : fS} {a b c : Int32} {x k : Nat} (h : ¬ (x = 157 ∧ k < 5)) : (ct5 S a b c).1 x k = S.1 x k := by
  unfold ct5
  rw [pI_ne (by omega), pI_ne (by omega), pI_ne (by omega), pI_ne (by omega), pI_ne (by omega)]
theorem ct5_eq {S : fS} {a b c : Int32} : (ct5 S a b c).1 157 0 = a ∧ (ct5 S a b c).1 157 1 = b ∧ (ct5 S a b c).1 157 2 = c ∧ (ct5 S a b c).1 157 3 = 0 ∧ (ct5 S a b c).1 157 4 = 0 := by
  unfold ct5
  refine ⟨?_, ?_, ?_, ?_, ?_⟩
  · rw [pI_ne (by omega), pI_ne (by omega), pI_ne (by omega), pI_ne (by omega), pI_eq]
  · rw [pI_ne (by omega), pI_ne (by omega), pI_ne (by omega), pI_eq]
  · rw [pI_ne (by omega), pI_ne (by omega), pI_eq]
  · rw [pI_ne (by omega), pI_eq]
  · rw [pI_eq]
theorem m_tower {S : fS} {n : Nat} (hn : S.1 145 1 = o3 n) (hl : n ≤ 400) (hb : ∀ k, byt (S.1 146 k)) : ∃ Y, f_X11_tower S = some (if (tw0 (S.1 146) n).1 = 0 then o3 (tw0 (S.1 146) n).2.1.length else -2 - o3 (tw0 (S.1 146) n).1, Y) ∧ Y.1 145 1 = 0 ∧ (∀ a k, ¬ wT a k → Y.1 a k = S.1 a k) ∧ (∀ a k, a ≠ 158 → a ≠ 161 → Y.2 a k = S.2 a k) ∧ (¬ (tw0 (S.1 146) n).1 = 0 → (∀ k, Y.1 157 k = S.1 157 k) ∧ Y.2 = S.2) ∧ ((tw0 (S.1 146) n).1 = 0 → twM (Y.1 157) (tw0 (S.1 146) n).2.1 (tw0 (S.1 146) n).2.2.1 ∧ cwM0 (Y.1 157) (Y.2 158) (tw0 (S.1 146) n).2.2.2 ∧ Y.1 157 4 = 0 ∧ rH Y (dst (tw0 (S.1 146) n).2.2.1)) := by
  unfold f_X11_tower
  rw [bd_some, bd_some, bd_some, bd_some]
  generalize hX : pI (pI (pI (pI S 145 16 6) 145 7 0) 145 8 0) 145 9 0 = X
  have xe : ∀ a k, ¬ (a = 145 ∧ (k = 16 ∨ k = 7 ∨ k = 8 ∨ k = 9)) → X.1 a k = S.1 a k := fun a k h => by rw [← hX, pI_ne (by omega), pI_ne (by omega), pI_ne (by omega), pI_ne (by omega)]
  have x2 : X.2 = S.2 := by rw [← hX]; rfl
  have xt : X.1 146 = S.1 146 := funext fun k => xe 146 k (by omega)
  obtain ⟨Y1, e1, y1, y2, y3, y4⟩ := m_reads (S := X) (n := n) (by rw [xe 145 1 (by omega)]; exact hn) hl (by rw [xt]; exact hb) (by rw [← hX, pI_ne (by omega), pI_ne (by omega), pI_ne (by omega), pI_eq]) (by rw [← hX, pI_ne (by omega), pI_ne (by omega), pI_eq]) (by rw [← hX, pI_ne (by omega), pI_eq]) (by rw [← hX, pI_eq])
  rw [xt] at e1 y2 y3
  rw [e1, bd_some]
  dsimp only
  have fr1 : ∀ a k, ¬ wT a k → Y1.1 a k = S.1 a k := fun a k h => by
    rw [y4.1 a k (fun q => h (Or.inl q)), xe a k (fun q => h (by unfold wT wR; omega))]
  have y157 : ∀ k, Y1.1 157 k = S.1 157 k := fun k => by rw [y4.1 157 k (by unfold wR; omega), xe 157 k (by omega)]
  have yL : Y1.2 = S.2 := y4.2.trans x2
  by_cases hz : (tw0 (S.1 146) n).1 = 0
  · have hok := tw0_ok hz
    have hB := y2 hz
    rw [if_pos hz, if_pos hz, if_neg (show ¬ (1 : Int32) = 0 by decide)]
    generalize hR : tw0 (S.1 146) n = R at hz hok hB
    obtain ⟨o1, o2, o3', -, o5, -⟩ := hok
    rw [show (0 : Int32) = o3 0 from rfl, show (1 : Int32) = o3 1 from rfl, show (2 : Int32) = o3 2 from rfl, show (3 : Int32) = o3 3 from rfl, show (4 : Int32) = o3 4 from rfl]
    rw [sI_o (by omega) (by omega), bd_some, sI_o (by omega) (by omega), bd_some, sI_o (by omega) (by omega), bd_some, sI_o (by omega) (by omega), bd_some, sI_o (by omega) (by omega), bd_some]
    rw [pI_ne (a := 157) (b := 145) (by omega), pI_ne (a := 157) (b := 145) (by omega), pI_ne (a := 157) (b := 145) (by omega), hB.1, hB.2.1, hB.2.2.1]
    have hC : pI (pI (pI (pI (pI Y1 157 0 (o3 R.2.1.length)) 157 1 (o3 R.2.2.1.length)) 157 2 (o3 R.2.2.2.length)) 157 3 (o3 0)) 157 4 (o3 0) = ct5 Y1 (o3 R.2.1.length) (o3 R.2.2.1.length) (o3 R.2.2.2.length) := rfl
    rw [hC]
    have c5 := ct5_eq (S := Y1) (a := o3 R.2.1.length) (b := o3 R.2.2.1.length) (c := o3 R.2.2.2.length)
    have c5n := fun (x k : Nat) (h : ¬ (x = 157 ∧ k < 5)) => ct5_ne (S := Y1) (a := o3 R.2.1.length) (b := o3 R.2.2.1.length) (c := o3 R.2.2.2.length) h
    have c52 : (ct5 Y1 (o3 R.2.1.length) (o3 R.2.2.1.length) (o3 R.2.2.2.length)).2 = Y1.2 := rfl
    generalize ct5 Y1 (o3 R.2.1.length) (o3 R.2.2.1.length) (o3 R.2.2.2.length) = C at c5 c5n c52
    obtain ⟨S1, a1, a2, a3⟩ := mt_82 (K := fun S39 => lp_X11_tower_115 (fun S48 => lp_X11_tower_148 (fun S60 => (f_X11_spreads S60).bind fun q62 => some ((q62.1 145 7), q62)) FU (o3 0) S48) FU (o3 0) S39) o1 (2 * R.2.1.length) 0 FU C (by omega) (FU_lt (by omega)) (by rw [c5n 145 7 (by omega)]; exact hB.1) (fun j hj => absurd hj (Nat.not_lt_zero _))
    rw [a1]
    have s1n := fun (x k : Nat) (h : ¬ (x = 157 ∧ k < 30)) => (a3.1 x k (by omega)).trans (c5n x k (by omega))
    obtain ⟨S2, b1, b2, b3⟩ := mt_115 (K := fun S48 => lp_X11_tower_148 (fun S60 => (f_X11_spreads S60).bind fun q62 => some ((q62.1 145 7), q62)) FU (o3 0) S48) o2 (5 * R.2.2.1.length) 0 FU S1 (by omega) (FU_lt (by omega)) (by rw [s1n 145 8 (by omega)]; exact hB.2.1) (fun j hj => absurd hj (Nat.not_lt_zero _))
    rw [b1]
    have s2n := fun (x k : Nat) (h : ¬ (x = 157 ∧ k < 90)) => (b3.1 x k (by omega)).trans (s1n x k (by omega))
    obtain ⟨S3, d1, d2, d3, d4⟩ := mt_148 (K := fun S60 => (f_X11_spreads S60).bind fun q62 => some ((q62.1 145 7), q62)) o3' R.2.2.2.length 0 FU S2 (by omega) (FU_lt (by omega)) (by rw [s2n 145 9 (by omega)]; exact hB.2.2.1) (fun j hj => absurd hj (Nat.not_lt_zero _))
    rw [d1]
    have htw : twM (S3.1 157) R.2.1 R.2.2.1 := by
      refine ⟨?_, ?_, fun k hk => ⟨?_, ?_⟩, fun k hk => ⟨?_, ?_, ?_, ?_, ?_⟩⟩
      · rw [d3 157 0 (by omega), b3.1 157 0 (by omega), a3.1 157 0 (by omega)]; exact c5.1
      · rw [d3 157 1 (by omega), b3.1 157 1 (by omega), a3.1 157 1 (by omega)]; exact c5.2.1
      · rw [d3 157 _ (by omega), b3.1 157 _ (by omega), a2 (2 * k) (by omega), c5n 151 _ (by omega)]; exact (hB.2.2.2.1 k hk).1
      · rw [d3 157 _ (by omega), b3.1 157 _ (by omega), show 10 + 2 * k + 1 = 10 + (2 * k + 1) by omega, a2 (2 * k + 1) (by omega), c5n 151 _ (by omega)]; exact (hB.2.2.2.1 k hk).2
      · rw [d3 157 _ (by omega), b2 (5 * k) (by omega), s1n 152 _ (by omega)]; exact (hB.2.2.2.2.1 k hk).1
      · rw [d3 157 _ (by omega), show 30 + 5 * k + 1 = 30 + (5 * k + 1) by omega, b2 _ (by omega), s1n 152 _ (by omega)]; exact (hB.2.2.2.2.1 k hk).2.1
      · rw [d3 157 _ (by omega), show 30 + 5 * k + 2 = 30 + (5 * k + 2) by omega, b2 _ (by omega), s1n 152 _ (by omega)]; exact (hB.2.2.2.2.1 k hk).2.2.1
      · rw [d3 157 _ (by omega), show 30 + 5 * k + 3 = 30 + (5 * k + 3) by omega, b2 _ (by omega), s1n 152 _ (by omega)]; exact (hB.2.2.2.2.1 k hk).2.2.2.1
      · rw [d3 157 _ (by omega), show 30 + 5 * k + 4 = 30 + (5 * k + 4) by omega, b2 _ (by omega), s1n 152 _ (by omega)]; exact (hB.2.2.2.2.1 k hk).2.2.2.2
    obtain ⟨Z, z1, z2, z3⟩ := m_spreads htw o1 o2 o5
    rw [z1, bd_some]
    have zn := fun (x k : Nat) (h : ¬ (x = 157 ∧ k < 122)) => (congrFun (congrFun z3.1 x) k).trans ((d3 x k (by omega)).trans (s2n x k (by omega)))
    refine ⟨Z, ?_, ?_, fun a k h => ?_, fun a k h1 h2 => ?_, fun q => absurd hz q, fun _ => ⟨by rw [z3.1]; exact htw, ⟨?_, ?_, fun k hk => ?_⟩, ?_, z2⟩⟩
    · rw [zn 145 7 (by omega), hB.1]
    · rw [zn 145 1 (by omega)]; exact y1
    · by_cases ha : a = 157 ∧ k < 122
      · have hk : 5 ≤ k ∧ k < 10 := by
          unfold wT at h
          omega
        rw [z3.1, d3 a k (by omega), b3.1 a k (by omega), a3.1 a k (by omega), c5n a k (by omega)]
        exact fr1 a k h
      · rw [zn a k ha]; exact fr1 a k h
    · rw [z3.2 a k h2, d4 a k h1, b3.2, a3.2, c52, yL]
    · rw [z3.1, d3 157 2 (by omega), b3.1 157 2 (by omega), a3.1 157 2 (by omega)]; exact c5.2.2.1
    · rw [z3.1, d3 157 3 (by omega), b3.1 157 3 (by omega), a3.1 157 3 (by omega)]; exact c5.2.2.2.1
    · have q := d2 k hk
      rw [s2n 153 k (by omega), hB.2.2.2.2.2 k hk] at q
      rw [z3.1, z3.2 158 k (by omega)]
      exact q
    · rw [z3.1, d3 157 4 (by omega), b3.1 157 4 (by omega), a3.1 157 4 (by omega)]; exact c5.2.2.2.2
  · rw [if_neg hz, if_neg hz, if_pos (show (0 : Int32) = 0 from rfl), y3 hz]
    exact ⟨Y1, rfl, y1, fr1, fun a k _ _ => by rw [yL], fun _ => ⟨y157, yL⟩, fun q => absurd q hz⟩
end
noncomputable section
/-! copies; what a scene is, and how each side holds it -/
theorem cI_get {S : fS} {a b n x k : Nat} : (cI S a b n).1 x k = if x = b ∧ k < n then S.1 a k else S.1 x k := by
  unfold cI mm_row va_cpy
  by_cases h : x = b
  · subst h
    dsimp only
    rw [if_pos rfl]
    by_cases hk : k < n
    · rw [if_pos (by omega), if_pos ⟨rfl, hk⟩, show 0 + (k - 0) = k by omega]
    · rw [if_neg (by omega), if_neg (fun q => hk q.2)]
  · dsimp only
    rw [if_neg h, if_neg (fun q => h q.1)]
theorem cL_get {S : fS} {a b n x k : Nat} : (cL S a b n).2 x k = if x = b ∧ k < n then S.2 a k else S.2 x k := by
  unfold cL mm_row va_cpy
  by_cases h : x = b
  · subst h
    dsimp only
    rw [if_pos rfl]
    by_cases hk : k < n
    · rw [if_pos (by omega), if_pos ⟨rfl, hk⟩, show 0 + (k - 0) = k by omega]
    · rw [if_neg (by omega), if_neg (fun q => hk q.2)]
  · dsimp only
    rw [if_neg h, if_neg (fun q => h q.1)]
theorem cI_ne {S : fS} {a b n x k : Nat} (h : x ≠ b) : (cI S a b n).1 x k = S.1 x k := by rw [cI_get, if_neg (fun q => h q.1)]
theorem cL_ne {S : fS} {a b n x k : Nat} (h : x ≠ b) : (cL S a b n).2 x k = S.2 x k := by rw [cL_get, if_neg (fun q => h q.1)]
theorem cI_eq {S : fS} {a b n k : Nat} (h : k < n) : (cI S a b n).1 b k = S.1 a k := by rw [cI_get, if_pos ⟨rfl, h⟩]
theorem cL_eq {S : fS} {a b n k : Nat} (h : k < n) : (cL S a b n).2 b k = S.2 a k := by rw [cL_get, if_pos ⟨rfl, h⟩]
theorem cI_2 {S : fS} {a b n : Nat} : (cI S a b n).2 = S.2 := rfl
theorem cL_1 {S : fS} {a b n : Nat} : (cL S a b n).1 = S.1 := rfl
theorem c_copyT {S : fS} {b c : Nat} (hd : b + 6 < c ∨ c + 6 < b) : ∃ Y, f_X8_copyFrom b c S = some Y ∧ Y.1 b 6 = S.1 c 6 ∧ Y.1 b 7 = S.1 c 7 ∧ (∀ k, k < 10 → Y.2 (b + 1) k = S.2 (c + 1) k) ∧ (∀ k, k < 12 → Y.1 (b + 2) k = S.1 (c + 2) k ∧ Y.1 (b + 3) k = S.1 (c + 3) k ∧ Y.1 (b + 4) k = S.1 (c + 4) k ∧ Y.2 (b + 5) k = S.2 (c + 5) k) ∧ (∀ k, k < 100 → Y.1 (b + 6) k = S.1 (c + 6) k) ∧ (∀ a k, ¬ (b ≤ a ∧ a ≤ b + 6) → Y.1 a k = S.1 a k ∧ Y.2 a k = S.2 a k) := by
  unfold f_X8_copyFrom
  simp only [bd_some]
  refine ⟨_, rfl, ?_, ?_, fun k hk => ?_, fun k hk => ⟨?_, ?_, ?_, ?_⟩, fun k hk => ?_, fun a k h => ⟨?_, ?_⟩⟩
  · rw [pI_ne (by omega), pI_eq, cI_ne (by omega), cL_1, cI_ne (by omega), cI_ne (by omega), cI_ne (by omega), cL_1]
  · rw [pI_eq, pI_ne (by omega), cI_ne (by omega), cL_1, cI_ne (by omega), cI_ne (by omega), cI_ne (by omega), cL_1]
  · rw [pI_2, pI_2, cI_2, cL_ne (by omega), cI_2, cI_2, cI_2, cL_eq hk]
  · rw [pI_ne (by omega), pI_ne (by omega), cI_ne (by omega), cL_1, cI_ne (by omega), cI_ne (by omega), cI_eq hk, cL_1]
  · rw [pI_ne (by omega), pI_ne (by omega), cI_ne (by omega), cL_1, cI_ne (by omega), cI_eq hk, cI_ne (by omega), cL_1]
  · rw [pI_ne (by omega), pI_ne (by omega), cI_ne (by omega), cL_1, cI_eq hk, cI_ne (by omega), cI_ne (by omega), cL_1]
  · rw [pI_2, pI_2, cI_2, cL_eq hk, cI_2, cI_2, cI_2, cL_ne (by omega)]
  · rw [pI_ne (by omega), pI_ne (by omega), cI_eq hk, cL_1, cI_ne (by omega), cI_ne (by omega), cI_ne (by omega), cL_1]
  · rw [pI_ne (by omega), pI_ne (by omega), cI_ne (by omega), cL_1, cI_ne (by omega), cI_ne (by omega), cI_ne (by omega), cL_1]
  · rw [pI_2, pI_2, cI_2, cL_ne (by omega), cI_2, cI_2, cI_2, cL_ne (by omega)]
theorem c_copyC {S : fS} {b c : Nat} (hd : b + 5 < c ∨ c + 5 < b) : ∃ Y, f_X0_copyFrom b c S = some Y ∧ Y.1 b 5 = S.1 c 5 ∧ Y.1 b 6 = S.1 c 6 ∧ (∀ k, k < 8 → Y.1 (b + 1) k = S.1 (c + 1) k ∧ Y.1 (b + 2) k = S.1 (c + 2) k ∧ Y.1 (b + 3) k = S.1 (c + 3) k ∧ Y.1 (b + 4) k = S.1 (c + 4) k ∧ Y.2 (b + 5) k = S.2 (c + 5) k) ∧ (∀ a k, ¬ (b ≤ a ∧ a ≤ b + 5) → Y.1 a k = S.1 a k ∧ Y.2 a k = S.2 a k) := by
  unfold f_X0_copyFrom
  simp only [bd_some]
  refine ⟨_, rfl, ?_, ?_, fun k hk => ⟨?_, ?_, ?_, ?_, ?_⟩, fun a k h => ⟨?_, ?_⟩⟩
  · rw [pI_ne (by omega), pI_eq, cL_1, cI_ne (by omega), cI_ne (by omega), cI_ne (by omega), cI_ne (by omega)]
  · rw [pI_eq, pI_ne (by omega), cL_1, cI_ne (by omega), cI_ne (by omega), cI_ne (by omega), cI_ne (by omega)]
  · rw [pI_ne (by omega), pI_ne (by omega), cL_1, cI_ne (by omega), cI_ne (by omega), cI_ne (by omega), cI_eq hk]
  · rw [pI_ne (by omega), pI_ne (by omega), cL_1, cI_ne (by omega), cI_ne (by omega), cI_eq hk, cI_ne (by omega)]
  · rw [pI_ne (by omega), pI_ne (by omega), cL_1, cI_ne (by omega), cI_eq hk, cI_ne (by omega), cI_ne (by omega)]
  · rw [pI_ne (by omega), pI_ne (by omega), cL_1, cI_eq hk, cI_ne (by omega), cI_ne (by omega), cI_ne (by omega)]
  · rw [pI_2, pI_2, cL_eq hk, cI_2, cI_2, cI_2, cI_2]
  · rw [pI_ne (by omega), pI_ne (by omega), cL_1, cI_ne (by omega), cI_ne (by omega), cI_ne (by omega), cI_ne (by omega)]
  · rw [pI_2, pI_2, cL_ne (by omega), cI_2, cI_2, cI_2, cI_2]
theorem c_copyP {S : fS} {b c : Nat} (hd : b + 4 < c ∨ c + 4 < b) : ∃ Y, f_X2_copyFrom b c S = some Y ∧ Y.1 b 4 = S.1 c 4 ∧ (∀ k, k < 12 → Y.1 (b + 1) k = S.1 (c + 1) k ∧ Y.1 (b + 2) k = S.1 (c + 2) k ∧ Y.1 (b + 3) k = S.1 (c + 3) k ∧ Y.1 (b + 4) k = S.1 (c + 4) k) ∧ (∀ a k, ¬ (b ≤ a ∧ a ≤ b + 4) → Y.1 a k = S.1 a k) ∧ Y.2 = S.2 := by
  unfold f_X2_copyFrom
  simp only [bd_some]
  refine ⟨_, rfl, ?_, fun k hk => ⟨?_, ?_, ?_, ?_⟩, fun a k h => ?_, rfl⟩
  · rw [pI_eq, cI_ne (by omega), cI_ne (by omega), cI_ne (by omega), cI_ne (by omega)]
  · rw [pI_ne (by omega), cI_ne (by omega), cI_ne (by omega), cI_ne (by omega), cI_eq hk]
  · rw [pI_ne (by omega), cI_ne (by omega), cI_ne (by omega), cI_eq hk, cI_ne (by omega)]
  · rw [pI_ne (by omega), cI_ne (by omega), cI_eq hk, cI_ne (by omega), cI_ne (by omega)]
  · rw [pI_ne (by omega), cI_eq hk, cI_ne (by omega), cI_ne (by omega), cI_ne (by omega)]
  · rw [pI_ne (by omega), cI_ne (by omega), cI_ne (by omega), cI_ne (by omega), cI_ne (by omega)]
/-! a crowd: how many, now, place, way, gone, goal, ages -/
abbrev Cw : Type := Nat × Nat × (Nat → Int32) × (Nat → Int32) × (Nat → Int32) × (Nat → Int32) × (Nat → Int64)
def cwC (S : fS) (c : Nat) (C : Cw) : Prop := S.1 c 5 = o3 C.1 ∧ S.1 c 6 = o3 C.2.1 ∧ ∀ k, k < C.1 → S.1 (c + 1) k = C.2.2.1 k ∧ S.1 (c + 2) k = C.2.2.2.1 k ∧ S.1 (c + 3) k = C.2.2.2.2.1 k ∧ S.1 (c + 4) k = C.2.2.2.2.2.1 k ∧ S.2 (c + 5) k = C.2.2.2.2.2.2 k
def cwM (I : Nat → Int32) (A : Nat → Int64) (C : Cw) : Prop := I 2 = o3 C.1 ∧ I 3 = o3 C.2.1 ∧ ∀ k, k < C.1 → I (90 + 4 * k) = C.2.2.1 k ∧ I (90 + 4 * k + 1) = C.2.2.2.1 k ∧ I (90 + 4 * k + 2) = C.2.2.2.2.1 k ∧ I (90 + 4 * k + 3) = C.2.2.2.2.2.1 k ∧ A k = C.2.2.2.2.2.2 k
def cw0 (H : List Nat) : Cw := (H.length, 0, fun k => o3 (H.getD k 0), fun _ => -1, fun _ => 0, fun _ => -1, fun _ => 0)
theorem cwC_0 {S : fS} {c : Nat} {H : List Nat} (h : cwC0 S c H) : cwC S c (cw0 H) := h
theorem cwM_0 {I : Nat → Int32} {A : Nat → Int64} {H : List Nat} (h : cwM0 I A H) : cwM I A (cw0 H) := h
/-- a thing stands on a floor, or is on a stair and goes to one of its ends -/
def okT (m : Nat) (E : List (Nat × Nat × Nat × Nat × Nat)) (p w g e : Int32) : Prop := (∃ f, f < m ∧ p = o3 f ∧ w = -1 ∧ g = 0 ∧ e = -1) ∨ (∃ s j f, s < E.length ∧ p = -1 ∧ w = o3 s ∧ g = o3 j ∧ j < (E.getD s d5).2.2.1 ∧ e = o3 f ∧ (f = (E.getD s d5).1 ∨ f = (E.getD s d5).2.1))
def okC (m : Nat) (E : List (Nat × Nat × Nat × Nat × Nat)) (C : Cw) : Prop := C.1 ≤ 8 ∧ C.2.1 ≤ 9999 ∧ ∀ k, k < C.1 → okT m E (C.2.2.1 k) (C.2.2.2.1 k) (C.2.2.2.2.1 k) (C.2.2.2.2.2.1 k) ∧ 0 ≤ (C.2.2.2.2.2.2 k).toInt ∧ (C.2.2.2.2.2.2 k).toInt ≤ 4655851200 * C.2.1
def okD (m : Nat) (E : List (Nat × Nat × Nat × Nat × Nat)) (C : Cw) : Prop := C.1 ≤ 8 ∧ C.2.1 ≤ 10199 ∧ ∀ k, k < C.1 → okT m E (C.2.2.1 k) (C.2.2.2.1 k) (C.2.2.2.2.1 k) (C.2.2.2.2.2.1 k) ∧ 0 ≤ (C.2.2.2.2.2.2 k).toInt ∧ (C.2.2.2.2.2.2 k).toInt ≤ 4655851200 * C.2.1
theorem okD_of {m : Nat} {E : List (Nat × Nat × Nat × Nat × Nat)} {C : Cw} (h : okC m E C) : okD m E C := ⟨h.1, by have := h.2.1; omega, h.2.2⟩
theorem okC_of {m : Nat} {E : List (Nat × Nat × Nat × Nat × Nat)} {C : Cw} (h : okD m E C) (h9 : C.2.1 ≤ 9999) : okC m E C := ⟨h.1, h9, h.2.2⟩
/-! letters: how many, from, to, sent -/
abbrev Po : Type := Nat × (Nat → Nat) × (Nat → Nat) × (Nat → Nat)
def poC (S : fS) (b : Nat) (D : Mx) (P : Po) : Prop := S.1 b 4 = o3 P.1 ∧ ∀ k, k < P.1 → S.1 (b + 1) k = o3 (P.2.1 k) ∧ S.1 (b + 2) k = o3 (P.2.2.1 k) ∧ S.1 (b + 3) k = o3 (P.2.2.2 k) ∧ S.1 (b + 4) k = o3 (P.2.2.2 k + D (P.2.1 k) (P.2.2.1 k))
def poM (I : Nat → Int32) (P : Po) : Prop := I 4 = o3 P.1 ∧ ∀ k, k < P.1 → I (122 + 3 * k) = o3 (P.2.1 k) ∧ I (122 + 3 * k + 1) = o3 (P.2.2.1 k) ∧ I (122 + 3 * k + 2) = o3 (P.2.2.2 k)
def okP (m : Nat) (D : Mx) (P : Po) : Prop := P.1 ≤ 12 ∧ ∀ k, k < P.1 → P.2.1 k < m ∧ P.2.2.1 k < m ∧ P.2.2.2 k ≤ 9999 ∧ D (P.2.1 k) (P.2.2.1 k) < 99999
/-! a scene -/
abbrev Sn : Type := List (Nat × Nat) × List (Nat × Nat × Nat × Nat × Nat) × Cw × Po
def rWm (S : fS) (r m : Nat) (w : Mx) : Prop := ∀ a b, a < m → b < m → S.1 r (10 * a + b) = cwv (w a b)
def rHm (S : fS) (m : Nat) (w : Mx) : Prop := ∀ a b, a < m → b < m → S.2 161 (10 * a + b) = o6 (w a b)
def scC (S : fS) (b : Nat) (s : Sn) : Prop := twC S (b + 1) s.1 s.2.1 ∧ rWm S (b + 7) s.1.length (dst s.2.1) ∧ cwC S (b + 8) s.2.2.1 ∧ poC S (b + 14) (dst s.2.1) s.2.2.2 ∧ 0 ≤ (S.1 b 3).toInt
def scM (I : Nat → Int32) (A : Nat → Int64) (s : Sn) : Prop := twM I s.1 s.2.1 ∧ cwM I A s.2.2.1 ∧ poM I s.2.2.2 ∧ 0 ≤ (I 5).toInt
def okN (s : Sn) : Prop := s.1.length ≤ 10 ∧ s.2.1.length ≤ 12 ∧ (∀ q ∈ s.1, okF q) ∧ (∀ q ∈ s.2.1, okS s.1.length q) ∧ okC s.1.length s.2.1 s.2.2.1 ∧ okP s.1.length (dst s.2.1) s.2.2.2
def sn0 (B : TB) : Sn := (B.1, B.2.1, cw0 B.2.2, (0, fun _ => 0, fun _ => 0, fun _ => 0))
theorem okN_0 {B : TB} (h : okB B) : okN (sn0 B) := by
  obtain ⟨b1, b2, b3, b4, b5, b6⟩ := h
  refine ⟨b1, b2, b4, b5, ⟨b3, Nat.zero_le _, fun k hk => ⟨Or.inl ⟨B.2.2.getD k 0, b6 _ (gd_mem hk), rfl, rfl, rfl, rfl⟩, ?_, ?_⟩⟩, ⟨Nat.zero_le _, fun k hk => absurd hk (Nat.not_lt_zero _)⟩⟩
  · show 0 ≤ (0 : Int64).toInt
    decide
  · show (0 : Int64).toInt ≤ 4655851200 * ((0 : Nat) : Int)
    decide
end
noncomputable section
/-! the class takes the tower that it read -/
/-- rows that a fault of tower() may change: the tape's reader, the spare tower and crowd -/
def wF1 (a k : Nat) : Prop := (a = 1 ∧ 1 ≤ k ∧ k ≤ 4) ∨ (24 ≤ a ∧ a ≤ 36)
def wF2 (a k : Nat) : Prop := 24 ≤ a ∧ a ≤ 36
/-- and what a tower puts in place of the one there was -/
def wG1 (a k : Nat) : Prop := wF1 a k ∨ (4 ≤ a ∧ a ≤ 16) ∨ (a = 17 ∧ k = 4)
def wG2 (a k : Nat) : Prop := wF2 a k ∨ (4 ≤ a ∧ a ≤ 16)
theorem c_tower {S : fS} {n : Nat} (hn : S.1 1 1 = o3 n) (hl : n ≤ 400) : ∃ Y, f_X10_tower S = some (if (tw0 (S.1 2) n).1 = 0 then o3 (tw0 (S.1 2) n).2.1.length else -2 - o3 (tw0 (S.1 2) n).1, Y) ∧ Y.1 1 1 = 0 ∧ (∀ a k, ¬ wG1 a k → Y.1 a k = S.1 a k) ∧ (∀ a k, ¬ wG2 a k → Y.2 a k = S.2 a k) ∧ (¬ (tw0 (S.1 2) n).1 = 0 → (∀ a k, ¬ wF1 a k → Y.1 a k = S.1 a k) ∧ (∀ a k, ¬ wF2 a k → Y.2 a k = S.2 a k)) ∧ ((tw0 (S.1 2) n).1 = 0 → twC Y 4 (tw0 (S.1 2) n).2.1 (tw0 (S.1 2) n).2.2.1 ∧ rW Y 10 (dst (tw0 (S.1 2) n).2.2.1) ∧ cwC0 Y 11 (tw0 (S.1 2) n).2.2.2 ∧ Y.1 17 4 = 0) := by
  obtain ⟨Y1, e1, y1, y2⟩ := c_read hn hl
  have hF := fr_f_X9_read e1
  unfold f_X10_tower
  rw [e1, bd_some, bd_some]
  dsimp only
  have hF1 : ∀ a k, ¬ wF1 a k → (pI Y1 1 1 0).1 a k = S.1 a k := fun a k h => by
    have hk : ¬ (a = 1 ∧ k = 1) := fun q => h (Or.inl (by omega))
    rw [pI_ne hk]
    refine hF.1 a k (fun q => h ?_)
    unfold w1_f_X9_read at q
    unfold wF1
    rcases q with q | q | q | q | q | q | q | q | q | q | q | q | q | q | q <;> omega
  have hF2 : ∀ a k, ¬ wF2 a k → (pI Y1 1 1 0).2 a k = S.2 a k := fun a k h => by
    refine hF.2 a k (fun q => h ?_)
    unfold w2_f_X9_read at q
    unfold wF2
    omega
  by_cases hz : (tw0 (S.1 2) n).1 = 0
  · obtain ⟨hB, hok, hW⟩ := y1 hz
    rw [if_pos hz, if_pos hz, if_neg (show ¬ (1 : Int32) = 0 by decide)]
    generalize hR : tw0 (S.1 2) n = R at hz hB hok hW
    obtain ⟨o1, o2, o3', -, o5, -⟩ := hok
    generalize hX : pI Y1 1 1 0 = X at hF1 hF2
    have hX1 : X.1 1 1 = 0 := by rw [← hX, pI_eq]
    have xe : ∀ a k, a ≠ 1 → X.1 a k = Y1.1 a k := fun a k h => by rw [← hX, pI_ne (by omega)]
    have x2 : X.2 = Y1.2 := by rw [← hX]; rfl
    obtain ⟨T, t1, t2, t3, t4, t5, t6, t7⟩ := c_copyT (S := X) (b := 4) (c := 24) (by omega)
    obtain ⟨U, u1, u2, u3, u4, u5⟩ := c_copyC (S := T) (b := 11) (c := 31) (by omega)
    rw [t1, bd_some, u1, bd_some, bd_some]
    obtain ⟨⟨b1, b2, b3, b4⟩, b5, b6, b7⟩ := hB
    have tw : twC U 4 R.2.1 R.2.2.1 := by
      refine ⟨?_, ?_, fun k hk => ?_, fun k hk => ⟨?_, ?_, ?_, ?_⟩⟩
      · rw [(u5 4 6 (by omega)).1, t2, xe 24 6 (by omega)]; exact b1
      · rw [(u5 4 7 (by omega)).1, t3, xe 24 7 (by omega)]; exact b2
      · rw [(u5 (4 + 1) k (by omega)).2, t4 k (by omega), x2]; exact b3 k hk
      · rw [(u5 (4 + 2) k (by omega)).1, (t5 k (by omega)).1, xe (24 + 2) k (by omega)]; exact (b4 k hk).1
      · rw [(u5 (4 + 3) k (by omega)).1, (t5 k (by omega)).2.1, xe (24 + 3) k (by omega)]; exact (b4 k hk).2.1
      · rw [(u5 (4 + 4) k (by omega)).1, (t5 k (by omega)).2.2.1, xe (24 + 4) k (by omega)]; exact (b4 k hk).2.2.1
      · rw [(u5 (4 + 5) k (by omega)).2, (t5 k (by omega)).2.2.2, x2]; exact (b4 k hk).2.2.2
    refine ⟨pI U 17 4 0, ?_, ?_, fun a k h => ?_, fun a k h => ?_, fun q => absurd hz q, fun _ => ⟨?_, fun a b ha hb => ?_, ⟨?_, ?_, fun k hk => ?_⟩, pI_eq⟩⟩
    · rw [pI_ne (by omega), tw.1]
    · rw [pI_ne (by omega), (u5 1 1 (by omega)).1, (t7 1 1 (by omega)).1, hX1]
    · have h' : ¬ wF1 a k := fun q => h (Or.inl q)
      have h2 : ¬ (4 ≤ a ∧ a ≤ 16) := fun q => h (Or.inr (Or.inl q))
      have h3 : ¬ (a = 17 ∧ k = 4) := fun q => h (Or.inr (Or.inr q))
      rw [pI_ne h3, (u5 a k (by omega)).1, (t7 a k (by omega)).1]
      exact hF1 a k h'
    · have h' : ¬ wF2 a k := fun q => h (Or.inl q)
      have h2 : ¬ (4 ≤ a ∧ a ≤ 16) := fun q => h (Or.inr q)
      rw [pI_2, (u5 a k (by omega)).2, (t7 a k (by omega)).2]
      exact hF2 a k h'
    · obtain ⟨w1, w2, w3, w4⟩ := tw
      refine ⟨?_, ?_, fun k hk => w3 k hk, fun k hk => ⟨?_, ?_, ?_, (w4 k hk).2.2.2⟩⟩
      · rw [pI_ne (by omega)]; exact w1
      · rw [pI_ne (by omega)]; exact w2
      · rw [pI_ne (by omega)]; exact (w4 k hk).1
      · rw [pI_ne (by omega)]; exact (w4 k hk).2.1
      · rw [pI_ne (by omega)]; exact (w4 k hk).2.2.1
    · rw [pI_ne (by omega), (u5 10 _ (by omega)).1]
      have h6 : T.1 10 (10 * a + b) = X.1 30 (10 * a + b) := t6 (10 * a + b) (by omega)
      rw [h6, xe 30 _ (by omega)]
      exact hW a b ha hb
    · rw [pI_ne (by omega), u2, (t7 31 5 (by omega)).1, xe 31 5 (by omega)]; exact b5
    · rw [pI_ne (by omega), u3, (t7 31 6 (by omega)).1, xe 31 6 (by omega)]; exact b6
    · rw [pI_ne (by omega), pI_ne (by omega), pI_ne (by omega), pI_ne (by omega), pI_2, (u4 k (by omega)).1, (u4 k (by omega)).2.1, (u4 k (by omega)).2.2.1, (u4 k (by omega)).2.2.2.1, (u4 k (by omega)).2.2.2.2, (t7 (31 + 1) k (by omega)).1, (t7 (31 + 2) k (by omega)).1, (t7 (31 + 3) k (by omega)).1, (t7 (31 + 4) k (by omega)).1, (t7 (31 + 5) k (by omega)).2, xe (31 + 1) k (by omega), xe (31 + 2) k (by omega), xe (31 + 3) k (by omega), xe (31 + 4) k (by omega), x2]
      exact b7 k hk
  · rw [if_neg hz, if_neg hz, if_pos (show (0 : Int32) = 0 from rfl), pI_ne (by omega), y2 hz]
    exact ⟨pI Y1 1 1 0, rfl, pI_eq, fun a k h => hF1 a k (fun q => h (Or.inl q)), fun a k h => hF2 a k (fun q => h (Or.inl q)), fun _ => ⟨hF1, hF2⟩, fun q => absurd q hz⟩
end
